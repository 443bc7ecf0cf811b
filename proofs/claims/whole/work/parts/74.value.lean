/-! what a text says, of the class's code -/
def tx_lst (code : Nat → Int32) : Nat → Nat → List Int32
  | 0, _ => []
  | d + 1, i => code i :: tx_lst code d (i + 1)
def tx_V (code ends : Nat → Int32) (pt : Int32) (f : Nat → Int32) : Int32 :=
  match tx_ev f (tx_lst code ((ends pt.toNatClampNeg).toNatClampNeg - (if pt = 0 then 0 else (ends (pt - 1).toNatClampNeg).toNatClampNeg)) (if pt = 0 then 0 else (ends (pt - 1).toNatClampNeg).toNatClampNeg)) [] with
  | some (v :: _) => v
  | _ => 0
/-- the class's code and ends are those of these bytes -/
def tx_cmp (b : Nat → Int32) (n : Nat) (code ends : Nat → Int32) : Prop := n ≤ 160 ∧ ∃ β : Nat → Nat, (∀ i, i < n → b i = nI (β i) ∧ β i < 256) ∧ ∃ m, ps_tx β n = .inr m ∧ (m.1 ++ m.2.1 ++ m.2.2).length ≤ n ∧ (∀ i, i < (m.1 ++ m.2.1 ++ m.2.2).length → code i = (m.1 ++ m.2.1 ++ m.2.2).getD i 0) ∧ ends 0 = nI m.1.length ∧ ends 1 = nI (m.1 ++ m.2.1).length ∧ ends 2 = nI (m.1 ++ m.2.1 ++ m.2.2).length
theorem tx_lstE {code : Nat → Int32} : ∀ (L : List Int32) (i : Nat), (∀ j, j < L.length → code (i + j) = L.getD j 0) → tx_lst code L.length i = L
  | [], _, _ => rfl
  | x :: L, i, h => by
    show code i :: tx_lst code L.length (i + 1) = x :: L
    rw [tx_lstE L (i + 1) (fun j hj => by
      have := h (j + 1) (by simpa using hj)
      rw [show i + 1 + j = i + (j + 1) by omega, this]
      rfl)]
    have := h 0 (by simp)
    rw [Nat.add_zero] at this
    rw [this]
    rfl
/-- it can be reckoned, whatever the names say -/
theorem tx_wf {β : Nat → Nat} {n : Nat} {m : List Int32 × List Int32 × List Int32} (hn : n ≤ 160) (hβ : ∀ i, i < n → β i < 256) (h : ps_tx β n = .inr m) (env : Nat → Int32) : ∃ a b c, tx_ok env m.1 a ∧ tx_ok env m.2.1 b ∧ tx_ok env m.2.2 c := by
  obtain ⟨v, s, -, -, e⟩ := mt_read (σ := ((fun c j => if c = 2 then nI n else if c = 1 then nI (β j) else env (j - 16)), (fun _ _ => 0), fun _ _ => none)) (pt := 0) (t := 0) hn hβ (by decide) rfl (fun i hi => by
    show nI (β (160 * 0 + i)) = nI (β i)
    rw [show 160 * 0 + i = i by omega])
  rw [h] at e
  obtain ⟨-, a, b, c, e1, e2, e3, -⟩ := e
  have en : (fun i => ((fun c j => if c = 2 then nI n else if c = 1 then nI (β j) else env (j - 16)) : Nat → Nat → Int32) 0 (16 + i)) = env := by
    funext i
    show env (16 + i - 16) = env i
    rw [show 16 + i - 16 = i by omega]
  have e1 : tx_ok (fun i => ((fun c j => if c = 2 then nI n else if c = 1 then nI (β j) else env (j - 16)) : Nat → Nat → Int32) 0 (16 + i)) m.1 a := e1
  have e2 : tx_ok (fun i => ((fun c j => if c = 2 then nI n else if c = 1 then nI (β j) else env (j - 16)) : Nat → Nat → Int32) 0 (16 + i)) m.2.1 b := e2
  have e3 : tx_ok (fun i => ((fun c j => if c = 2 then nI n else if c = 1 then nI (β j) else env (j - 16)) : Nat → Nat → Int32) 0 (16 + i)) m.2.2 c := e3
  rw [en] at e1 e2 e3
  exact ⟨a, b, c, e1, e2, e3⟩
theorem tx_lst3 {code ends : Nat → Int32} {m : List Int32 × List Int32 × List Int32} (hl : (m.1 ++ m.2.1 ++ m.2.2).length ≤ 160) (hc : ∀ i, i < (m.1 ++ m.2.1 ++ m.2.2).length → code i = (m.1 ++ m.2.1 ++ m.2.2).getD i 0) : tx_lst code m.1.length 0 = m.1 ∧ tx_lst code m.2.1.length m.1.length = m.2.1 ∧ tx_lst code m.2.2.length (m.1 ++ m.2.1).length = m.2.2 := by
  have e : ∀ x y : List Int32, (x ++ y).length = x.length + y.length := fun _ _ => List.length_append
  rw [e, e] at hc
  refine ⟨tx_lstE _ _ (fun j hj => ?_), tx_lstE _ _ (fun j hj => ?_), tx_lstE _ _ (fun j hj => ?_)⟩
  · rw [Nat.zero_add, hc j (by omega), List.getD_eq_getElem?_getD, List.getElem?_append_left (by rw [e]; omega), List.getElem?_append_left hj, ← List.getD_eq_getElem?_getD]
  · rw [hc _ (by omega), List.getD_eq_getElem?_getD, List.getElem?_append_left (by rw [e]; omega), List.getElem?_append_right (by omega), show m.1.length + j - m.1.length = j by omega, ← List.getD_eq_getElem?_getD]
  · rw [e, hc _ (by omega), List.getD_eq_getElem?_getD, List.getElem?_append_right (by rw [e]; omega), e, show m.1.length + m.2.1.length + j - (m.1.length + m.2.1.length) = j by omega, ← List.getD_eq_getElem?_getD]
/-- where a part starts, how long it is, what it says -/
theorem tx_parts {b code ends f : Nat → Int32} {n : Nat} {pt : Int32} (h : tx_cmp b n code ends) (hpt : pt = 0 ∨ pt = 1 ∨ pt = 2) : ∃ s d v, s + d ≤ 160 ∧ (if pt = 0 then 0 else (ends (pt - 1).toNatClampNeg).toNatClampNeg) = s ∧ ends pt.toNatClampNeg = nI (s + d) ∧ (pt = 0 → s = 0) ∧ (pt ≠ 0 → ends (pt - 1).toNatClampNeg = nI s) ∧ tx_ok f (tx_lst code d s) v := by
  obtain ⟨hn, β, hb, m, hm, hl, hc, e0, e1, e2⟩ := h
  obtain ⟨va, vb, vc, a, bb, c⟩ := tx_wf hn (fun i hi => (hb i hi).2) hm f
  obtain ⟨l0, l1, l2⟩ := tx_lst3 (ends := ends) (by omega) hc
  have e : ∀ x y : List Int32, (x ++ y).length = x.length + y.length := fun _ _ => List.length_append
  have hl' := hl
  rw [e, e] at hl'
  rcases hpt with z | z | z <;> subst z
  · refine ⟨0, m.1.length, va, by omega, rfl, ?_, fun _ => rfl, fun h => absurd rfl h, by rw [l0]; exact a⟩
    rw [Nat.zero_add]
    exact e0
  · have z : (if (1 : Int32) = 0 then 0 else (ends ((1 : Int32) - 1).toNatClampNeg).toNatClampNeg) = m.1.length := by
      rw [if_neg i10]
      show (ends 0).toNatClampNeg = m.1.length
      rw [e0, nI_cl (by omega)]
    refine ⟨m.1.length, m.2.1.length, vb, by omega, z, ?_, fun h => absurd h i10, fun _ => e0, by rw [l1]; exact bb⟩
    rw [← e]
    exact e1
  · have i20 : ¬ (2 : Int32) = 0 := by decide
    have z : (if (2 : Int32) = 0 then 0 else (ends ((2 : Int32) - 1).toNatClampNeg).toNatClampNeg) = (m.1 ++ m.2.1).length := by
      rw [if_neg i20]
      show (ends 1).toNatClampNeg = (m.1 ++ m.2.1).length
      rw [e1, nI_cl (by rw [e]; omega)]
    refine ⟨(m.1 ++ m.2.1).length, m.2.2.length, vc, by rw [e]; omega, z, ?_, fun h => absurd h i20, fun _ => e1, by rw [l2]; exact c⟩
    rw [← e]
    exact e2
theorem tx_VE {b code ends f : Nat → Int32} {n s d : Nat} {v pt : Int32} (h1 : s + d ≤ 160) (h2 : (if pt = 0 then 0 else (ends (pt - 1).toNatClampNeg).toNatClampNeg) = s) (h3 : ends pt.toNatClampNeg = nI (s + d)) (h4 : tx_ok f (tx_lst code d s) v) : tx_V code ends pt f = v := by
  unfold tx_V
  rw [h2, h3, nI_cl (by omega), show s + d - s = d by omega, h4 []]
theorem tx_ev1C {f g : Nat → Int32} (h : ∀ i, i < 6 → f i = g i) (it : Int32) (st : List Int32) : tx_ev1 f it st = tx_ev1 g it st := by
  unfold tx_ev1
  by_cases c : (-6 : Int32) ≤ it
  · rw [if_pos c, if_pos c]
    by_cases c2 : 0 ≤ it
    · rw [if_pos c2, if_pos c2]
    · rw [if_neg c2, if_neg c2]
      obtain ⟨j, hj, e⟩ := nI_ofR (x := -1 - it) (n := 6) (by decide) (by grind) (by have e : nI 6 = 6 := rfl; rw [e]; grind)
      rw [e, nI_cl (by omega), h j hj]
  · rw [if_neg c, if_neg c]
theorem tx_evC {f g : Nat → Int32} (h : ∀ i, i < 6 → f i = g i) : ∀ (l st : List Int32), tx_ev f l st = tx_ev g l st
  | [], _ => rfl
  | it :: l, st => by
    unfold tx_ev
    rw [tx_ev1C h]
    cases tx_ev1 g it st with
    | none => rfl
    | some s => exact tx_evC h l s
theorem tx_VC {code ends f g : Nat → Int32} {pt : Int32} (h : ∀ i, i < 6 → f i = g i) : tx_V code ends pt f = tx_V code ends pt g := by
  unfold tx_V
  rw [tx_evC h]
theorem xf_joinE (op a b : Int32) (σ : sm_St) : xf_X6_joined op a b σ = some (tx_jn op a b, σ) := by
  unfold xf_X6_joined tx_jn xf_X6_joined_p102
  simp only [sm_bN]
  (repeat' split) <;> rfl
/-- the stack -/
def tx_rp (st : List Int32) (σ : sm_St) : Prop := ∀ j, j < st.length → σ.1 51 j = st.getD (st.length - 1 - j) 0
theorem tx_rpP {st : List Int32} {σ : sm_St} {v : Int32} (h : tx_rp st σ) : tx_rp (v :: st) (sm_sI σ 51 st.length v) := by
  intro j hj
  have hj : j < st.length + 1 := hj
  show _ = (v :: st).getD (st.length + 1 - 1 - j) 0
  by_cases e : j = st.length
  · subst e
    rw [sm_rE, show st.length + 1 - 1 - st.length = 0 by omega]
    rfl
  · rw [sm_rI1 51 j (Or.inr e), h j (by omega), show st.length + 1 - 1 - j = (st.length - 1 - j) + 1 by omega]
    rfl
theorem tx_rpT {a v : Int32} {r : List Int32} {σ : sm_St} (h : tx_rp (a :: r) σ) : tx_rp r σ := by
  intro j hj
  have := h j (by show j < r.length + 1; omega)
  rw [this]
  show (a :: r).getD (r.length + 1 - 1 - j) 0 = _
  rw [show r.length + 1 - 1 - j = (r.length - 1 - j) + 1 by omega]
  rfl
theorem tx_rp0 {a : Int32} {r : List Int32} {σ : sm_St} (h : tx_rp (a :: r) σ) : σ.1 51 r.length = a := by
  have := h r.length (by show r.length < r.length + 1; omega)
  rw [this]
  show (a :: r).getD (r.length + 1 - 1 - r.length) 0 = a
  rw [show r.length + 1 - 1 - r.length = 0 by omega]
  rfl
theorem xf_valueL {σ0 : sm_St} {k t e : Nat} {pt : Int32} (hk : k = 16 + t) (ht : t < 6) (hpt : pt = 0 ∨ pt = 1 ∨ pt = 2) (he : σ0.1 (28 + t) pt.toNatClampNeg = nI e) (he2 : e ≤ 160) : ∀ (d i F : Nat) (st : List Int32) (v : Int32) (σ : sm_St), i + d = e → d < F → st.length ≤ i → (∀ c, c ≠ 51 → σ.1 c = σ0.1 c) → σ.2 = σ0.2 → tx_rp st σ → tx_ev (σ0.1 50) (tx_lst (σ0.1 (22 + t)) d i) st = some [v] → sm_ok (xf_X6_value_p21 k pt 50 51 F σ (nI st.length) (nI i)) (fun r s => r = v ∧ (∀ c, c ≠ 51 → s.1 c = σ0.1 c) ∧ s.2 = σ0.2) := by
  subst hk
  have g3 : ∀ {x : Option (Int32 × sm_St)}, sm_g (sm_in pt 3) x = x := by
    intro x
    rcases hpt with z | z | z <;> subst z <;> rfl
  have k12 : 16 + t + 12 = 28 + t := by omega
  have k6 : 16 + t + 6 = 22 + t := by omega
  have l51 : xo_len 51 = 160 := rfl
  have l50 : xo_len 50 = 6 := rfl
  intro d
  induction d with
  | zero =>
    intro i F st v σ h1 h2 h3 h4 h5 h6 h7
    obtain ⟨F, rfl⟩ : ∃ n', F = n' + 1 := ⟨F - 1, by omega⟩
    have h7 : some st = some [v] := h7
    cases h7
    have n1 : nI e ≤ nI i := nI_le (by omega) (by omega)
    have n2 : (1 : Int32) ≤ nI [v].length := by
      show (1 : Int32) ≤ nI 1
      decide
    have r0 : σ.1 51 0 = v := tx_rp0 h6
    rw [xf_X6_value_p21, g3]
    simp only [sm_bN, k12, h4 (28 + t) (by omega), he]
    rw [if_pos n1, if_pos n2, l51]
    have g0 : ∀ {x : Option (Int32 × sm_St)}, sm_g (sm_in 0 160) x = x := fun {x} => rfl
    have c0 : (0 : Int32).toNatClampNeg = 0 := rfl
    rw [g0, c0, r0]
    exact ok_some.mpr ⟨rfl, h4, h5⟩
  | succ d ih =>
    intro i F st v σ h1 h2 h3 h4 h5 h6 h7
    obtain ⟨F, rfl⟩ : ∃ n', F = n' + 1 := ⟨F - 1, by omega⟩
    have n1 : ¬ nI e ≤ nI i := nI_ge (by omega) (by omega)
    have h7 : (match tx_ev1 (σ0.1 50) (σ0.1 (22 + t) i) st with | none => none | some s => tx_ev (σ0.1 50) (tx_lst (σ0.1 (22 + t)) d (i + 1)) s) = some [v] := h7
    rw [xf_X6_value_p21, g3]
    simp only [sm_bN, k12, k6, h4 (28 + t) (by omega), h4 (22 + t) (by omega), he]
    rw [if_neg n1, sm_gIn (show i < 160 by omega) (by decide : 160 < 2 ^ 31), nI_cl (show i < 2 ^ 31 by omega)]
    generalize σ0.1 (22 + t) i = it at h7 ⊢
    have next : ∀ (st' : List Int32) (σ' : sm_St), tx_ev1 (σ0.1 50) it st = some st' → st'.length ≤ i + 1 → (∀ c, c ≠ 51 → σ'.1 c = σ.1 c) → σ'.2 = σ.2 → tx_rp st' σ' → sm_ok (xf_X6_value_p21 (16 + t) pt 50 51 F σ' (nI st'.length) (nI (i + 1))) (fun r s => r = v ∧ (∀ c, c ≠ 51 → s.1 c = σ0.1 c) ∧ s.2 = σ0.2) := by
      intro st' σ' q1 q2 q3 q4 q5
      rw [q1] at h7
      exact ih (i + 1) F st' v σ' (by omega) (by omega) q2 (fun c hc => by rw [q3 c hc, h4 c hc]) (q4.trans h5) q5 h7
    unfold tx_ev1 at next
    by_cases c6 : (-6 : Int32) ≤ it
    · have c6' : ¬ it < -6 := Int32.not_lt.mpr c6
      have cl : nI st.length < Int32.ofNat (xo_len 51) := by
        rw [l51]
        exact nI_lt (b := 160) (by omega) (by decide)
      rw [if_neg c6', if_pos cl]
      rw [if_pos c6] at next
      have push : ∀ x : Int32, sm_ok (xf_X6_value_p21 (16 + t) pt 50 51 F (sm_sI σ 51 st.length x) (nI (st.length + 1)) (nI (i + 1))) (fun r s => r = v ∧ (∀ c, c ≠ 51 → s.1 c = σ0.1 c) ∧ s.2 = σ0.2) → sm_ok (xf_X6_value_p76 (16 + t) pt 50 51 (xf_X6_value_p21 (16 + t) pt 50 51 F) σ (nI st.length) (nI i) x (nI st.length)) (fun r s => r = v ∧ (∀ c, c ≠ 51 → s.1 c = σ0.1 c) ∧ s.2 = σ0.2) := by
        intro x hx
        unfold xf_X6_value_p76 xf_X6_value_p179
        simp only [sm_bN, l51, nI_inc]
        rw [sm_gIn (show st.length < 160 by omega) (by decide : 160 < 2 ^ 31), nI_cl (show st.length < 2 ^ 31 by omega)]
        exact hx
      by_cases c0 : 0 ≤ it
      · have c0' : ¬ it < 0 := Int32.not_lt.mpr c0
        rw [if_neg c0']
        rw [if_pos c0] at next
        exact push it (next (it :: st) _ rfl (by show st.length + 1 ≤ i + 1; omega) (fun c hc => sm_rI c hc) rfl (tx_rpP h6))
      · have c0' : it < 0 := Int32.not_le.mp c0
        obtain ⟨j, hj, ej⟩ := nI_ofR (x := -1 - it) (n := 6) (by decide) (by grind) (by have e : nI 6 = 6 := rfl; rw [e]; grind)
        rw [if_pos c0', ej, l50, sm_gIn hj (by decide : 6 < 2 ^ 31), nI_cl (show j < 2 ^ 31 by omega), h4 50 (by decide)]
        rw [if_neg c0, ej, nI_cl (show j < 2 ^ 31 by omega)] at next
        exact push _ (next (σ0.1 50 j :: st) _ rfl (by show st.length + 1 ≤ i + 1; omega) (fun c hc => sm_rI c hc) rfl (tx_rpP h6))
    · have c6' : it < -6 := Int32.not_le.mp c6
      rw [if_pos c6']
      rw [if_neg c6] at next
      unfold tx_ev1 at h7
      rw [if_neg c6] at h7
      cases st with
      | nil => cases h7
      | cons a r =>
        have lr : nI (a :: r).length = nI (r.length + 1) := rfl
        have h3 : r.length + 1 ≤ i := h3
        have e1 : nI (r.length + 1) - 1 = nI r.length := by rw [nI_succ]; grind
        have e2 : nI (r.length + 1) + Int32.ofInt (-1) = nI r.length := by
          have : Int32.ofInt (-1) = -1 := rfl
          rw [this, nI_succ]
          grind
        have p1 : (1 : Int32) ≤ nI (r.length + 1) := nI_le (a := 1) (by omega) (by omega)
        have un : ∀ x : Int32, sm_ok (xf_X6_value_p21 (16 + t) pt 50 51 F (sm_sI σ 51 r.length x) (nI (x :: r).length) (nI (i + 1))) (fun r s => r = v ∧ (∀ c, c ≠ 51 → s.1 c = σ0.1 c) ∧ s.2 = σ0.2) → sm_ok (xf_X6_value_p142 (16 + t) pt 50 51 (xf_X6_value_p21 (16 + t) pt 50 51 F) σ (nI (r.length + 1)) (nI i) x (nI r.length)) (fun r s => r = v ∧ (∀ c, c ≠ 51 → s.1 c = σ0.1 c) ∧ s.2 = σ0.2) := by
          intro x hx
          unfold xf_X6_value_p142 xf_X6_value_p179
          simp only [sm_bN, l51, nI_inc]
          rw [sm_gIn (show r.length < 160 by omega) (by decide : 160 < 2 ^ 31), nI_cl (show r.length < 2 ^ 31 by omega)]
          exact hx
        have r0 := tx_rp0 h6
        have p98 : ∀ l6 : Int32, xf_X6_value_p98 (16 + t) pt 50 51 (xf_X6_value_p21 (16 + t) pt 50 51 F) σ (nI (r.length + 1)) (nI i) l6 = if l6 = -128 then xf_X6_value_p142 (16 + t) pt 50 51 (xf_X6_value_p21 (16 + t) pt 50 51 F) σ (nI (r.length + 1)) (nI i) (-a) (nI r.length) else if a = 0 then xf_X6_value_p142 (16 + t) pt 50 51 (xf_X6_value_p21 (16 + t) pt 50 51 F) σ (nI (r.length + 1)) (nI i) 1 (nI r.length) else xf_X6_value_p142 (16 + t) pt 50 51 (xf_X6_value_p21 (16 + t) pt 50 51 F) σ (nI (r.length + 1)) (nI i) 0 (nI r.length) := by
          intro l6
          unfold xf_X6_value_p98
          rw [if_pos p1]
          simp only [sm_bN, e1, l51]
          rw [sm_gIn (show r.length < 160 by omega) (by decide : 160 < 2 ^ 31), nI_cl (show r.length < 2 ^ 31 by omega), r0]
        rw [lr]
        by_cases m1 : it = -128
        · rw [if_pos m1, p98, if_pos m1]
          simp only [m1, if_true] at next
          exact un _ (next (-a :: r) _ rfl (by show r.length + 1 ≤ i + 1; omega) (fun c hc => sm_rI c hc) rfl (tx_rpP (tx_rpT (v := 0) h6)))
        · rw [if_neg m1]
          by_cases m2 : it = -267
          · rw [if_pos m2, p98, if_neg m1]
            have n128 : ¬ (-267 : Int32) = -128 := by decide
            simp only [m2, n128, if_true, if_false] at next
            by_cases a0 : a = 0
            · rw [if_pos a0]
              rw [if_pos a0] at next
              exact un _ (next (1 :: r) _ rfl (by show r.length + 1 ≤ i + 1; omega) (fun c hc => sm_rI c hc) rfl (tx_rpP (tx_rpT (v := 0) h6)))
            · rw [if_neg a0]
              rw [if_neg a0] at next
              exact un _ (next (0 :: r) _ rfl (by show r.length + 1 ≤ i + 1; omega) (fun c hc => sm_rI c hc) rfl (tx_rpP (tx_rpT (v := 0) h6)))
          · rw [if_neg m2]
            simp only [m1, m2, if_false] at next h7
            cases r with
            | nil => cases h7
            | cons b r' =>
              have h3 : r'.length + 1 + 1 ≤ i := h3
              have lr2 : (b :: r').length = r'.length + 1 := rfl
              have e3 : nI (r'.length + 1) - 1 = nI r'.length := by rw [nI_succ]; grind
              have p2 : (2 : Int32) ≤ nI ((b :: r').length + 1) := nI_le (a := 2) (by rw [lr2]; omega) (by rw [lr2]; omega)
              have b0 : σ.1 51 r'.length = b := tx_rp0 (tx_rpT (v := 0) h6)
              rw [lr2] at e2 r0
              rw [if_pos p2, lr2, e2, e3, l51, sm_gIn (show r'.length < 160 by omega) (by decide : 160 < 2 ^ 31), nI_cl (show r'.length < 2 ^ 31 by omega), b0, sm_gIn (show r'.length + 1 < 160 by omega) (by decide : 160 < 2 ^ 31), nI_cl (show r'.length + 1 < 2 ^ 31 by omega), r0, xf_joinE]
              simp only [sm_cS, xf_X6_value_p179, sm_bN, nI_inc]
              rw [sm_gIn (show r'.length < 160 by omega) (by decide : 160 < 2 ^ 31)]
              exact next (tx_jn (-it) b a :: r') _ rfl (by show r'.length + 1 ≤ i + 1; omega) (fun c hc => sm_rI c hc) rfl (tx_rpP (tx_rpT (v := 0) (tx_rpT (v := 0) h6)))
theorem tx_I : nt_I tx_cmp tx_V := by
  refine ⟨fun b n code ends _ pt f g _ h => tx_VC h, fun t σ b n ht h pt hpt => ?_, fun t σ n code ends ht hn h2 h pt hpt => ?_⟩
  · obtain ⟨s, d, v, p1, p2, p3, p4, p5, p6⟩ := tx_parts (f := σ.1 50) h hpt
    rw [tx_VE (b := b) (n := n) p1 p2 p3 p6]
    have L := xf_valueL (σ0 := σ) (k := 16 + t) (t := t) (e := s + d) (pt := pt) rfl ht hpt p3 p1 d s sm_F [] v σ rfl (by have := sm_Fge; omega) (Nat.zero_le _) (fun _ _ => rfl) rfl (fun j hj => absurd hj (by simp)) (p6 [])
    unfold xf_X6_value
    by_cases z : pt = 0
    · rw [if_pos z]
      have s0 := p4 z
      subst s0
      exact L
    · rw [if_neg z]
      have g3 : ∀ {x : Option (Int32 × sm_St)}, sm_g (sm_in (pt - 1) 3) x = x := by
        intro x
        rcases hpt with y | y | y <;> subst y
        · exact absurd rfl z
        · rfl
        · rfl
      simp only [sm_bN]
      rw [g3, show 16 + t + 12 = 28 + t by omega, p5 z]
      exact L
  · have h' := h
    obtain ⟨-, β, hb, m, hm, hl, hc, e0, e1, e2⟩ := h'
    obtain ⟨v, s, m1, m2, m3⟩ := mt_read (pt := pt) hn (fun i hi => (hb i hi).2) ht h2 (fun i hi => (hb i hi).1)
    rw [hm] at m3
    obtain ⟨-, a, bb, c, q1, q2, q3, q4⟩ := m3
    obtain ⟨l0, l1, l2⟩ := tx_lst3 (ends := ends) (by omega) hc
    have e : ∀ x y : List Int32, (x ++ y).length = x.length + y.length := fun _ _ => List.length_append
    have hl' := hl
    rw [e, e] at hl'
    refine ⟨v, s, m1, ?_, fun c hc => funext fun j => m2 c j (by omega), fun j hj => m2 0 j (by omega)⟩
    rw [q4]
    rcases hpt with z | z | z <;> subst z
    · rw [if_pos rfl]
      refine (tx_VE (b := fun i => σ.1 1 (160 * t + i)) (n := n) (s := 0) (d := m.1.length) (by omega) rfl (by rw [Nat.zero_add]; exact e0) (by rw [l0]; exact q1)).symm
    · rw [if_neg i10, if_pos rfl]
      refine (tx_VE (b := fun i => σ.1 1 (160 * t + i)) (n := n) (s := m.1.length) (d := m.2.1.length) (by omega) ?_ (by rw [← e]; exact e1) (by rw [l1]; exact q2)).symm
      rw [if_neg i10]
      show (ends 0).toNatClampNeg = m.1.length
      rw [e0, nI_cl (by omega)]
    · rw [if_neg (by decide), if_neg (by decide)]
      refine (tx_VE (b := fun i => σ.1 1 (160 * t + i)) (n := n) (s := (m.1 ++ m.2.1).length) (d := m.2.2.length) (by rw [e]; omega) ?_ (by rw [← e]; exact e2) (by rw [l2]; exact q3)).symm
      rw [if_neg (by decide)]
      show (ends 1).toNatClampNeg = (m.1 ++ m.2.1).length
      rw [e1, nI_cl (by rw [e]; omega)]
