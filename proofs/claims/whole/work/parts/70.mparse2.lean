/-! the reference reads as told, and reckons -/
def cm_F (σ σ' : sm_St) : Prop := ∀ c j, ¬ (c = 0 ∧ 24 ≤ j ∧ j ≤ 30) → σ'.1 c j = σ.1 c j
theorem cm_F.rf (σ : sm_St) : cm_F σ σ := fun _ _ _ => rfl
theorem cm_F.tr {a b c : sm_St} (h : cm_F a b) (g : cm_F b c) : cm_F a c := fun x y z => (g x y z).trans (h x y z)
theorem cm_F.f {σ σ' : sm_St} (h : tm_f σ σ') : cm_F σ σ' := fun c j hc => h c j (by omega)
theorem cm_F.st {σ : sm_St} {j : Nat} {v : Int32} (h : 24 ≤ j ∧ j ≤ 30) : cm_F σ (sm_sI σ 0 j v) := fun c i hc => sm_rI1 c i (by omega)
/-- what stands while nothing was wrong; env: what the names say -/
def cm_S (β : Nat → Nat) (n t o : Nat) (env : Nat → Int32) (σ : sm_St) : Prop := tm_X β n t σ ∧ σ.1 0 28 = nI o ∧ σ.1 0 29 = 0 ∧ ∀ i, i < 6 → σ.1 0 (16 + i) = env i
theorem tm_X.F {β : Nat → Nat} {n t : Nat} {σ σ' : sm_St} (h : tm_X β n t σ) (g : cm_F σ σ') : tm_X β n t σ' := ⟨by rw [g 0 22 (by omega)]; exact h.1, by rw [g 0 23 (by omega)]; exact h.2.1, fun i hi => by rw [g 1 _ (by omega)]; exact h.2.2 i hi⟩
theorem cm_S.f {β : Nat → Nat} {n t o : Nat} {env : Nat → Int32} {σ σ' : sm_St} (h : cm_S β n t o env σ) (g : tm_f σ σ') : cm_S β n t o env σ' := ⟨h.1.f g, by rw [g 0 28 (by omega)]; exact h.2.1, by rw [g 0 29 (by omega)]; exact h.2.2.1, fun i hi => by rw [g 0 _ (by omega)]; exact h.2.2.2 i hi⟩
theorem cm_S.o {β : Nat → Nat} {n t o o' : Nat} {env : Nat → Int32} {σ : sm_St} (h : cm_S β n t o env σ) : cm_S β n t o' env (sm_sI σ 0 28 (nI o')) := ⟨h.1.F (cm_F.st (by decide)), sm_rE, by rw [sm_rI1 0 29 (by decide)]; exact h.2.2.1, fun i hi => by rw [sm_rI1 0 _ (Or.inr (by omega))]; exact h.2.2.2 i hi⟩
theorem tm_At.o {β : Nat → Nat} {n p : Nat} {σ : sm_St} {v : Int32} (h : tm_At β n p σ) : tm_At β n p (sm_sI σ 0 28 v) := by
  unfold tm_At at h ⊢
  rw [sm_rI1 0 26 (by decide), sm_rI1 0 25 (by decide), sm_rI1 0 24 (by decide)]
  exact h
def cm_Q (β : Nat → Nat) (n t o : Nat) (env : Nat → Int32) (p : Nat) (v : Int32) (σ : sm_St) : Sum Nat (List Int32 × Nat) → Prop
  | .inl q => ¬ σ.1 0 29 = 0 ∧ σ.1 0 30 = nI q
  | .inr m => cm_S β n t o env σ ∧ tm_At β n m.2 σ ∧ m.2 ≤ n ∧ tx_ok env m.1 v ∧ tx_s β n p < tx_s β n m.2
section
variable {β : Nat → Nat} {n p t o : Nat} {σ : sm_St} {env : Nat → Int32}
theorem mf_failE (h : σ.1 0 29 = 0) : ∃ σ', mf_X8_fail σ = some ((), σ') ∧ cm_F σ σ' ∧ ¬ σ'.1 0 29 = 0 ∧ σ'.1 0 30 = σ.1 0 26 := by
  refine ⟨sm_sI (sm_sI σ 0 29 1) 0 30 (σ.1 0 26), ?_, (cm_F.st (by decide)).tr (cm_F.st (by decide)), ?_, sm_rE⟩
  · unfold mf_X8_fail
    simp only [sm_bN, h, if_true, sm_rI1 0 26 (show (0 : Nat) ≠ 0 ∨ 26 ≠ 29 by decide)]
  · rw [sm_rI1 0 29 (by decide), sm_rE]
    exact i10
theorem mf_failB (h : ¬ σ.1 0 29 = 0) : mf_X8_fail σ = some ((), σ) := by
  unfold mf_X8_fail
  simp only [sm_bN, h, if_false]
theorem ms_step (hn : n ≤ 160) (ht : t < 6) (hβ : ∀ i, i < n → β i < 256) (hp : p ≤ n) (hS : cm_S β n t o env σ) (hA : tm_At β n p σ) (h0 : tx_c β n p ≠ 0) (h1 : tx_c β n p ≠ 1) : ∃ u, mf_X8_next σ = some ((), u) ∧ cm_F σ u ∧ cm_S β n t o env u ∧ tm_At β n (tx_e β n p) u ∧ tx_s β n p < tx_s β n (tx_e β n p) ∧ tx_e β n p ≤ n := by
  have h24 : σ.1 0 24 = nI (tx_e β n p) := by
    rcases hA.2 with ⟨g, -⟩ | ⟨-, -, -, g⟩ | ⟨-, g, -⟩ | ⟨-, -, -, g⟩ | ⟨g, -⟩
    · exact absurd g h0
    · exact g
    · exact g
    · exact g
    · exact absurd g h1
  obtain ⟨p1, p2, p3⟩ := tx_pos hp h0
  obtain ⟨u, u1, u2, u3⟩ := mf_nextE hn ht hβ p2 hS.1 h24
  exact ⟨u, u1, cm_F.f u2, hS.f u2, u3, p1, p2⟩
theorem mf_openE (hn : n ≤ 160) (ht : t < 6) (hβ : ∀ i, i < n → β i < 256) (ho : o ≤ 5) (hp : p ≤ n) (hS : cm_S β n t o env σ) (hA : tm_At β n p σ) (h0 : tx_c β n p ≠ 0) (h1 : tx_c β n p ≠ 1) : (5 ≤ o → ∃ u, mf_X8_opens σ = some (0, u) ∧ cm_F σ u ∧ ¬ u.1 0 29 = 0 ∧ u.1 0 30 = nI (tx_s β n p)) ∧ (¬ 5 ≤ o → ∃ u, mf_X8_opens σ = some (1, u) ∧ cm_F σ u ∧ cm_S β n t (o + 1) env u ∧ tm_At β n (tx_e β n p) u ∧ tx_s β n p < tx_s β n (tx_e β n p) ∧ tx_e β n p ≤ n) := by
  have q : nI o = 5 ↔ o = 5 := nI_eq (b := 5) (by omega) (by decide)
  have en : nI o + 1 = nI (o + 1) := nI_1 o
  refine ⟨fun h => ?_, fun h => ?_⟩
  · obtain ⟨u, u1, u2, u3, u4⟩ := mf_failE hS.2.2.1
    refine ⟨u, ?_, u2, u3, by rw [u4]; exact hA.1⟩
    unfold mf_X8_opens
    simp only [sm_bN, hS.2.1]
    rw [if_pos (q.mpr (by omega)), u1]
    rfl
  · obtain ⟨u, u1, u2, u3⟩ := ms_step hn ht hβ hp (hS.o (o' := o + 1)) hA.o h0 h1
    refine ⟨u, ?_, (cm_F.st (by decide)).tr u2, u3⟩
    unfold mf_X8_opens
    simp only [sm_bN, hS.2.1, en]
    rw [if_neg (mt q.mp (by omega)), u1]
    rfl
theorem mf_wordN {σ : sm_St} (A : List Nat) (w : Nat) (hn : n ≤ 160) (ht : t < 6) (hβ : ∀ i, i < n → β i < 256) (hp : p ≤ n) (hS : cm_S β n t o env σ) (hA : tm_At β n p σ) (hw : w < 12) (h : ∀ i, i < 8 → A.getD i 0 = if i < 6 ∧ tx_w (6 * w + i) ≠ 32 then tx_w (6 * w + i) else 0) : mf_X8_isWord (nI (A.getD 0 0)) (nI (A.getD 1 0)) (nI (A.getD 2 0)) (nI (A.getD 3 0)) (nI (A.getD 4 0)) (nI (A.getD 5 0)) (nI (A.getD 6 0)) (nI (A.getD 7 0)) σ = some (if tx_c β n p = 256 + w then 1 else 0, σ) := mf_wordE (A := fun i => A.getD i 0) hn ht hβ hp hS.1 hw h hS.2.2.1 hA
theorem mf_nameE (hn : n ≤ 160) (ht : t < 6) (hβ : ∀ i, i < n → β i < 256) (hp : p ≤ n) (hS : cm_S β n t o env σ) (hA : tm_At β n p σ) : (256 ≤ tx_c β n p ∧ tx_c β n p < 262 → mf_X8_name σ = some (env (tx_c β n p - 256), σ)) ∧ (¬ (256 ≤ tx_c β n p ∧ tx_c β n p < 262) → ∃ u, mf_X8_name σ = some (0, u) ∧ cm_F σ u ∧ ¬ u.1 0 29 = 0 ∧ u.1 0 30 = nI (tx_s β n p)) := by
  have W0 : mf_X8_isWord 112 108 97 99 101 0 0 0 σ = _ := mf_wordN [112, 108, 97, 99, 101, 0, 0, 0] 0 hn ht hβ hp hS hA (by decide) (by decide)
  have W1 : mf_X8_isWord 115 109 111 107 101 0 0 0 σ = _ := mf_wordN [115, 109, 111, 107, 101, 0, 0, 0] 1 hn ht hβ hp hS hA (by decide) (by decide)
  have W2 : mf_X8_isWord 109 105 110 117 116 101 0 0 σ = _ := mf_wordN [109, 105, 110, 117, 116, 101, 0, 0] 2 hn ht hβ hp hS hA (by decide) (by decide)
  have W3 : mf_X8_isWord 108 111 110 103 0 0 0 0 σ = _ := mf_wordN [108, 111, 110, 103, 0, 0, 0, 0] 3 hn ht hβ hp hS hA (by decide) (by decide)
  have W4 : mf_X8_isWord 110 117 109 98 101 114 0 0 σ = _ := mf_wordN [110, 117, 109, 98, 101, 114, 0, 0] 4 hn ht hβ hp hS hA (by decide) (by decide)
  have W5 : mf_X8_isWord 115 105 116 116 101 114 0 0 σ = _ := mf_wordN [115, 105, 116, 116, 101, 114, 0, 0] 5 hn ht hβ hp hS hA (by decide) (by decide)
  have E := hS.2.2.2
  have E0 : σ.1 0 16 = env 0 := E 0 (by decide)
  have E1 : σ.1 0 17 = env 1 := E 1 (by decide)
  have E2 : σ.1 0 18 = env 2 := E 2 (by decide)
  have E3 : σ.1 0 19 = env 3 := E 3 (by decide)
  have E4 : σ.1 0 20 = env 4 := E 4 (by decide)
  have E5 : σ.1 0 21 = env 5 := E 5 (by decide)
  unfold mf_X8_name
  rw [W0]
  generalize tx_c β n p = c at W1 W2 W3 W4 W5 ⊢
  constructor
  · intro h
    rcases (by omega : c = 256 ∨ c = 257 ∨ c = 258 ∨ c = 259 ∨ c = 260 ∨ c = 261) with z | z | z | z | z | z <;> subst z
    · simp only [Nat.reduceAdd, if_true, sm_cS, i10, if_false, sm_bN, E0]
    · simp only [Nat.reduceAdd, Nat.reduceEqDiff, if_true, sm_cS, i10, if_false, sm_bN, W1, E1]
    · simp only [Nat.reduceAdd, Nat.reduceEqDiff, if_true, sm_cS, i10, if_false, sm_bN, W1, W2, E2]
    · simp only [Nat.reduceAdd, Nat.reduceEqDiff, if_true, sm_cS, i10, if_false, sm_bN, W1, W2, W3, E3]
    · simp only [Nat.reduceAdd, Nat.reduceEqDiff, if_true, sm_cS, i10, if_false, sm_bN, W1, W2, W3, W4, E4]
    · simp only [Nat.reduceAdd, Nat.reduceEqDiff, if_true, sm_cS, i10, if_false, sm_bN, W1, W2, W3, W4, W5, E5]
  · intro h
    obtain ⟨u, u1, u2, u3, u4⟩ := mf_failE hS.2.2.1
    have n0 : ¬ c = 256 + 0 := by omega
    have n1 : ¬ c = 256 + 1 := by omega
    have n2 : ¬ c = 256 + 2 := by omega
    have n3 : ¬ c = 256 + 3 := by omega
    have n4 : ¬ c = 256 + 4 := by omega
    have n5 : ¬ c = 256 + 5 := by omega
    rw [if_neg n0, sm_cS, if_pos rfl, W1, if_neg n1, sm_cS, if_pos rfl, W2, if_neg n2, sm_cS, if_pos rfl, W3, if_neg n3, sm_cS, if_pos rfl, W4, if_neg n4, sm_cS, if_pos rfl, W5, if_neg n5, sm_cS, if_pos rfl, u1]
    exact ⟨u, rfl, u2, u3, by rw [u4]; exact hA.1⟩
theorem ms_loop {L : Nat → sm_St → Int32 → Option (Int32 × sm_St)} {S : sm_St → Option (Int32 × sm_St)} {q : Nat → Bool} {sub : Nat → Sum Nat (List Int32 × Nat)} (hn : n ≤ 160) (hβ : ∀ i, i < n → β i < 256) (ht : t < 6) (hq : ∀ x, q x = true → tx_op x = true) (hbad : ∀ F y v, ¬ y.1 0 29 = 0 → L (F + 1) y v = some (v, y)) (hstop : ∀ F y v p, p ≤ n → cm_S β n t o env y → tm_At β n p y → q (tx_c β n p) = false → L (F + 1) y v = some (v, y)) (hgo : ∀ F y v p, p ≤ n → cm_S β n t o env y → tm_At β n p y → q (tx_c β n p) = true → L (F + 1) y v = sm_c (mf_X8_next y) fun _ s4 => sm_c (S s4) fun v5 s6 => L F s6 (tx_jn (nI (tx_c β n p)) v v5)) (hsub : ∀ p σ, p ≤ n → cm_S β n t o env σ → tm_At β n p σ → ∃ v σ', S σ = some (v, σ') ∧ cm_F σ σ' ∧ cm_Q β n t o env p v σ' (sub p)) {p0 : Nat} : ∀ (d F p : Nat) (m : List Int32) (v : Int32) (σ : sm_St), n < d + tx_s β n p → d < F → p ≤ n → cm_S β n t o env σ → tm_At β n p σ → tx_ok env m v → tx_s β n p0 < tx_s β n p → ∃ v' σ', L F σ v = some (v', σ') ∧ cm_F σ σ' ∧ cm_Q β n t o env p0 v' σ' (ps_lp q (tx_c β n) (tx_e β n) sub d m p) := by
  intro d
  induction d with
  | zero =>
    intro F p m v σ h1 h2 h4
    have := (tx_sB (β := β) h4).2
    omega
  | succ d ih =>
    intro F p m v σ h1 h2 h4 h5 h6 h7 h8
    obtain ⟨F, rfl⟩ : ∃ n', F = n' + 1 := ⟨F - 1, by omega⟩
    unfold ps_lp
    cases c : q (tx_c β n p) with
    | false =>
      rw [if_neg (by simp), hstop F σ v p h4 h5 h6 c]
      exact ⟨v, σ, rfl, cm_F.rf _, h5, h6, h4, h7, h8⟩
    | true =>
      have co := hq _ c
      have c01 : tx_c β n p ≠ 0 ∧ tx_c β n p ≠ 1 := by
        unfold tx_op at co
        have co := of_decide_eq_true co
        omega
      rw [if_pos rfl, hgo F σ v p h4 h5 h6 c]
      obtain ⟨u, u1, u2, u3, u4, u5, u6⟩ := ms_step hn ht hβ h4 h5 h6 c01.1 c01.2
      obtain ⟨r, w, w1, w2, w3⟩ := hsub (tx_e β n p) u u6 u3 u4
      rw [u1]
      simp only [sm_cS, w1]
      cases e : sub (tx_e β n p) with
      | inl f =>
        rw [e] at w3
        obtain ⟨F, rfl⟩ : ∃ n', F = n' + 1 := ⟨F - 1, by omega⟩
        rw [hbad F w _ w3.1]
        exact ⟨_, w, rfl, u2.tr w2, w3⟩
      | inr x =>
        rw [e] at w3
        obtain ⟨w4, w5, w6, w7, w8⟩ := w3
        obtain ⟨v', z, z1, z2, z3⟩ := ih F x.2 (m ++ x.1 ++ [-(nI (tx_c β n p))]) (tx_jn (nI (tx_c β n p)) v r) w (by omega) (by omega) w6 w4 w5 (tx_okB co h7 w7) (by omega)
        exact ⟨v', z, z1, (u2.tr w2).tr z2, z3⟩
end
