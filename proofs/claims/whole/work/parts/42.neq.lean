/-! what is alike as far as the sitters go stays alike -/
def nt_eq (k : Nat) (S T : Nat → Nat → Int32) : Prop := (∀ j, j < 4 → S 0 j = T 0 j) ∧ ∀ c x, 1 ≤ c → c ≤ 6 → x < k → S c x = T c x
def nt_np (k : Nat) (S T : Nat → Nat → Int32) : Prop := (∀ j, j < 4 → S 0 j = T 0 j) ∧ ∀ c x, 1 ≤ c → c ≤ 6 → c ≠ 3 → x < k → S c x = T c x
theorem nt_eq.np {k : Nat} {S T : Nat → Nat → Int32} (h : nt_eq k S T) : nt_np k S T := ⟨h.1, fun c x a b _ d => h.2 c x a b d⟩
theorem nt_X.eq {k : Nat} {S T : Nat → Nat → Int32} {σ : sm_St} (h : nt_X k S σ) (e : nt_eq k S T) : nt_X k T σ := by
  obtain ⟨q1, q2, q3, q4, q5, q6⟩ := h
  refine ⟨q1.trans (e.1 0 (by decide)), q2.trans (e.1 1 (by decide)), q3.trans (e.1 2 (by decide)), q4.trans (e.1 3 (by decide)), fun x hx => ?_, q6⟩
  obtain ⟨a, b, c, d, f, g⟩ := q5 x hx
  exact ⟨a.trans (e.2 1 x (by decide) (by decide) hx), b.trans (e.2 2 x (by decide) (by decide) hx), c.trans (e.2 3 x (by decide) (by decide) hx), d.trans (e.2 4 x (by decide) (by decide) hx), f.trans (e.2 5 x (by decide) (by decide) hx), g.trans (e.2 6 x (by decide) (by decide) hx)⟩
theorem nt_M.eq {k : Nat} {S T : Nat → Nat → Int32} {σ : sm_St} (h : nt_M k S σ) (e : nt_eq k S T) : nt_M k T σ := by
  obtain ⟨q1, q2, q3, q5⟩ := h
  refine ⟨q1.trans (e.1 0 (by decide)), q2.trans (e.1 1 (by decide)), ?_, fun x hx => ?_⟩
  · rw [← e.1 2 (by decide), ← e.1 3 (by decide)]
    exact q3
  obtain ⟨a, b, c, d, f, g⟩ := q5 x hx
  exact ⟨a.trans (e.2 1 x (by decide) (by decide) hx), b.trans (e.2 2 x (by decide) (by decide) hx), c.trans (e.2 3 x (by decide) (by decide) hx), d.trans (e.2 4 x (by decide) (by decide) hx), f.trans (e.2 5 x (by decide) (by decide) hx), g.trans (e.2 6 x (by decide) (by decide) hx)⟩
theorem nt_seekC {k : Nat} {pl pm : Nat → Int32} {x : Int32} (h5 : k ≤ 5) (h : ∀ j, j < k → pl j = pm j) : ∀ n p, nt_seek k pl x n p = nt_seek k pm x n p := by
  intro n
  induction n with
  | zero => intro p; rfl
  | succ n ih =>
    intro p
    unfold nt_seek
    rw [pu_find_congr (q := fun j => decide (¬ nI j = x) && decide (pl j = p)) (q' := fun j => decide (¬ nI j = x) && decide (pm j = p)) k 0 (fun j _ hj => by rw [h j (by omega)]), ih]
theorem nt_skC {k m : Nat} {S T : Nat → Nat → Int32} {ed w : Int32} (h5 : k ≤ 5) (e : nt_np k S T) (hg : nt_good k m S) : nt_sk ed S w = nt_sk ed T w := by
  unfold nt_sk
  rw [← e.1 0 (by decide), ← e.1 2 (by decide)]
  rcases hg.2.1 with r | ⟨x, q, hx, -, r, -⟩
  · rw [r.1]
    simp only [if_true]
  · rw [r, nI_cl (show x < 2 ^ 31 by omega), ← e.2 1 x (by decide) (by decide) (by decide) hx]
theorem nt_goodC {k m : Nat} {S T : Nat → Nat → Int32} (e : nt_np k S T) (hg : nt_good k m S) : nt_good k m T := by
  obtain ⟨g1, g2, g3, g4⟩ := hg
  refine ⟨?_, ?_, fun x hx => ?_, fun i j hi hj => ?_⟩
  · rw [← e.1 0 (by decide)]; exact g1
  · rw [← e.1 2 (by decide), ← e.1 3 (by decide)]; exact g2
  · rw [← e.2 1 x (by decide) (by decide) (by decide) hx, ← e.2 2 x (by decide) (by decide) (by decide) hx, ← e.2 5 x (by decide) (by decide) (by decide) hx]
    exact g3 x hx
  · rw [← e.2 1 i (by decide) (by decide) (by decide) hi, ← e.2 1 j (by decide) (by decide) (by decide) hj]
    exact g4 i j hi hj
/-- row 3 stays alike too, where both pay -/
theorem nt_stepC {k m : Nat} {S T : Nat → Nat → Int32} {p q : Bool} {kn kn' nb nb' : Nat → Int32} {te ed mi w : Int32} {P : Int32 → Nat → Int32 → Int32 → Int32 → Int32 → Int32} (h5 : k ≤ 5) (hk : ∀ x, x < k → kn x = kn' x) (hb : ∀ x, x < k → nb x = nb' x) (e : nt_np k S T) (hg : nt_good k m S) : nt_np k (nt_step p k kn nb te ed P mi w S) (nt_step q k kn' nb' te ed P mi w T) ∧ (p = q → nt_eq k S T → nt_eq k (nt_step p k kn nb te ed P mi w S) (nt_step q k kn' nb' te ed P mi w T)) := by
  have esk := nt_skC (ed := ed) (w := w) h5 e hg
  have e1 : ∀ x, x < k → S 1 x = T 1 x := fun x hx => e.2 1 x (by decide) (by decide) (by decide) hx
  have e2 : ∀ x, x < k → S 2 x = T 2 x := fun x hx => e.2 2 x (by decide) (by decide) (by decide) hx
  have e4 : ∀ x, x < k → S 4 x = T 4 x := fun x hx => e.2 4 x (by decide) (by decide) (by decide) hx
  have e5 : ∀ x, x < k → S 5 x = T 5 x := fun x hx => e.2 5 x (by decide) (by decide) (by decide) hx
  have e6 : ∀ x, x < k → S 6 x = T 6 x := fun x hx => e.2 6 x (by decide) (by decide) (by decide) hx
  have ene : nt_ne S (nt_sk ed T w) = nt_ne T (nt_sk ed T w) := by
    unfold nt_ne
    rw [e.1 3 (by decide), e.1 1 (by decide)]
  have ewh : nt_wh k te (nt_sk ed T w) (S 1) = nt_wh k te (nt_sk ed T w) (T 1) := by
    unfold nt_wh
    rw [pu_find_congr (q := fun x => decide (S 1 x = nt_sk ed T w)) (q' := fun x => decide (T 1 x = nt_sk ed T w)) k 0 (fun j _ hj => by rw [e1 j (by omega)])]
  unfold nt_step
  rw [esk, ene, ewh]
  have hw := nt_whE (k := k) te (nt_sk ed T w) (T 1)
  generalize nt_sk ed T w = sk at hw ⊢
  generalize nt_wh k te sk (T 1) = wh at hw ⊢
  generalize nt_ne T sk = ne
  have F0 : ∀ j, j < 4 → nt_feel p kn P mi sk ne wh S 0 j = nt_feel q kn' P mi sk ne wh T 0 j := by
    intro j hj
    show (if j = 0 then sk else if j = 1 then ne else S 0 j) = (if j = 0 then sk else if j = 1 then ne else T 0 j)
    rw [e.1 j hj]
  have F2 : ∀ x, x < k → nt_lo wh S x = nt_lo wh T x := fun x hx => by unfold nt_lo; rw [e2 x hx]
  have F4 : ∀ x, x < k → nt_sm wh S x = nt_sm wh T x := fun x hx => by unfold nt_sm; rw [e4 x hx]
  have F5 : ∀ x, x < k → nt_lg wh S x = nt_lg wh T x := fun x hx => by unfold nt_lg; rw [e5 x hx, e2 x hx]
  have F3 : p = q → nt_eq k S T → ∀ x, x < k → nt_co p kn P mi sk wh S x = nt_co q kn' P mi sk wh T x := fun h g x hx => by
    unfold nt_co
    rw [h, g.2 3 x (by decide) (by decide) hx, e1 x hx, e2 x hx, hk x hx]
  have FN : nt_np k (nt_feel p kn P mi sk ne wh S) (nt_feel q kn' P mi sk ne wh T) := by
    refine ⟨F0, fun c x c1 c2 c3 hx => ?_⟩
    rcases (by omega : c = 1 ∨ c = 2 ∨ c = 4 ∨ c = 5 ∨ c = 6) with z | z | z | z | z <;> subst z
    · exact e1 x hx
    · exact F2 x hx
    · exact F4 x hx
    · exact F5 x hx
    · exact e6 x hx
  have FE : p = q → nt_eq k S T → nt_eq k (nt_feel p kn P mi sk ne wh S) (nt_feel q kn' P mi sk ne wh T) := by
    intro h g
    refine ⟨F0, fun c x c1 c2 hx => ?_⟩
    by_cases c3 : c = 3
    · subst c3
      exact F3 h g x hx
    · exact FN.2 c x c1 c2 c3 hx
  generalize nt_feel p kn P mi sk ne wh S = A at FN FE ⊢
  generalize nt_feel q kn' P mi sk ne wh T = B at FN FE ⊢
  have NN : nt_np k (nt_none A) (nt_none B) := by
    refine ⟨fun j hj => ?_, fun c x c1 c2 c3 hx => ?_⟩
    · show (if j = 2 ∨ j = 3 then -1 else A 0 j) = (if j = 2 ∨ j = 3 then -1 else B 0 j)
      rw [FN.1 j hj]
    · obtain ⟨c, rfl⟩ : ∃ d, c = d + 1 := ⟨c - 1, by omega⟩
      exact FN.2 (c + 1) x c1 c2 c3 hx
  have NE : p = q → nt_eq k S T → nt_eq k (nt_none A) (nt_none B) := by
    intro h g
    refine ⟨NN.1, fun c x c1 c2 hx => ?_⟩
    obtain ⟨c, rfl⟩ : ∃ d, c = d + 1 := ⟨c - 1, by omega⟩
    exact (FE h g).2 (c + 1) x c1 c2 hx
  unfold nt_end
  rcases hw with r | ⟨x, hx, r, -⟩
  · rw [if_pos r, if_pos r]
    exact ⟨NN, NE⟩
  · have n1 : ¬ wh = -1 := by rw [r]; exact nI_ne1 (by omega)
    rw [if_neg n1, if_neg n1, r, nI_cl (show x < 2 ^ 31 by omega), hk x hx, hb x hx, FN.2 2 x (by decide) (by decide) (by decide) hx]
    by_cases c : pu_up (kn' x) (nb' x) (B 2 x) = 0
    · rw [if_pos c, if_pos c]
      exact ⟨NN, NE⟩
    · rw [if_neg c, if_neg c]
      have a1 : ∀ j, j < k → A 1 j = B 1 j := fun j hj => FN.2 1 j (by decide) (by decide) (by decide) hj
      have R0 : ∀ j, j < 4 → nt_rise p k kn P mi w x A 0 j = nt_rise q k kn' P mi w x B 0 j := by
        intro j hj
        show (if j = 2 then nI x else if j = 3 then A 1 x else A 0 j) = (if j = 2 then nI x else if j = 3 then B 1 x else B 0 j)
        rw [a1 x hx, FN.1 j hj]
      have RN : ∀ c y, 1 ≤ c → c ≤ 6 → c ≠ 3 → y < k → nt_rise p k kn P mi w x A c y = nt_rise q k kn' P mi w x B c y := by
        intro c y c1 c2 c3 hy
        rcases (by omega : c = 1 ∨ c = 2 ∨ c = 4 ∨ c = 5 ∨ c = 6) with z | z | z | z | z <;> subst z
        · show upd (A 1) x (nt_seek k (A 1) (nI x) 8 (pu_goes (kn x) (A 1 x) w)) y = upd (B 1) x (nt_seek k (B 1) (nI x) 8 (pu_goes (kn' x) (B 1 x) w)) y
          rw [nt_seekC h5 a1, a1 x hx, hk x hx]
          unfold upd
          rw [a1 y hy]
        · show upd (A 2) x 0 y = upd (B 2) x 0 y
          unfold upd
          rw [FN.2 2 y (by decide) (by decide) (by decide) hy]
        · exact FN.2 4 y (by decide) (by decide) (by decide) hy
        · exact FN.2 5 y (by decide) (by decide) (by decide) hy
        · show upd (A 6) x (A 6 x + 1) y = upd (B 6) x (B 6 x + 1) y
          unfold upd
          rw [FN.2 6 y (by decide) (by decide) (by decide) hy, FN.2 6 x (by decide) (by decide) (by decide) hx]
      refine ⟨⟨R0, RN⟩, fun h g => ⟨R0, fun c y c1 c2 hy => ?_⟩⟩
      by_cases c3 : c = 3
      · subst c3
        subst h
        have G := FE rfl g
        show (if p = true then upd (A 3) x (A 3 x + P 1 x (A 1 x) (A 0 0) mi (A 2 x)) else A 3) y = (if p = true then upd (B 3) x (B 3 x + P 1 x (B 1 x) (B 0 0) mi (B 2 x)) else B 3) y
        cases p
        · exact G.2 3 y (by decide) (by decide) hy
        · simp only [if_true]
          unfold upd
          rw [G.2 3 y (by decide) (by decide) hy, G.2 3 x (by decide) (by decide) hx, a1 x hx, FN.1 0 (by decide), FN.2 2 x (by decide) (by decide) (by decide) hx]
      · exact RN c y c1 c2 c3 hy
theorem nt_runC {k : Nat} {S T : Nat → Nat → Int32} {p q : Bool} {kn kn' nb nb' W W' : Nat → Int32} {te ed : Int32} {P : Int32 → Nat → Int32 → Int32 → Int32 → Int32 → Int32} (h5 : k ≤ 5) (hk : ∀ x, x < k → kn x = kn' x) (hb : ∀ x, x < k → nb x = nb' x) (e : nt_np k S T) (hg : nt_good k 0 S) : ∀ M, M < 1000 → (∀ m, m < M → W m = W' m) → nt_np k (nt_run p k kn nb te ed P W S M) (nt_run q k kn' nb' te ed P W' T M) ∧ (p = q → nt_eq k S T → nt_eq k (nt_run p k kn nb te ed P W S M) (nt_run q k kn' nb' te ed P W' T M)) := by
  intro M
  induction M with
  | zero => intro _ _; exact ⟨e, fun _ g => g⟩
  | succ M ih =>
    intro hM hW
    obtain ⟨h1, h2⟩ := ih (by omega) (fun m hm => hW m (by omega))
    have G := @nt_goodR p k kn nb te ed P W S h5 hg M (by omega)
    have := @nt_stepC k M _ _ p q kn kn' nb nb' te ed (nI M) (W M) P h5 hk hb h1 G
    unfold nt_run
    rw [← hW M (by omega)]
    exact ⟨this.1, fun a b => this.2 a (h2 a b)⟩
