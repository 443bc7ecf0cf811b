/-! the class's minute -/
def nt_X (k : Nat) (S : Nat → Nat → Int32) (σ : sm_St) : Prop := σ.1 3 0 = S 0 0 ∧ σ.1 43 10 = S 0 1 ∧ σ.1 43 11 = S 0 2 ∧ σ.1 43 12 = S 0 3 ∧ (∀ x, x < k → σ.1 12 x = S 1 x ∧ σ.1 49 x = S 2 x ∧ σ.1 44 x = S 3 x ∧ σ.1 45 x = S 4 x ∧ σ.1 47 x = S 5 x ∧ σ.1 48 x = S 6 x) ∧ ∀ x, k ≤ x → x < 5 → σ.1 44 x = 0 ∧ σ.1 48 x = 0
section
variable {pay : Bool} {k : Nat} {P : Int32 → Nat → Int32 → Int32 → Int32 → Int32 → Int32} {σ0 σ : sm_St} {S : Nat → Nat → Int32}
theorem xf_seekL {a1 a2 a3 : Int32} {x : Nat} {σ : sm_St} (h5 : k ≤ 5) (h6 : σ.1 3 6 = nI k) (hx : x < k) (hpl : ∀ j, j < k → σ.1 12 j = S 1 j) (hd : ∀ i j, i < k → j < k → S 1 i = S 1 j → i = j) (ha : a1 = nI x) : ∀ (d i n : Nat) (p : Int32), i + d = 8 → d < n → xf_X2_rise_p66 a1 a2 a3 n σ p (nI i) = xf_X2_rise_p101 a1 a2 a3 σ (nt_seek k (S 1) (nI x) d p) := by
  subst ha
  intro d
  induction d with
  | zero =>
    intro i n p h1 h2
    obtain ⟨n, rfl⟩ : ∃ n', n = n' + 1 := ⟨n - 1, by omega⟩
    have nl : (8 : Int32) ≤ nI i := nI_le (a := 8) (by omega) (by omega)
    rw [xf_X2_rise_p66, if_pos nl]
    rfl
  | succ d ih =>
    intro i n p h1 h2
    obtain ⟨n, rfl⟩ : ∃ n', n = n' + 1 := ⟨n - 1, by omega⟩
    have fr := @pu_free (σ.1 12) (S 1) k x p h5 (fun j hj => (hpl j hj).symm) (fun i j hi hj e => hd i j hi hj (by rw [← hpl i hi, ← hpl j hj]; exact e))
    have nl : ¬ (8 : Int32) ≤ nI i := nI_ge (b := 8) (by omega) (by decide)
    rw [xf_X2_rise_p66, if_neg nl]
    simp only [xf_free h6 h5, Nat.reduceAdd, sm_cS, sm_bS, xf_round, nI_inc, nt_seek]
    by_cases c : pu_find (fun j => decide (¬ nI j = nI x) && decide (S 1 j = p)) k 0 = -1
    · have c2 := fr.mp c
      simp only [c, c2, if_true, i10, if_false]
    · have c2 := mt fr.mpr c
      simp only [c, c2, if_false, if_true]
      exact ih (i + 1) n _ (by omega) (by omega)
theorem xf_riseE {x : Nat} {m w : Int32} (h5 : k ≤ 5) (hp : nt_XP pay k P σ0) (hF : nt_XF σ0 σ) (hS : nt_X k S σ) (h6 : σ0.1 3 6 = nI k) (hx : x < k) (hd : ∀ i j, i < k → j < k → S 1 i = S 1 j → i = j) : sm_ok (xf_X2_rise (nI x) m w σ) (fun _ s => nt_XF σ0 s ∧ nt_X k (nt_rise pay k (σ0.1 6) P m w x S) s) := by
  have g5 : x < 5 := by omega
  obtain ⟨q1, q2, q3, q4, q5, q6⟩ := hS
  have k6 : σ.1 3 6 = nI k := by rw [hF.1 3 6 (by simp [nt_fx]), h6]
  unfold xf_X2_rise
  simp only [sm_bS, sm_gIn g5 (by decide : 5 < 2 ^ 31), nI_cl (show x < 2 ^ 31 by omega)]
  refine ok_c (hp.2 _ hF 1 m x (by decide) hx) (fun v t ⟨h1, h2, h3⟩ => ?_)
  have f1 := hF.ext h2 h3
  simp only [xf_goes, sm_cS]
  generalize e0 : sm_sI (sm_sI (sm_sI (sm_sI t 44 x (σ.1 44 x + v)) 48 x ((sm_sI t 44 x (σ.1 44 x + v)).1 48 x + 1)) 43 11 (nI x)) 43 12 ((sm_sI (sm_sI (sm_sI t 44 x (σ.1 44 x + v)) 48 x ((sm_sI t 44 x (σ.1 44 x + v)).1 48 x + 1)) 43 11 (nI x)).1 12 x) = u
  have fu : nt_XF σ0 u := by rw [← e0]; exact (((f1.set (by simp [nt_fx])).set (by simp [nt_fx])).set (by simp [nt_fx])).set (by simp [nt_fx])
  have u44 : u.1 44 = upd (σ.1 44) x (σ.1 44 x + v) := by rw [← e0, sm_rI 44 (by decide), sm_rI 44 (by decide), sm_rI 44 (by decide), sm_sIk.1, h2 44 (by decide) (by decide)]
  have u48 : u.1 48 = upd (σ.1 48) x (σ.1 48 x + 1) := by rw [← e0, sm_rI 48 (by decide), sm_rI 48 (by decide), sm_sIk.1, sm_rI 48 (by decide), h2 48 (by decide) (by decide)]
  have u12 : u.1 12 = σ.1 12 := by rw [← e0, sm_rI 12 (by decide), sm_rI 12 (by decide), sm_rI 12 (by decide), sm_rI 12 (by decide), h2 12 (by decide) (by decide)]
  have ulp : u.1 43 12 = σ.1 12 x := by rw [← e0, sm_rE, sm_rI 12 (by decide), sm_rI 12 (by decide), sm_rI 12 (by decide), h2 12 (by decide) (by decide)]
  have uri : u.1 43 11 = nI x := by rw [← e0, sm_rI1 43 11 (by decide), sm_rE]
  have une : u.1 43 10 = σ.1 43 10 := by rw [← e0, sm_rI1 43 10 (by decide), sm_rI1 43 10 (by decide), sm_rI1 43 10 (Or.inl (by decide)), sm_rI1 43 10 (Or.inl (by decide)), h2 43 (by decide) (by decide)]
  have uo : ∀ c, c ≠ 43 → c ≠ 44 → c ≠ 48 → c ≠ 50 → c ≠ 51 → u.1 c = σ.1 c := fun c c1 c2 c3 c4 c5 => by rw [← e0, sm_rI c c1, sm_rI c c1, sm_rI c c3, sm_rI c c2, h2 c c4 c5]
  have ku : u.1 3 6 = nI k := by rw [uo 3 (by decide) (by decide) (by decide) (by decide) (by decide), k6]
  have L := @xf_seekL k S (nI x) m w x u h5 ku hx (fun j hj => by rw [u12]; exact (q5 j hj).1) hd rfl 8 0 sm_F (pu_goes (u.1 6 x) (u.1 43 12) w) (by omega) (by have := sm_Fge; omega)
  rw [show (0 : Int32) = nI 0 from rfl, L]
  unfold xf_X2_rise_p101
  simp only [sm_bS, sm_gIn g5 (by decide : 5 < 2 ^ 31), nI_cl (show x < 2 ^ 31 by omega)]
  have e6 : u.1 6 x = σ0.1 6 x := fu.1 6 x (by simp [nt_fx])
  rw [e6, ulp, (q5 x hx).1]
  refine ok_some.mpr ⟨(fu.set (by simp [nt_fx])).set (by simp [nt_fx]), ?_, ?_, ?_, ?_, fun y hy => ⟨?_, ?_, ?_, ?_, ?_, ?_⟩, fun y hy hy5 => ?_⟩
  · rw [sm_rI 3 (by decide), sm_rI 3 (by decide), uo 3 (by decide) (by decide) (by decide) (by decide) (by decide), q1]
    rfl
  · rw [sm_rI 43 (by decide), sm_rI 43 (by decide), une, q2]
    rfl
  · rw [sm_rI 43 (by decide), sm_rI 43 (by decide), uri]
    rfl
  · rw [sm_rI 43 (by decide), sm_rI 43 (by decide), ulp, (q5 x hx).1]
    rfl
  · rw [sm_rI 12 (by decide), sm_sIk.1, u12]
    show upd (σ.1 12) x _ y = upd (S 1) x _ y
    unfold upd
    rw [(q5 y hy).1]
  · rw [sm_sIk.1, sm_rI 49 (by decide), uo 49 (by decide) (by decide) (by decide) (by decide) (by decide)]
    show upd (σ.1 49) x _ y = upd (S 2) x _ y
    unfold upd
    rw [(q5 y hy).2.1]
  · rw [sm_rI 44 (by decide), sm_rI 44 (by decide), u44, h1, (q5 x hx).1, (q5 x hx).2.1, q1]
    cases pay
    · show upd (σ.1 44) x _ y = S 3 y
      unfold upd
      split
      · rename_i e
        subst e
        simp [(q5 y hy).2.2.1]
      · exact (q5 y hy).2.2.1
    · show upd (σ.1 44) x _ y = upd (S 3) x _ y
      unfold upd
      rw [(q5 y hy).2.2.1, (q5 x hx).2.2.1]
      simp
  · rw [sm_rI 45 (by decide), sm_rI 45 (by decide), uo 45 (by decide) (by decide) (by decide) (by decide) (by decide)]
    exact (q5 y hy).2.2.2.1
  · rw [sm_rI 47 (by decide), sm_rI 47 (by decide), uo 47 (by decide) (by decide) (by decide) (by decide) (by decide)]
    exact (q5 y hy).2.2.2.2.1
  · rw [sm_rI 48 (by decide), sm_rI 48 (by decide), u48]
    show upd (σ.1 48) x _ y = upd (S 6) x _ y
    unfold upd
    rw [(q5 y hy).2.2.2.2.2, (q5 x hx).2.2.2.2.2]
  · rw [sm_rI 44 (by decide), sm_rI 44 (by decide), sm_rI 48 (by decide), sm_rI 48 (by decide), u44, u48]
    unfold upd
    rw [if_neg (by omega), if_neg (by omega)]
    exact q6 y hy hy5
end
