/-! the reference's minute: one after the other, who gets up -/
theorem pu_or0 : ∀ w, w < 5 → ∀ i, i < 5 → nI (2 ^ w) ||| (0 : Int32) <<< (nI i &&& 31) = nI (2 ^ w) ∧ (0 : Int32) ||| 0 <<< (nI i &&& 31) = 0 ∧ (0 : Int32) ||| 1 <<< (nI i &&& 31) = nI (2 ^ i) := by decide
section
variable {k : Nat} {P : Int32 → Nat → Int32 → Int32 → Int32 → Int32 → Int32} {σ0 σ : sm_St} {S : Nat → Nat → Int32}
theorem mf_seekL {a1 : Int32} {x : Nat} {σ : sm_St} (h5 : k ≤ 5) (h15 : σ.1 0 15 = nI k) (hpl : ∀ j, j < k → σ.1 6 j = S 1 j) : ∀ (n N q : Nat), n < N → q < 8 → (∃ j, j < n ∧ pu_find (fun i => decide (¬ nI i = nI x) && decide (S 1 i = nI ((q + j) % 8))) k 0 = -1) → mf_X8_firstFree_p2 a1 (nI x) N σ (nI q) = some (nt_seek k (S 1) (nI x) n (nI q), σ) := by
  intro n
  induction n with
  | zero => intro N q _ _ ⟨j, hj, _⟩; omega
  | succ n ih =>
    intro N q hN hq ⟨j, hj, e⟩
    obtain ⟨N, rfl⟩ : ∃ N', N = N' + 1 := ⟨N - 1, by omega⟩
    rw [mf_X8_firstFree_p2, mf_onPlace h15 h5]
    have ec : pu_find (fun y => decide (¬ nI y = nI x) && decide (σ.1 6 y = nI q)) k 0 = pu_find (fun y => decide (¬ nI y = nI x) && decide (S 1 y = nI q)) k 0 := pu_find_congr k 0 (fun j _ hj => by rw [hpl j (by omega)])
    simp only [sm_cS, ec, sm_bS]
    unfold nt_seek
    by_cases c : pu_find (fun y => decide (¬ nI y = nI x) && decide (S 1 y = nI q)) k 0 = -1
    · simp only [c, if_true]
    · simp only [c, if_false]
      rw [mf_roundN (w := 1) hq (by decide), pu_add7 q hq]
      simp only [sm_cS]
      cases j with
      | zero =>
        rw [Nat.add_zero, Nat.mod_eq_of_lt hq] at e
        exact absurd e c
      | succ j =>
        refine ih N ((q + 1) % 8) (by omega) (Nat.mod_lt _ (by decide)) ⟨j, by omega, ?_⟩
        rw [show ((q + 1) % 8 + j) % 8 = (q + (j + 1)) % 8 by omega]
        exact e
theorem mf_riseE {x f m1 : Nat} {m w : Int32} (h5 : k ≤ 5) (hp : nt_MP k P σ0) (h15 : σ0.1 0 15 = nI k) (hF : nt_MF σ0 σ) (hw : -1 ≤ w ∧ w ≤ 1) (hx : x < k) (hg : nt_good k m1 S) (q1 : σ.1 0 7 = S 0 0) (q2 : σ.1 0 38 = S 0 1) (q3 : σ.1 0 37 = 0) (q4 : ∀ x, x < k → σ.1 6 x = S 1 x ∧ σ.1 7 x = S 2 x ∧ σ.1 8 x = S 3 x ∧ σ.1 9 x = S 4 x ∧ σ.1 10 x = S 5 x ∧ σ.1 11 x = S 6 x) : ∃ t, mf_X8_passes_p214 m w (f + 1) σ (nI (2 ^ x)) (nI x) = mf_X8_passes_p214 m w f t (nI (2 ^ x)) (nI (x + 1)) ∧ nt_MF σ0 t ∧ nt_M k (nt_end true k (σ0.1 4) (σ0.1 5) P m w (nI x) S) t := by
  have g5 : x < 5 := by omega
  have nl : ¬ nI k ≤ nI x := nI_ge hx (by omega)
  have n1 : ¬ nI x = -1 := nI_ne1 (by omega)
  have b15 : σ.1 0 15 = nI k := by rw [hF 0 15 (by simp [nt_fm]), h15]
  have b4 : σ.1 4 x = σ0.1 4 x := hF 4 x (by simp [nt_fm])
  have b5 : σ.1 5 x = σ0.1 5 x := hF 5 x (by simp [nt_fm])
  have e7 : σ.1 7 x = S 2 x := (q4 x hx).2.1
  rw [mf_X8_passes_p214]
  simp only [sm_bS, b15, nl, if_false, pu_bit x g5 x g5, if_true, sm_gIn g5 (by decide : 5 < 2 ^ 31), nI_cl (show x < 2 ^ 31 by omega), mf_getsUp g5, b4, b5, sm_cS, e7, mf_X8_passes_p347, nI_inc]
  unfold nt_end
  rw [if_neg n1, nI_cl (show x < 2 ^ 31 by omega)]
  by_cases c : pu_up (σ0.1 4 x) (σ0.1 5 x) (S 2 x) = 0
  · simp only [c, if_true]
    exact ⟨σ, rfl, hF, q1, q2, Or.inl ⟨rfl, q3⟩, q4⟩
  · simp only [c, if_false]
    obtain ⟨v, s, e0, h1, h2, h3, h4⟩ := hp σ hF 1 m (S 2 x) x (by decide) hx
    have f1 := hF.ext h3 h4
    rw [e0]
    simp only [sm_cS]
    obtain ⟨⟨p, hp8, px⟩, -⟩ := hg.2.2.1 x hx
    have r1 : 0 ≤ S 1 x ∧ S 1 x ≤ 7 := by
      rw [px]
      exact ⟨nI_pos' (by omega), nI_le (b := 7) (by omega) (by decide)⟩
    have s6 : s.1 6 x = S 1 x := by rw [h3 6 (by decide), (q4 x hx).1]
    have s4 : s.1 4 x = σ0.1 4 x := by rw [h3 4 (by decide), b4]
    simp only [sm_rI 6 (by decide : 6 ≠ 8), sm_rI 6 (by decide : 6 ≠ 12), s6]
    rw [mf_goes g5 r1 hw]
    simp only [sm_cS, sm_rI 4 (by decide : 4 ≠ 8), sm_rI 4 (by decide : 4 ≠ 12), s4]
    obtain ⟨y, hy, ey⟩ : ∃ y, y < 8 ∧ pu_goes (σ0.1 4 x) (S 1 x) w = nI y := by unfold pu_goes; exact pu_and8 _
    obtain ⟨j, hj, ej⟩ := nt_pig (pl := S 1) h5 hx hg.2.2.2 hy
    unfold mf_X8_firstFree
    have L := @mf_seekL k S (nI y) x (sm_sI (sm_sI s 8 x (σ.1 8 x + v)) 12 x (S 1 x)) h5 (by rw [sm_rI 0 (by decide), sm_rI 0 (by decide), h4 15 (by decide), b15]) (fun j hj => by rw [sm_rI 6 (by decide), sm_rI 6 (by decide), h3 6 (by decide), (q4 j hj).1]) 8 sm_F y (by have := sm_Fge; omega) hy ⟨j, by omega, ej⟩
    rw [ey, L, ← ey]
    simp only [sm_cS]
    generalize eP : nt_seek k (S 1) (nI x) 8 (pu_goes (σ0.1 4 x) (S 1 x) w) = np
    refine ⟨_, rfl, ?_, ?_, ?_, ?_, fun z hz => ⟨?_, ?_, ?_, ?_, ?_, ?_⟩⟩
    · exact (((((f1.set (by simp [nt_fm])).set (by simp [nt_fm])).set (by simp [nt_fm, g5])).set (by simp [nt_fm])).set (by simp [nt_fm])).set (by simp [nt_fm])
    · rw [sm_rI1 0 7 (by decide), sm_rI 0 (by decide), sm_rI 0 (by decide), sm_rI 0 (by decide), sm_rI 0 (by decide), sm_rI 0 (by decide), h4 7 (by decide)]
      exact q1
    · rw [sm_rI1 0 38 (by decide), sm_rI 0 (by decide), sm_rI 0 (by decide), sm_rI 0 (by decide), sm_rI 0 (by decide), sm_rI 0 (by decide), h4 38 (by decide)]
      exact q2
    · refine Or.inr ⟨x, hx, rfl, ?_, ?_⟩
      · rw [sm_rE, sm_rI 0 (by decide), sm_rI 0 (by decide), sm_rI 0 (by decide), sm_rI 0 (by decide), sm_rI 0 (by decide), h4 37 (by decide), q3]
        exact (pu_or0 0 (by decide) x g5).2.2
      · rw [sm_rI 12 (by decide), sm_rI 12 (by decide), sm_rI 12 (by decide), sm_rI 12 (by decide), sm_rE]
        rfl
    · rw [sm_rI 6 (by decide), sm_rI 6 (by decide), sm_rI 6 (by decide), sm_sIk.1, sm_rI 6 (by decide), sm_rI 6 (by decide), h3 6 (by decide)]
      show upd (σ.1 6) x np z = upd (S 1) x (nt_seek k (S 1) (nI x) 8 (pu_goes (σ0.1 4 x) (S 1 x) w)) z
      rw [eP]
      unfold upd
      rw [(q4 z hz).1]
    · rw [sm_rI 7 (by decide), sm_rI 7 (by decide), sm_sIk.1, sm_rI 7 (by decide), sm_rI 7 (by decide), sm_rI 7 (by decide), h3 7 (by decide)]
      show upd (σ.1 7) x 0 z = upd (S 2) x 0 z
      unfold upd
      rw [(q4 z hz).2.1]
    · rw [sm_rI 8 (by decide), sm_rI 8 (by decide), sm_rI 8 (by decide), sm_rI 8 (by decide), sm_rI 8 (by decide), sm_sIk.1, h3 8 (by decide), h1, (q4 x hx).1, q1, (q4 x hx).2.2.1]
      show upd (σ.1 8) x _ z = upd (S 3) x _ z
      unfold upd
      rw [(q4 z hz).2.2.1]
    · rw [sm_rI 9 (by decide), sm_rI 9 (by decide), sm_rI 9 (by decide), sm_rI 9 (by decide), sm_rI 9 (by decide), sm_rI 9 (by decide), h3 9 (by decide)]
      exact (q4 z hz).2.2.2.1
    · rw [sm_rI 10 (by decide), sm_rI 10 (by decide), sm_rI 10 (by decide), sm_rI 10 (by decide), sm_rI 10 (by decide), sm_rI 10 (by decide), h3 10 (by decide)]
      exact (q4 z hz).2.2.2.2.1
    · rw [sm_rI 11 (by decide), sm_sIk.1, sm_rI 11 (by decide), sm_rI 11 (by decide), sm_rI 11 (by decide), sm_rI 11 (by decide), h3 11 (by decide), (q4 x hx).2.2.2.2.2]
      show upd (σ.1 11) x _ z = upd (S 6) x _ z
      unfold upd
      rw [(q4 z hz).2.2.2.2.2]
end
