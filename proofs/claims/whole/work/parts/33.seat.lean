/-! seat -/
theorem pu_and1 (y : Int32) : y &&& 1 = 0 ∨ y &&& 1 = 1 := by
  obtain ⟨j, hj, e⟩ := pk_andE y (m := 1) 1 (by decide)
  rcases (by omega : j = 0 ∨ j = 1) with rfl | rfl
  · exact Or.inl e
  · exact Or.inr e
theorem xf_tent (c : Nat) (p : Int32) (σ : sm_St) : xf_X0_hasTent c p σ = some (if σ.1 c 3 >>> (p &&& 31) &&& 1 = 1 then 1 else 0, σ) := by
  unfold xf_X0_hasTent
  simp only [sm_bS]
  split <;> rfl
theorem lg_cge {a b : Nat} (ha : a < 2 ^ 63) (hb : b < 2 ^ 63) : (0 ≤ lg_cmp (lN a) (lN b)) ↔ b ≤ a := by
  rw [lg_cmp_ge, pk_lLE hb ha]
section
variable {cmp : (Nat → Int32) → Nat → (Nat → Int32) → (Nat → Int32) → Prop} {σx σm σx' σm' : sm_St} {k tc : Nat}
theorem pr_seatL {x k : Nat} {a2 b2 : Int32} {s t : sm_St} {w : Nat → Nat} (h5 : k ≤ 5) (hx : x < k) (hs6 : s.1 1 6 = nI k) (hm15 : t.1 0 15 = nI k) (htt : t.1 0 10 = s.1 1 3) (hpl : ∀ j, j < k → t.1 6 j = s.1 10 j) (hd : ∀ i j, i < k → j < k → s.1 10 i = s.1 10 j → i = j) (hw : ∀ p, p < 8 → s.2.1 54 p = lN (w p) ∧ t.2.1 16 p = lN (w p)) : ∀ (d i n m : Nat) (f : Int32), i + d = 8 → d < n → d < m → (f = -1 ∨ ∃ j, j < 8 ∧ f = nI j) → ∃ r, xf_X7_seat_p38 (nI x) a2 n s f (nI i) = some (r, s) ∧ mf_X8_seat_p33 (nI x) b2 m t f (nI i) = some (r, t) := by
  intro d
  induction d with
  | zero =>
    intro i n m f h1 h2 h3 hf
    obtain ⟨n, rfl⟩ : ∃ n', n = n' + 1 := ⟨n - 1, by omega⟩
    obtain ⟨m, rfl⟩ : ∃ m', m = m' + 1 := ⟨m - 1, by omega⟩
    have nl : (8 : Int32) ≤ nI i := nI_le (a := 8) (by omega) (by omega)
    rw [xf_X7_seat_p38, mf_X8_seat_p33]
    simp only [nl, if_true]
    exact ⟨f, rfl, rfl⟩
  | succ d ih =>
    intro i n m f h1 h2 h3 hf
    obtain ⟨n, rfl⟩ : ∃ n', n = n' + 1 := ⟨n - 1, by omega⟩
    obtain ⟨m, rfl⟩ : ∃ m', m = m' + 1 := ⟨m - 1, by omega⟩
    have hi : i < 8 := by omega
    have nl : ¬ (8 : Int32) ≤ nI i := nI_ge (b := 8) hi (by decide)
    rw [xf_X7_seat_p38, mf_X8_seat_p33]
    have fr := @pu_free (s.1 10) (t.1 6) k x (nI i) h5 hpl hd
    have keep := ih (i + 1) n m f (by omega) (by omega) (by omega) hf
    have new := ih (i + 1) n m (nI i) (by omega) (by omega) (by omega) (Or.inr ⟨i, hi, rfl⟩)
    simp only [nl, if_false, xf_tent, sm_cS, xf_free hs6 h5, Nat.reduceAdd, mf_onPlace hm15 h5, sm_bS, htt, xf_X7_seat_p104, xf_X7_seat_p101, mf_X8_seat_p68, mf_X8_seat_p67, mf_X8_seat_p97, mf_X8_seat_p102, mf_X8_seat_p103, nI_inc, i10, if_true]
    rcases pu_and1 (s.1 1 3 >>> (nI i &&& 31)) with t0 | t0
    · simp only [t0, i01, if_false, if_true]
      by_cases cf : pu_find (fun j => decide (¬ nI j = nI x) && decide (t.1 6 j = nI i)) k 0 = -1
      · simp only [cf, fr.mp cf, if_true, i10, if_false]
        rcases hf with rfl | ⟨j, hj, rfl⟩
        · simp only [if_true]
          exact new
        · have nj : ¬ nI j = -1 := nI_ne1 (by omega)
          simp only [nj, if_false, sm_gIn hi (by decide : 8 < 2 ^ 31), sm_gIn hj (by decide : 8 < 2 ^ 31), nI_cl (show i < 2 ^ 31 by omega), nI_cl (show j < 2 ^ 31 by omega), (hw i hi).1, (hw i hi).2, (hw j hj).1, (hw j hj).2]
          split
          · exact keep
          · exact new
      · have cg := mt fr.mpr cf
        simp only [cf, cg, if_false, if_true]
        exact keep
    · simp only [t0, i10, if_false, if_true]
      by_cases cf : pu_find (fun j => decide (¬ nI j = nI x) && decide (t.1 6 j = nI i)) k 0 = -1
      · simp only [cf, if_true]
        exact keep
      · simp only [cf, if_false]
        exact keep
theorem pr_seat (h : pr_R cmp σx σm) (a1 a2 : Int32) : pr_sim cmp (xf_X7_seat a1 a2 σx) (mf_X8_seat a1 a2 σm) := by
  obtain ⟨z, l, r, hz, hl, x0, x1, x2, m0, m1, m2⟩ := pr_lr h
  have h0 := h
  obtain ⟨k, tc, h5, hF, hI, -, -, -, -⟩ := h
  obtain ⟨f1, f2, f3, f4, f5, f6, f7, f8⟩ := hF
  obtain ⟨i1, i2, i3, i4, i5, i6, i7, i8⟩ := hI
  unfold xf_X7_seat mf_X8_seat
  simp only [sm_bS, mf_in18, xf_has, mf_isSitter f1 h5, i6, xf_isMean, sm_cS]
  by_cases c : 0 ≤ a1 ∧ a1 < nI k
  · by_cases c1 : 1 ≤ a2 ∧ a2 ≤ 8
    · obtain ⟨x, hx, rfl⟩ := nI_ofR (n := k) (by omega) c.1 c.2
      obtain ⟨n, hn, rfl⟩ := nI_ofR (x := a2) (n := 9) (by decide) (by grind) (by have e : nI 9 = 9 := rfl; rw [e]; grind)
      obtain ⟨u, s, e1, s1, s2, s3⟩ := xf_spread hl hz (show n ≤ 8 by omega) x0 x1 x2
      obtain ⟨v, t, e2, t1, t2, t3⟩ := mf_spreads hl hz (show n ≤ 8 by omega) m0 m1 m2
      simp only [c, c1, and_self, if_true, i10, if_false, e1, e2, sm_cS]
      obtain ⟨r', q1, q2⟩ := pr_seatL (k := k) (a2 := nI n) (b2 := nI n) (s := s) (t := t) (w := od_to z l r n) h5 hx (by rw [s3]; exact i6) (by rw [t3]; exact f1) (by rw [s3, t3]; exact f5) (fun j hj => by rw [s3, t3]; exact (f8 j hj).2.2) (fun i j hi hj => by rw [s3]; exact i8 i j hi hj) (fun p hp => ⟨(s1 p hp).2, (t1 p hp).2⟩) 8 0 sm_F sm_F (-1) (by omega) (by have := sm_Fge; omega) (by have := sm_Fge; omega) (Or.inl rfl)
      exact ⟨r', s, t, q1, q2, h0.keep (pr_ax.of1 s3) (pr_am.of1 t3)⟩
    · simp only [c, c1, and_self, if_true, i10, if_false]
      exact pr_same h0
  · simp only [c, if_true, if_false]
    exact pr_same h0
end
