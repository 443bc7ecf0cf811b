/-! the reference's minute, whole -/
section
variable {k : Nat} {P : Int32 → Nat → Int32 → Int32 → Int32 → Int32 → Int32} {σ0 σ : sm_St} {S : Nat → Nat → Int32}
theorem mf_endE {m1 : Nat} {m w wh l3 : Int32} (h5 : k ≤ 5) (hp : nt_MP k P σ0) (h15 : σ0.1 0 15 = nI k) (hF : nt_MF σ0 σ) (hw : -1 ≤ w ∧ w ≤ 1) (hg : nt_good k m1 S) (q1 : σ.1 0 7 = S 0 0) (q2 : σ.1 0 38 = S 0 1) (q3 : σ.1 0 37 = 0) (q4 : ∀ x, x < k → σ.1 6 x = S 1 x ∧ σ.1 7 x = S 2 x ∧ σ.1 8 x = S 3 x ∧ σ.1 9 x = S 4 x ∧ σ.1 10 x = S 5 x ∧ σ.1 11 x = S 6 x) (hl : (wh = -1 ∧ l3 = 0) ∨ ∃ x, x < k ∧ wh = nI x ∧ l3 = nI (2 ^ x)) : sm_ok (mf_X8_passes_p214 m w sm_F σ l3 0) (fun _ s => nt_MF σ0 s ∧ nt_M k (nt_end true k (σ0.1 4) (σ0.1 5) P m w wh S) s) := by
  have b15 : σ.1 0 15 = nI k := by rw [hF 0 15 (by simp [nt_fm]), h15]
  rcases hl with ⟨e1, e2⟩ | ⟨x, hx, e1, e2⟩
  · subst e1
    subst e2
    obtain ⟨s, f, u1, u2⟩ := lp_c (fun n s l => mf_X8_passes_p214 m w n s 0 l) (fun i s => s = σ) k σ (by omega) rfl (by
      intro i s n hi hs
      subst hs
      have nl : ¬ nI k ≤ nI i := nI_ge hi (by omega)
      refine ⟨s, ?_, rfl⟩
      show mf_X8_passes_p214 m w (n + 1) s 0 (nI i) = mf_X8_passes_p214 m w n s 0 (nI (i + 1))
      rw [mf_X8_passes_p214]
      simp only [sm_bS, b15, nl, if_false, pu_bit0 i (by omega), i01, mf_X8_passes_p347, nI_inc])
    subst u2
    have u1 : mf_X8_passes_p214 m w sm_F s 0 0 = mf_X8_passes_p214 m w (f + 1) s 0 (nI k) := u1
    rw [u1, mf_X8_passes_p214]
    simp only [sm_bS, b15]
    rw [if_pos (nI_le (Nat.le_refl k) (by omega))]
    exact ok_some.mpr ⟨hF, q1, q2, Or.inl ⟨rfl, q3⟩, q4⟩
  · subst e1
    subst e2
    obtain ⟨t, -, t2, t3⟩ := mf_riseE (f := 0) (m := m) h5 hp h15 hF hw hx hg q1 q2 q3 q4
    have act : ∀ f, mf_X8_passes_p214 m w (f + 1) σ (nI (2 ^ x)) (nI x) = mf_X8_passes_p214 m w f t (nI (2 ^ x)) (nI (x + 1)) ∨ True := fun _ => Or.inr trivial
    have skip : ∀ (s : sm_St) n i, s.1 0 15 = nI k → i < k → i ≠ x → mf_X8_passes_p214 m w (n + 1) s (nI (2 ^ x)) (nI i) = mf_X8_passes_p214 m w n s (nI (2 ^ x)) (nI (i + 1)) := by
      intro s n i hs hi hn
      have nl : ¬ nI k ≤ nI i := nI_ge hi (by omega)
      rw [mf_X8_passes_p214]
      simp only [sm_bS, hs, nl, if_false, pu_bit x (by omega) i (by omega), hn, i01, mf_X8_passes_p347, nI_inc]
    obtain ⟨s, f, u1, u2, u3⟩ := lp_c (fun n s l => mf_X8_passes_p214 m w n s (nI (2 ^ x)) l) (fun i s => (i ≤ x → s = σ) ∧ (x < i → nt_MF σ0 s ∧ nt_M k (nt_end true k (σ0.1 4) (σ0.1 5) P m w (nI x) S) s)) k σ (by omega) ⟨fun _ => rfl, fun h => absurd h (by omega)⟩ (by
      intro i s n hi ⟨g1, g2⟩
      by_cases e : i = x
      · subst e
        have := g1 (Nat.le_refl _)
        subst this
        obtain ⟨t, t1, t2, t3⟩ := mf_riseE (f := n) (m := m) h5 hp h15 hF hw hx hg q1 q2 q3 q4
        exact ⟨t, t1, fun h => absurd h (by omega), fun _ => ⟨t2, t3⟩⟩
      · by_cases l : i < x
        · have := g1 (by omega)
          subst this
          exact ⟨s, skip s n i b15 hi e, fun _ => rfl, fun h => absurd h (by omega)⟩
        · have gg := g2 (by omega)
          exact ⟨s, skip s n i (by rw [gg.1 0 15 (by simp [nt_fm]), h15]) hi e, fun h => absurd h (by omega), fun _ => gg⟩)
    have gg := u3 (by omega)
    have s15 : s.1 0 15 = nI k := by rw [gg.1 0 15 (by simp [nt_fm]), h15]
    have u1 : mf_X8_passes_p214 m w sm_F σ (nI (2 ^ x)) 0 = mf_X8_passes_p214 m w (f + 1) s (nI (2 ^ x)) (nI k) := u1
    rw [u1, mf_X8_passes_p214]
    simp only [sm_bS, s15]
    rw [if_pos (nI_le (Nat.le_refl k) (by omega))]
    exact ok_some.mpr gg
theorem mf_passL {a2 m sk ne : Int32} {m1 : Nat} (h5 : k ≤ 5) (hp : nt_MP k P σ0) (h15 : σ0.1 0 15 = nI k) (hF : nt_MF σ0 σ) (hg : nt_good k m1 S) (hm : m1 < 90) (q1 : σ.1 0 7 = sk) (q2 : σ.1 0 38 = ne) (q4 : ∀ x, x < k → σ.1 6 x = S 1 x ∧ σ.1 7 x = S 2 x ∧ σ.1 8 x = S 3 x ∧ σ.1 9 x = S 4 x ∧ σ.1 10 x = S 5 x ∧ σ.1 11 x = S 6 x) : ∃ s f l3, mf_X8_passes_p10 m a2 sm_F σ 0 0 = mf_X8_passes_p10 m a2 (f + 1) s l3 (nI k) ∧ nt_MF σ0 s ∧ ((nt_wh k (σ0.1 0 10) sk (S 1) = -1 ∧ l3 = 0) ∨ ∃ x, x < k ∧ nt_wh k (σ0.1 0 10) sk (S 1) = nI x ∧ l3 = nI (2 ^ x)) ∧ s.1 0 7 = sk ∧ s.1 0 38 = ne ∧ ∀ x, x < k → s.1 6 x = nt_feel true (σ0.1 4) P m sk ne (nt_wh k (σ0.1 0 10) sk (S 1)) S 1 x ∧ s.1 7 x = nt_feel true (σ0.1 4) P m sk ne (nt_wh k (σ0.1 0 10) sk (S 1)) S 2 x ∧ s.1 8 x = nt_feel true (σ0.1 4) P m sk ne (nt_wh k (σ0.1 0 10) sk (S 1)) S 3 x ∧ s.1 9 x = nt_feel true (σ0.1 4) P m sk ne (nt_wh k (σ0.1 0 10) sk (S 1)) S 4 x ∧ s.1 10 x = nt_feel true (σ0.1 4) P m sk ne (nt_wh k (σ0.1 0 10) sk (S 1)) S 5 x ∧ s.1 11 x = nt_feel true (σ0.1 4) P m sk ne (nt_wh k (σ0.1 0 10) sk (S 1)) S 6 x := by
  have isE : ∀ x, x < k → (nI x = nt_wh k (σ0.1 0 10) sk (S 1) ↔ (S 1 x = sk ∧ σ0.1 0 10 >>> (sk &&& 31) &&& 1 = 0)) := fun x hx => nt_isE h5 hx hg.2.2.2
  have ew := nt_whE (k := k) (σ0.1 0 10) sk (S 1)
  generalize nt_wh k (σ0.1 0 10) sk (S 1) = wh at isE ew ⊢
  obtain ⟨wx, hwx, exw⟩ : ∃ wx : Nat, ((wh = -1 ∧ wx = 31) ∨ (wx < k ∧ wh = nI wx)) ∧ ∀ i, i < k → (nI i = wh ↔ i = wx) := by
    rcases ew with e | ⟨x, hx, e, -⟩
    · refine ⟨31, Or.inl ⟨e, rfl⟩, fun i hi => ⟨fun z => ?_, fun z => by omega⟩⟩
      rw [e] at z
      exact absurd z (nI_ne1 (by omega))
    · refine ⟨x, Or.inr ⟨hx, e⟩, fun i hi => ?_⟩
      rw [e]
      exact nI_eq (by omega) (by omega)
  obtain ⟨⟨s, l3, lk⟩, f, u1, u2, u3, u4, u5, u6, u7⟩ := lp_ex (fun n (p : sm_St × Int32 × Int32) => mf_X8_passes_p10 m a2 n p.1 p.2.1 p.2.2) (fun i p => p.2.2 = nI i ∧ p.2.1 = (if wx < i then nI (2 ^ wx) else 0) ∧ nt_MF σ0 p.1 ∧ p.1.1 0 7 = sk ∧ p.1.1 0 38 = ne ∧ ∀ y, y < k → (p.1.1 6 y = S 1 y ∧ p.1.1 11 y = S 6 y) ∧ (y < i → p.1.1 7 y = nt_lo wh S y ∧ p.1.1 8 y = nt_co true (σ0.1 4) P m sk wh S y ∧ p.1.1 9 y = nt_sm wh S y ∧ p.1.1 10 y = nt_lg wh S y) ∧ (¬ y < i → p.1.1 7 y = S 2 y ∧ p.1.1 8 y = S 3 y ∧ p.1.1 9 y = S 4 y ∧ p.1.1 10 y = S 5 y)) k (σ, 0, 0) (by omega) ⟨rfl, rfl, hF, q1, q2, fun y hy => ⟨⟨(q4 y hy).1, (q4 y hy).2.2.2.2.2⟩, fun h => absurd h (by omega), fun _ => ⟨(q4 y hy).2.1, (q4 y hy).2.2.1, (q4 y hy).2.2.2.1, (q4 y hy).2.2.2.2.1⟩⟩⟩ (by
    rintro i ⟨s, l3, lk⟩ n hi ⟨g1, g2, g3, g4, g5, g6⟩
    have g1 : lk = nI i := g1
    subst g1
    have g2 : l3 = if wx < i then nI (2 ^ wx) else 0 := g2
    have g3 : nt_MF σ0 s := g3
    have g4 : s.1 0 7 = sk := g4
    have g5 : s.1 0 38 = ne := g5
    have nl : ¬ nI k ≤ nI i := nI_ge hi (by omega)
    have b15 : s.1 0 15 = nI k := by rw [g3 0 15 (by simp [nt_fm]), h15]
    have b10 : s.1 0 10 = σ0.1 0 10 := g3 0 10 (by simp [nt_fm])
    obtain ⟨⟨p6, p11⟩, -, p7⟩ := g6 i hi
    have p6 : s.1 6 i = S 1 i := p6
    obtain ⟨p7, p8, p9, p10⟩ := p7 (by omega)
    have p7 : s.1 7 i = S 2 i := p7
    have p8 : s.1 8 i = S 3 i := p8
    have p9 : s.1 9 i = S 4 i := p9
    have p10 : s.1 10 i = S 5 i := p10
    obtain ⟨-, ⟨l, l1, l2⟩, gg, gg1, gg2⟩ := hg.2.2.1 i hi
    have is := isE i hi
    have red : mf_X8_passes_p10 m a2 (n + 1) s l3 (nI i) = mf_X8_passes_p55 m a2 (mf_X8_passes_p10 m a2 n) s l3 (nI i) (if nI i = wh then 1 else 0) := by
      rw [mf_X8_passes_p10]
      simp only [sm_bS, b15, nl, if_false, sm_gIn (show i < 5 by omega) (by decide : 5 < 2 ^ 31), nI_cl (show i < 2 ^ 31 by omega), p6, g4, b10, mf_X8_passes_p54]
      by_cases c1 : S 1 i = sk
      · rcases pu_and1 (σ0.1 0 10 >>> (sk &&& 31)) with c2 | c2
        · have := is.mpr ⟨c1, c2⟩
          rw [if_pos c1, c1, c2, if_pos rfl, if_pos this]
        · have : ¬ nI i = wh := fun e => by
            have := (is.mp e).2
            rw [c2] at this
            exact absurd this i10
          rw [if_pos c1, c1, c2, if_neg i10, if_neg this]
      · have : ¬ nI i = wh := fun e => c1 (is.mp e).1
        rw [if_neg c1, if_neg this]
    by_cases e : nI i = wh
    · have ex : i = wx := (exw i hi).mp e
      obtain ⟨t, t1, t2, t3, t4, t5, t6, t7, t8⟩ := mf_feel1 (a2 := a2) (k10 := mf_X8_passes_p10 m a2 n) (m := m) (l3 := l3) h5 hp g3 hi (p7.trans l2) (by omega)
      refine ⟨(t, l3 ||| 1 <<< (nI i &&& 31), nI (i + 1)), ?_, rfl, ?_, t2, ?_, ?_, fun y hy => ?_⟩
      · show mf_X8_passes_p10 m a2 (n + 1) s l3 (nI i) = _
        rw [red, if_pos e, t1]
      · show l3 ||| 1 <<< (nI i &&& 31) = _
        rw [g2, if_neg (by omega), if_pos (by omega), (pu_or0 0 (by decide) i (by omega)).2.2, ex]
      · show t.1 0 7 = sk
        rw [t8 7 (by decide), g4]
      · show t.1 0 38 = ne
        rw [t8 38 (by decide), g5]
      · show (t.1 6 y = S 1 y ∧ t.1 11 y = S 6 y) ∧ (y < i + 1 → t.1 7 y = nt_lo wh S y ∧ t.1 8 y = nt_co true (σ0.1 4) P m sk wh S y ∧ t.1 9 y = nt_sm wh S y ∧ t.1 10 y = nt_lg wh S y) ∧ (¬ y < i + 1 → t.1 7 y = S 2 y ∧ t.1 8 y = S 3 y ∧ t.1 9 y = S 4 y ∧ t.1 10 y = S 5 y)
        obtain ⟨z1, z2, z3⟩ := g6 y hy
        refine ⟨⟨?_, ?_⟩, ?_⟩
        · rw [t7 6 (by decide) (by decide) (by decide) (by decide) (by decide)]; exact z1.1
        · rw [t7 11 (by decide) (by decide) (by decide) (by decide) (by decide)]; exact z1.2
        · rw [t3, t4, t5, t6, p8, p9, p10, p6, g4]
          unfold upd
          by_cases ey : y = i
          · subst ey
            simp only [if_true]
            refine ⟨fun _ => ?_, fun h => absurd h (by omega)⟩
            unfold nt_lo nt_co nt_sm nt_lg
            simp only [e, if_true, l2, ← nI_succ, true_and]
            grind
          · simp only [ey, if_false]
            exact ⟨fun h => z2 (by omega), fun h => z3 (by omega)⟩
    · have ex : ¬ i = wx := fun z => e ((exw i hi).mpr z)
      obtain ⟨t, t1, t2, t3, t4, t5, t6, t7, t8⟩ := mf_feel0 (a2 := a2) (k10 := mf_X8_passes_p10 m a2 n) (m := m) (l3 := l3) h5 hp g3 hi
      refine ⟨(t, l3 ||| 0 <<< (nI i &&& 31), nI (i + 1)), ?_, rfl, ?_, t2, ?_, ?_, fun y hy => ?_⟩
      · show mf_X8_passes_p10 m a2 (n + 1) s l3 (nI i) = _
        rw [red, if_neg e, t1]
      · show l3 ||| 0 <<< (nI i &&& 31) = _
        rw [g2]
        by_cases c : wx < i
        · rw [if_pos c, if_pos (by omega), (pu_or0 wx (by omega) i (by omega)).1]
        · rw [if_neg c, if_neg (by omega), (pu_or0 0 (by decide) i (by omega)).2.1]
      · show t.1 0 7 = sk
        rw [t8 7 (by decide), g4]
      · show t.1 0 38 = ne
        rw [t8 38 (by decide), g5]
      · show (t.1 6 y = S 1 y ∧ t.1 11 y = S 6 y) ∧ (y < i + 1 → t.1 7 y = nt_lo wh S y ∧ t.1 8 y = nt_co true (σ0.1 4) P m sk wh S y ∧ t.1 9 y = nt_sm wh S y ∧ t.1 10 y = nt_lg wh S y) ∧ (¬ y < i + 1 → t.1 7 y = S 2 y ∧ t.1 8 y = S 3 y ∧ t.1 9 y = S 4 y ∧ t.1 10 y = S 5 y)
        obtain ⟨z1, z2, z3⟩ := g6 y hy
        refine ⟨⟨?_, ?_⟩, ?_⟩
        · rw [t7 6 (by decide) (by decide) (by decide) (by decide) (by decide)]; exact z1.1
        · rw [t7 11 (by decide) (by decide) (by decide) (by decide) (by decide)]; exact z1.2
        · rw [t3, t4, t5, t6, p8, p9, p10, p6, g4]
          unfold upd
          by_cases ey : y = i
          · subst ey
            simp only [if_true]
            refine ⟨fun _ => ?_, fun h => absurd h (by omega)⟩
            have p5 : 0 ≤ S 5 y := by rw [gg2]; exact nI_pos' (by omega)
            unfold nt_lo nt_co nt_sm nt_lg
            simp only [e, if_false, if_true, p5, true_and, and_true]
            grind
          · simp only [ey, if_false]
            exact ⟨fun h => z2 (by omega), fun h => z3 (by omega)⟩)
  have u2 : lk = nI k := u2
  subst u2
  have u3 : l3 = if wx < k then nI (2 ^ wx) else 0 := u3
  refine ⟨s, f, l3, u1, u4, ?_, u5, u6, fun x hx => ?_⟩
  · rcases hwx with ⟨e1, e2⟩ | ⟨e1, e2⟩
    · exact Or.inl ⟨e1, by rw [u3, if_neg (by omega)]⟩
    · exact Or.inr ⟨wx, e1, e2, by rw [u3, if_pos e1]⟩
  · obtain ⟨z1, z2, -⟩ := u7 x hx
    obtain ⟨y1, y2, y3, y4⟩ := z2 hx
    exact ⟨z1.1, y1, y2, y3, y4, z1.2⟩
theorem mf_passesE {mi w ed : Int32} {m1 : Nat} (h5 : k ≤ 5) (hp : nt_MP k P σ0) (h15 : σ0.1 0 15 = nI k) (hF : nt_MF σ0 σ) (hS : nt_M k S σ) (hg : nt_good k m1 S) (hm : m1 < 90) (hw : -1 ≤ w ∧ w ≤ 1) (he : σ0.1 0 11 = ed) (he1 : ed = 0 ∨ ed = 1) : sm_ok (mf_X8_passes mi w σ) (fun _ s => nt_MF σ0 s ∧ nt_M k (nt_step true k (σ0.1 4) (σ0.1 5) (σ0.1 0 10) ed P mi w S) s) := by
  have b15 : σ.1 0 15 = nI k := by rw [hF 0 15 (by simp [nt_fm]), h15]
  have b11 : σ.1 0 11 = ed := by rw [hF 0 11 (by simp [nt_fm]), he]
  unfold mf_X8_passes nt_step
  refine ok_c (mf_turnsE h5 b15 hS hg hw b11 he1) (fun _ t ⟨t1, t2, t3⟩ => ?_)
  have ft : nt_MF σ0 t := fun c j hc => by
    rw [t3 c j (fun e => by rcases e.2 with z | z <;> simp [nt_fm, e.1, z] at hc)]
    exact hF c j hc
  obtain ⟨q1, q2, q3, q4⟩ := hS
  have hsk := nt_sk8 ed S w
  generalize nt_sk ed S w = sk at t1 t2 hsk ⊢
  obtain ⟨s, f, l3, u1, u2, u3, u4, u5, u6⟩ := mf_passL (a2 := w) (m := mi) h5 hp h15 ft hg hm t1 t2 (fun x hx => by
    rw [t3 6 x (by simp), t3 7 x (by simp), t3 8 x (by simp), t3 9 x (by simp), t3 10 x (by simp), t3 11 x (by simp)]
    exact q4 x hx)
  have s15 : s.1 0 15 = nI k := by rw [u2 0 15 (by simp [nt_fm]), h15]
  rw [u1, mf_X8_passes_p10]
  simp only [sm_bS, s15]
  rw [if_pos (nI_le (Nat.le_refl k) (by omega))]
  refine mf_endE (m1 := m1 + 1) h5 hp h15 (u2.set (by simp [nt_fm])) hw (nt_goodF (by omega) hsk hg) ?_ ?_ sm_rE (fun x hx => ?_) u3
  · rw [sm_rI1 0 7 (by decide), u4]
    rfl
  · rw [sm_rI1 0 38 (by decide), u5]
    rfl
  · rw [sm_rI 6 (by decide), sm_rI 7 (by decide), sm_rI 8 (by decide), sm_rI 9 (by decide), sm_rI 10 (by decide), sm_rI 11 (by decide)]
    exact u6 x hx
end
