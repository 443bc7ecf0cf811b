/-! how a night begins; sums; what is laid aside -/
def nt_wind (v : Int32) : Int32 := if 0 ≤ v then (if v ≤ 0 then 0 else 1) else -1
theorem nt_windR (v : Int32) : -1 ≤ nt_wind v ∧ nt_wind v ≤ 1 := by
  unfold nt_wind
  (repeat' split) <;> decide
def nt_sum (f : Nat → Int32) : Nat → Int32
  | 0 => 0
  | n + 1 => nt_sum f n + f n
theorem nt_sumC {f g : Nat → Int32} : ∀ n, (∀ i, i < n → f i = g i) → nt_sum f n = nt_sum g n
  | 0, _ => rfl
  | n + 1, h => by
    unfold nt_sum
    rw [nt_sumC n (fun i hi => h i (by omega)), h n (by omega)]
theorem nt_sumZ {f : Nat → Int32} {k : Nat} : ∀ d, (∀ i, k ≤ i → i < k + d → f i = 0) → nt_sum f (k + d) = nt_sum f k
  | 0, _ => rfl
  | d + 1, h => by
    show nt_sum f (k + d) + f (k + d) = _
    rw [h (k + d) (by omega) (by omega), nt_sumZ d (fun i a b => h i a (by omega))]
    simp
def nt_S0 (sk : Int32) (pl : Nat → Int32) : Nat → Nat → Int32
  | 0 => fun j => if j = 0 then sk else if j = 1 then 0 else -1
  | 1 => pl
  | _ => fun _ => 0
theorem xf_sumE {a : Nat} {σ : sm_St} (ha : xo_len a = 5) : xf_X2_sum a σ = some (nt_sum (σ.1 a) 5, σ) := by
  have L : ∀ (d i n : Nat), i + d = 5 → d < n → xf_X2_sum_p4 a n σ (nt_sum (σ.1 a) i) (nI i) = some (nt_sum (σ.1 a) 5, σ) := by
    intro d
    induction d with
    | zero =>
      intro i n h1 h2
      obtain ⟨n, rfl⟩ : ∃ n', n = n' + 1 := ⟨n - 1, by omega⟩
      have : i = 5 := by omega
      subst this
      rw [xf_X2_sum_p4]
      simp only [sm_bS, ha]
      rw [if_pos (by decide)]
    | succ d ih =>
      intro i n h1 h2
      obtain ⟨n, rfl⟩ : ∃ n', n = n' + 1 := ⟨n - 1, by omega⟩
      have nl : ¬ Int32.ofNat 5 ≤ nI i := nI_ge (b := 5) (by omega) (by decide)
      rw [xf_X2_sum_p4]
      simp only [sm_bS, ha, nl, if_false, sm_gIn (show i < 5 by omega) (by decide : 5 < 2 ^ 31), nI_cl (show i < 2 ^ 31 by omega), nI_inc]
      exact ih (i + 1) n (by omega) (by omega)
  exact L 5 0 sm_F (by decide) (by have := sm_Fge; omega)
theorem mf_sumE {a k : Nat} {σ : sm_St} (ha : mo_len a = 5) (h5 : k ≤ 5) (h15 : σ.1 0 15 = nI k) : mf_X8_sumOf a σ = some (nt_sum (σ.1 a) k, σ) := by
  have L : ∀ (d i n : Nat), i + d = k → d < n → mf_X8_sumOf_p4 a n σ (nt_sum (σ.1 a) i) (nI i) = some (nt_sum (σ.1 a) k, σ) := by
    intro d
    induction d with
    | zero =>
      intro i n h1 h2
      obtain ⟨n, rfl⟩ : ∃ n', n = n' + 1 := ⟨n - 1, by omega⟩
      have : i = k := by omega
      subst this
      rw [mf_X8_sumOf_p4]
      simp only [sm_bS, h15]
      rw [if_pos (nI_le (Nat.le_refl _) (by omega))]
    | succ d ih =>
      intro i n h1 h2
      obtain ⟨n, rfl⟩ : ∃ n', n = n' + 1 := ⟨n - 1, by omega⟩
      have nl : ¬ nI k ≤ nI i := nI_ge (by omega) (by omega)
      rw [mf_X8_sumOf_p4]
      simp only [sm_bS, h15, nl, if_false, ha, sm_gIn (show i < 5 by omega) (by decide : 5 < 2 ^ 31), nI_cl (show i < 2 ^ 31 by omega), nI_inc]
      exact ih (i + 1) n (by omega) (by omega)
  exact L k 0 sm_F (by omega) (by have := sm_Fge; omega)
theorem xf_takeWindsE {s n : Nat} {σ : sm_St} (hs : s < 4) (hn : n ≤ 40) (h1 : σ.1 (35 + s) 1 = nI n) : sm_ok (xf_X2_takeWinds (35 + s) σ) (fun _ t => t.1 43 9 = nI n ∧ (∀ m, m < n → t.1 46 m = nt_wind (σ.1 (39 + s) m)) ∧ (∀ c, c ≠ 43 → c ≠ 46 → t.1 c = σ.1 c) ∧ ∀ j, j ≠ 9 → t.1 43 j = σ.1 43 j) := by
  unfold xf_X2_takeWinds
  simp only [sm_bS, h1]
  obtain ⟨t, f, e1, e2, e3, e4, e5⟩ := lp_c (xf_X2_takeWinds_p10 (35 + s)) (fun i t => t.1 43 9 = nI n ∧ (∀ m, m < i → t.1 46 m = nt_wind (σ.1 (39 + s) m)) ∧ (∀ c, c ≠ 43 → c ≠ 46 → t.1 c = σ.1 c) ∧ ∀ j, j ≠ 9 → t.1 43 j = σ.1 43 j) n (sm_sI σ 43 9 (nI n)) (by omega) ⟨sm_rE, fun m hm => absurd hm (by omega), fun c h _ => sm_rI c h, fun j hj => sm_rI1 43 j (Or.inr hj)⟩ (by
    intro i t f hi ⟨g1, g2, g3, g4⟩
    have nl : ¬ nI n ≤ nI i := nI_ge hi (by omega)
    have it : xf_X5_item (35 + s) (nI i) t = some (σ.1 (39 + s) i, t) := by
      rw [xf_item (by rw [g3 _ (by omega) (by omega)]; exact h1) hn hi, show 35 + s + 4 = 39 + s by omega, g3 _ (by omega) (by omega)]
    refine ⟨sm_sI t 46 i (nt_wind (σ.1 (39 + s) i)), ?_, ?_, fun m hm => ?_, fun c h3 h6 => ?_, fun j hj => ?_⟩
    · rw [xf_X2_takeWinds_p10]
      simp only [sm_bS, g1, nl, if_false, it, sm_cS, xf_X2_takeWinds_p46, sm_gIn (show i < 40 by omega) (by decide : 40 < 2 ^ 31), nI_cl (show i < 2 ^ 31 by omega), nI_inc]
      unfold nt_wind
      (repeat' split) <;> rfl
    · rw [sm_rI 43 (by decide)]; exact g1
    · by_cases e : m = i
      · subst e
        exact sm_rE
      · rw [sm_rI1 46 m (Or.inr e)]
        exact g2 m (by omega)
    · rw [sm_rI c h6]; exact g3 c h3 h6
    · rw [sm_rI 43 (by decide)]; exact g4 j hj)
  rw [e1, xf_X2_takeWinds_p10]
  simp only [sm_bS, e2]
  rw [if_pos (nI_le (Nat.le_refl n) (by omega))]
  exact ok_some.mpr ⟨e2, e3, e4, e5⟩
theorem xf_beginE {σ : sm_St} : sm_ok (xf_X2_begin 1 σ) (fun _ s => (∀ j, j < 7 → s.1 3 j = σ.1 1 j) ∧ (∀ x, x < 5 → s.1 6 x = σ.1 4 x ∧ s.1 9 x = σ.1 7 x ∧ s.1 12 x = σ.1 10 x ∧ s.1 44 x = 0 ∧ s.1 45 x = 0 ∧ s.1 47 x = 0 ∧ s.1 48 x = 0 ∧ s.1 49 x = 0) ∧ s.1 43 10 = 0 ∧ s.1 43 11 = -1 ∧ s.1 43 12 = -1 ∧ s.1 43 9 = σ.1 43 9 ∧ ∀ c, c ≠ 3 → c ≠ 6 → c ≠ 9 → c ≠ 12 → c ≠ 43 → c ≠ 44 → c ≠ 45 → c ≠ 47 → c ≠ 48 → c ≠ 49 → s.1 c = σ.1 c) := by
  unfold xf_X2_begin
  refine ok_c (@xf_become σ 3 1 (by decide)) (fun _ t0 ⟨b1, b2, b3, b4⟩ => ?_)
  refine ok_c (@xf_fill 44 5 0 t0 rfl (by decide)) (fun _ t1 ⟨c1, d1, _, _⟩ => ?_)
  refine ok_c (@xf_fill 45 5 0 t1 rfl (by decide)) (fun _ t2 ⟨c2, d2, _, _⟩ => ?_)
  refine ok_c (@xf_fill 47 5 0 t2 rfl (by decide)) (fun _ t3 ⟨c3, d3, _, _⟩ => ?_)
  refine ok_c (@xf_fill 48 5 0 t3 rfl (by decide)) (fun _ t4 ⟨c4, d4, _, _⟩ => ?_)
  refine ok_c (@xf_fill 49 5 0 t4 rfl (by decide)) (fun _ t5 ⟨c5, d5, _, _⟩ => ?_)
  simp only [sm_bS]
  have D : ∀ c, c ≠ 44 → c ≠ 45 → c ≠ 47 → c ≠ 48 → c ≠ 49 → t5.1 c = t0.1 c := fun c h1 h2 h3 h4 h5 => by rw [d5 c h5, d4 c h4, d3 c h3, d2 c h2, d1 c h1]
  have E : ∀ c, c ≠ 43 → (sm_sI (sm_sI (sm_sI t5 43 10 0) 43 11 (-1)) 43 12 (-1)).1 c = t5.1 c := fun c h => by rw [sm_rI c h, sm_rI c h, sm_rI c h]
  refine ok_some.mpr ⟨fun j hj => ?_, fun x hx => ⟨?_, ?_, ?_, ?_, ?_, ?_, ?_, ?_⟩, ?_, ?_, ?_, ?_, fun c h3 h6 h9 h12 h43 h44 h45 h47 h48 h49 => ?_⟩
  · rw [E 3 (by decide), D 3 (by decide) (by decide) (by decide) (by decide) (by decide)]; exact b1 j hj
  · rw [E 6 (by decide), D 6 (by decide) (by decide) (by decide) (by decide) (by decide)]; exact (b2 x hx).1
  · rw [E 9 (by decide), D 9 (by decide) (by decide) (by decide) (by decide) (by decide)]; exact (b2 x hx).2.1
  · rw [E 12 (by decide), D 12 (by decide) (by decide) (by decide) (by decide) (by decide)]; exact (b2 x hx).2.2
  · rw [E 44 (by decide), d5 44 (by decide), d4 44 (by decide), d3 44 (by decide), d2 44 (by decide)]; exact c1 x hx
  · rw [E 45 (by decide), d5 45 (by decide), d4 45 (by decide), d3 45 (by decide)]; exact c2 x hx
  · rw [E 47 (by decide), d5 47 (by decide), d4 47 (by decide)]; exact c3 x hx
  · rw [E 48 (by decide), d5 48 (by decide)]; exact c4 x hx
  · rw [E 49 (by decide)]; exact c5 x hx
  · rw [sm_rI1 43 10 (by decide), sm_rI1 43 10 (by decide), sm_rE]
  · rw [sm_rI1 43 11 (by decide), sm_rE]
  · exact sm_rE
  · rw [sm_rI1 43 9 (by decide), sm_rI1 43 9 (by decide), sm_rI1 43 9 (by decide), D 43 (by decide) (by decide) (by decide) (by decide) (by decide), b3 43 (by decide) (by decide) (by decide) (by decide)]
  · rw [E c h43, D c h44 h45 h47 h48 h49]; exact b3 c h3 h6 h9 h12
theorem mf_beginsE {σ : sm_St} : sm_ok (mf_X8_begins σ) (fun _ s => (∀ x, x < 5 → s.1 7 x = 0 ∧ s.1 8 x = 0 ∧ s.1 9 x = 0 ∧ s.1 10 x = 0 ∧ s.1 11 x = 0) ∧ s.1 0 37 = 0 ∧ s.1 0 38 = 0 ∧ (∀ j, j ≠ 37 → j ≠ 38 → s.1 0 j = σ.1 0 j) ∧ ∀ c, c ≠ 0 → c < 7 ∨ 11 < c → s.1 c = σ.1 c) := by
  unfold mf_X8_begins
  obtain ⟨t, f, e1, e2, e3⟩ := lp_c mf_X8_begins_p2 (fun i s => (∀ x, x < i → s.1 7 x = 0 ∧ s.1 8 x = 0 ∧ s.1 9 x = 0 ∧ s.1 10 x = 0 ∧ s.1 11 x = 0) ∧ ∀ c, c < 7 ∨ 11 < c → s.1 c = σ.1 c) 5 σ (by decide) ⟨fun x hx => absurd hx (by omega), fun _ _ => rfl⟩ (by
    intro i s n hi ⟨g1, g2⟩
    have nl : ¬ (5 : Int32) ≤ nI i := nI_ge (b := 5) hi (by decide)
    refine ⟨sm_sI (sm_sI (sm_sI (sm_sI (sm_sI s 7 i 0) 8 i 0) 9 i 0) 10 i 0) 11 i 0, ?_, fun x hx => ?_, fun c hc => ?_⟩
    · rw [mf_X8_begins_p2]
      simp only [nl, if_false, sm_bS, sm_gIn hi (by decide : 5 < 2 ^ 31), nI_cl (show i < 2 ^ 31 by omega), nI_inc]
    · rw [sm_rI 7 (by decide), sm_rI 7 (by decide), sm_rI 7 (by decide), sm_rI 7 (by decide), sm_rI 8 (by decide), sm_rI 8 (by decide), sm_rI 8 (by decide), sm_rI 9 (by decide), sm_rI 9 (by decide), sm_rI 10 (by decide)]
      simp only [sm_sIk.1, sm_rI 8 (by decide : 8 ≠ 7), sm_rI 9 (by decide : 9 ≠ 8), sm_rI 9 (by decide : 9 ≠ 7), sm_rI 10 (by decide : 10 ≠ 9), sm_rI 10 (by decide : 10 ≠ 8), sm_rI 10 (by decide : 10 ≠ 7), sm_rI 11 (by decide : 11 ≠ 10), sm_rI 11 (by decide : 11 ≠ 9), sm_rI 11 (by decide : 11 ≠ 8), sm_rI 11 (by decide : 11 ≠ 7)]
      unfold upd
      by_cases e : x = i
      · simp [e]
      · simp only [e, if_false]
        exact g1 x (by omega)
    · rw [sm_rI c (by omega), sm_rI c (by omega), sm_rI c (by omega), sm_rI c (by omega), sm_rI c (by omega)]
      exact g2 c hc)
  rw [e1, mf_X8_begins_p2]
  have nl : (5 : Int32) ≤ nI 5 := by decide
  simp only [nl, if_true, sm_bS]
  refine ok_some.mpr ⟨fun x hx => ?_, ?_, sm_rE, fun j h7 h8 => ?_, fun c c0 hc => ?_⟩
  · rw [sm_rI 7 (by decide), sm_rI 7 (by decide), sm_rI 8 (by decide), sm_rI 8 (by decide), sm_rI 9 (by decide), sm_rI 9 (by decide), sm_rI 10 (by decide), sm_rI 10 (by decide), sm_rI 11 (by decide), sm_rI 11 (by decide)]
    exact e2 x hx
  · rw [sm_rI1 0 37 (by decide), sm_rE]
  · rw [sm_rI1 0 j (by omega), sm_rI1 0 j (by omega), e3 0 (by decide)]
  · rw [sm_rI c c0, sm_rI c c0, e3 c hc]
theorem mf_asideE {σ : sm_St} : sm_ok (mf_X8_layAside σ) (fun _ s => (∀ x, x < 5 → s.1 13 x = σ.1 6 x) ∧ s.1 13 5 = σ.1 0 7 ∧ ∀ c, c ≠ 13 → s.1 c = σ.1 c) := by
  unfold mf_X8_layAside
  obtain ⟨t, f, e1, e2, e3⟩ := lp_c mf_X8_layAside_p2 (fun i s => (∀ x, x < i → s.1 13 x = σ.1 6 x) ∧ ∀ c, c ≠ 13 → s.1 c = σ.1 c) 5 σ (by decide) ⟨fun x hx => absurd hx (by omega), fun _ _ => rfl⟩ (by
    intro i s n hi ⟨g1, g2⟩
    have nl : ¬ (5 : Int32) ≤ nI i := nI_ge (b := 5) hi (by decide)
    refine ⟨sm_sI s 13 i (s.1 6 i), ?_, fun x hx => ?_, fun c hc => ?_⟩
    · rw [mf_X8_layAside_p2]
      simp only [nl, if_false, sm_bS, sm_gIn hi (by decide : 5 < 2 ^ 31), sm_gIn (show i < 6 by omega) (by decide : 6 < 2 ^ 31), nI_cl (show i < 2 ^ 31 by omega), nI_inc]
    · by_cases e : x = i
      · subst e
        rw [sm_rE, g2 6 (by decide)]
      · rw [sm_rI1 13 x (Or.inr e)]
        exact g1 x (by omega)
    · rw [sm_rI c hc]
      exact g2 c hc)
  rw [e1, mf_X8_layAside_p2]
  have nl : (5 : Int32) ≤ nI 5 := by decide
  simp only [nl, if_true, sm_bS, g6, c6]
  refine ok_some.mpr ⟨fun x hx => ?_, ?_, fun c hc => ?_⟩
  · rw [sm_rI1 13 x (Or.inr (by omega))]; exact e2 x hx
  · rw [sm_rE, e3 0 (by decide)]
  · rw [sm_rI c hc]; exact e3 c hc
theorem mf_backE {σ : sm_St} : sm_ok (mf_X8_takeBack σ) (fun _ s => (∀ x, x < 5 → s.1 6 x = σ.1 13 x) ∧ (∀ x, 5 ≤ x → s.1 6 x = σ.1 6 x) ∧ s.1 0 7 = σ.1 13 5 ∧ (∀ j, j ≠ 7 → s.1 0 j = σ.1 0 j) ∧ ∀ c, c ≠ 0 → c ≠ 6 → s.1 c = σ.1 c) := by
  unfold mf_X8_takeBack
  obtain ⟨t, f, e1, e2, e3, e4⟩ := lp_c mf_X8_takeBack_p2 (fun i s => (∀ x, x < i → s.1 6 x = σ.1 13 x) ∧ (∀ x, 5 ≤ x → s.1 6 x = σ.1 6 x) ∧ ∀ c, c ≠ 6 → s.1 c = σ.1 c) 5 σ (by decide) ⟨fun x hx => absurd hx (by omega), fun _ _ => rfl, fun _ _ => rfl⟩ (by
    intro i s n hi ⟨g1, g2, g3⟩
    have nl : ¬ (5 : Int32) ≤ nI i := nI_ge (b := 5) hi (by decide)
    refine ⟨sm_sI s 6 i (s.1 13 i), ?_, fun x hx => ?_, fun x hx => ?_, fun c hc => ?_⟩
    · rw [mf_X8_takeBack_p2]
      simp only [nl, if_false, sm_bS, sm_gIn hi (by decide : 5 < 2 ^ 31), sm_gIn (show i < 6 by omega) (by decide : 6 < 2 ^ 31), nI_cl (show i < 2 ^ 31 by omega), nI_inc]
    · by_cases e : x = i
      · subst e
        rw [sm_rE, g3 13 (by decide)]
      · rw [sm_rI1 6 x (Or.inr e)]
        exact g1 x (by omega)
    · rw [sm_rI1 6 x (Or.inr (by omega))]
      exact g2 x hx
    · rw [sm_rI c hc]
      exact g3 c hc)
  rw [e1, mf_X8_takeBack_p2]
  have nl : (5 : Int32) ≤ nI 5 := by decide
  simp only [nl, if_true, sm_bS, g6, c6]
  refine ok_some.mpr ⟨fun x hx => ?_, fun x hx => ?_, ?_, fun j hj => ?_, fun c c0 c6 => ?_⟩
  · rw [sm_rI 6 (by decide)]; exact e2 x hx
  · rw [sm_rI 6 (by decide)]; exact e3 x hx
  · rw [sm_rE, e4 13 (by decide)]
  · rw [sm_rI1 0 j (Or.inr hj), e4 0 (by decide)]
  · rw [sm_rI c c0, e4 c c6]
