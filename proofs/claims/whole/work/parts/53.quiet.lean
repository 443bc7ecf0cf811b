/-! nights that cost nothing: film, chance -/
theorem nt_smR {pay : Bool} {k : Nat} {kn nb : Nat → Int32} {te ed : Int32} {P : Int32 → Nat → Int32 → Int32 → Int32 → Int32 → Int32} {W : Nat → Int32} {S : Nat → Nat → Int32} (h : ∀ x, S 4 x = 0) : ∀ m, m < 1000 → ∀ x, ∃ j, j ≤ m ∧ nt_run pay k kn nb te ed P W S m 4 x = nI j
  | 0, _, x => ⟨0, Nat.le_refl _, h x⟩
  | m + 1, hm, x => by
    obtain ⟨j, hj, e⟩ := nt_smR (pay := pay) (k := k) (kn := kn) (nb := nb) (te := te) (ed := ed) (P := P) (W := W) h m (by omega) x
    show ∃ j, j ≤ m + 1 ∧ nt_step pay k kn nb te ed P (nI m) (W m) (nt_run pay k kn nb te ed P W S m) 4 x = nI j
    generalize nt_run pay k kn nb te ed P W S m = T at e ⊢
    have q : ∀ wh, ∃ j, j ≤ m + 1 ∧ nt_sm wh T x = nI j := by
      intro wh
      unfold nt_sm
      split
      · exact ⟨j + 1, by omega, by rw [e, nI_succ]⟩
      · exact ⟨j, by omega, e⟩
    unfold nt_step nt_end
    split
    · exact q _
    · split
      · exact q _
      · exact q _
section
variable {cmp : (Nat → Int32) → Nat → (Nat → Int32) → (Nat → Int32) → Prop} {V : (Nat → Int32) → (Nat → Int32) → Int32 → (Nat → Int32) → Int32} {σx σm σ σ' : sm_St} {k tc t N s n M : Nat} {code ends W kn nb pl : Nat → Int32} {sk te ed : Int32} {P : Int32 → Nat → Int32 → Int32 → Int32 → Int32 → Int32}
/-- the class's thought without costs, from a beginning that is changed somehow -/
theorem xf_runQ {v : sm_St} (h5 : k ≤ 5) (hM : M ≤ 40) (hG : nt_G σx v M W) (h6 : v.1 3 6 = nI k) (hk : ∀ x, x < k → v.1 6 x = kn x ∧ v.1 9 x = nb x ∧ v.1 12 x = pl x) (hsk : v.1 3 0 = sk) (hte : v.1 3 3 = te) (hed : v.1 3 4 = ed) (hz : ∀ x, x < 5 → v.1 44 x = 0 ∧ v.1 45 x = 0 ∧ v.1 47 x = 0 ∧ v.1 48 x = 0 ∧ v.1 49 x = 0) (h10 : v.1 43 10 = 0) (h11 : v.1 43 11 = -1) (h12 : v.1 43 12 = -1) (hg : nt_good k 0 (nt_S0 sk pl)) : sm_ok (xf_X2_run none v) (fun _ w => nt_G σx w M W ∧ nt_X k (nt_run false k kn nb te ed P W (nt_S0 sk pl) M) w) := by
  obtain ⟨G1, G2, G3⟩ := hG
  have hp : nt_XP false k P (sm_sR v 43 13 none) := xf_price0 (by simp [sm_sR, va_up])
  refine ok_mono (xf_thinkE (kn := kn) (nb := nb) (pl := pl) (W := W) (sk := sk) (te := te) (ed := ed) h5 hM G2 h6 hk hsk hte hed G3 hz h10 h11 h12 hg hp) (fun _ w ⟨w1, w2⟩ => ⟨⟨fun c c3 c6 c9 c12 c43 => ?_, ?_, fun m hm => ?_⟩, w2⟩)
  · rw [← G1 c c3 c6 c9 c12 c43]
    exact funext fun j => w1 c j (nt_fx0 c c3 c12 c43 j)
  · rw [w1 43 9 (by simp [nt_fx])]; exact G2
  · rw [w1 46 m (by simp [nt_fx])]; exact G3 m hm
theorem xf_begG (hR : pr_I (σx.1 1) (σx.1 4) (σx.1 7) (σx.1 10) k tc) (hG : nt_G σx σ M W) : sm_ok (xf_X2_begin 1 σ) (fun _ v => nt_G σx v M W ∧ v.1 3 6 = nI k ∧ (∀ x, x < 5 → v.1 6 x = σx.1 4 x ∧ v.1 9 x = σx.1 7 x ∧ v.1 12 x = σx.1 10 x) ∧ v.1 3 0 = σx.1 1 0 ∧ v.1 3 3 = σx.1 1 3 ∧ v.1 3 4 = σx.1 1 4 ∧ (∀ x, x < 5 → v.1 44 x = 0 ∧ v.1 45 x = 0 ∧ v.1 47 x = 0 ∧ v.1 48 x = 0 ∧ v.1 49 x = 0) ∧ v.1 43 10 = 0 ∧ v.1 43 11 = -1 ∧ v.1 43 12 = -1) := by
  obtain ⟨i1, i2, i3, i4, i5, i6, i7, i8⟩ := hR
  obtain ⟨G1, G2, G3⟩ := hG
  have z1 := G1 1 (by decide) (by decide) (by decide) (by decide) (by decide)
  have z4 := G1 4 (by decide) (by decide) (by decide) (by decide) (by decide)
  have z7 := G1 7 (by decide) (by decide) (by decide) (by decide) (by decide)
  have z10 := G1 10 (by decide) (by decide) (by decide) (by decide) (by decide)
  refine ok_mono (@xf_beginE σ) (fun _ v ⟨b1, b2, b3, b4, b5, b6, b7⟩ => ?_)
  rw [z1] at b1
  rw [z4, z7, z10] at b2
  refine ⟨⟨fun c c3 c6 c9 c12 c43 => ?_, ?_, fun m hm => ?_⟩, ?_, fun x hx => ?_, b1 0 (by decide), b1 3 (by decide), b1 4 (by decide), fun x hx => ?_, b3, b4, b5⟩
  · rw [b7 c c3 c6 c9 c12 (by omega) (by omega) (by omega) (by omega) (by omega) (by omega)]
    exact G1 c c3 c6 c9 c12 c43
  · rw [b6]; exact G2
  · rw [b7 46 (by decide) (by decide) (by decide) (by decide) (by decide) (by decide) (by decide) (by decide) (by decide) (by decide)]; exact G3 m hm
  · rw [b1 6 (by decide)]; exact i6
  · obtain ⟨y1, y2, y3, -⟩ := b2 x hx
    exact ⟨y1, y2, y3⟩
  · obtain ⟨-, -, -, y⟩ := b2 x hx
    exact y
/-- as it is, without costs -/
theorem xf_freeE (h5 : k ≤ 5) (hR : pr_I (σx.1 1) (σx.1 4) (σx.1 7) (σx.1 10) k tc) (hM : M ≤ 40) (hG : nt_G σx σ M W) : ∃ v w, xf_X2_begin 1 σ = some ((), v) ∧ xf_X2_run none v = some ((), w) ∧ nt_G σx w M W ∧ nt_X k (nt_run false k (σx.1 4) (σx.1 7) (σx.1 1 3) (σx.1 1 4) P W (nt_S0 (σx.1 1 0) (σx.1 10)) M) w := by
  obtain ⟨_, v, e1, g1, g2, g3, g4, g5, g6, g7, g8, g9, g10⟩ := xf_begG hR hG
  obtain ⟨_, w, e2, w1, w2⟩ := xf_runQ (P := P) h5 hM g1 g2 (fun x hx => g3 x (by omega)) g4 g5 g6 g7 g8 g9 g10 (nt_good0 h5 hR)
  exact ⟨v, w, e1, e2, w1, w2⟩
theorem nI_by : ∀ j, j ≤ 40 → (nI j).toInt8.toInt32 = nI j := by decide
theorem xf_put0 {s n i j : Nat} {σ : sm_St} (h0 : σ.1 (35 + s) 0 = 0) (h1 : σ.1 (35 + s) 1 = nI n) (hn : n ≤ 40) (hi : i < n) (hj : j ≤ 40) : xf_X5_put (35 + s) (nI i) (nI j) σ = some ((), sm_sI σ (39 + s) i (nI j)) := by
  have n0 : ¬ nI i < 0 := Int32.not_lt.mpr (nI_pos' (by omega))
  have n1 : nI i < nI n := nI_lt hi (by omega)
  unfold xf_X5_put
  simp only [n0, n1, if_true, if_false, sm_bS, h0, h1, sm_gIn (show i < 40 by omega) (by decide : 40 < 2 ^ 31), nI_cl (show i < 2 ^ 31 by omega), nI_by j hj, show 35 + s + 4 = 39 + s by omega]
theorem pr_film (hI : nt_I cmp V) (h : pr_R cmp σx σm) (a1 a2 : Int32) : pr_sim cmp (xf_X7_film a1 a2 σx) (mf_X8_film a1 a2 σm) := by
  have h0 := h
  obtain ⟨k, tc, t, N, h5, ht, hN, hF, hR, et, em, e2, hc⟩ := pr_rule h
  obtain ⟨-, -, -, -, -, -, hS, -, -⟩ := h
  obtain ⟨f1, f2, f3, f4, f5, f6, f7, f8⟩ := hF
  unfold xf_X7_film mf_X8_film
  simp only [xf_isSheet, mf_isSheet, sm_cS]
  by_cases c : 0 ≤ a1 ∧ a1 ≤ 3
  · by_cases c2 : 0 ≤ a2 ∧ a2 ≤ 3
    · obtain ⟨s, hs, rfl⟩ := nI_ofR (x := a1) (n := 4) (by decide) c.1 (by have e : nI 4 = 4 := rfl; rw [e]; grind)
      obtain ⟨q, hq, rfl⟩ := nI_ofR (x := a2) (n := 4) (by decide) c2.1 (by have e : nI 4 = 4 := rfl; rw [e]; grind)
      simp only [c, c2, and_self, if_true, i10, if_false, sm_gIn hq (by decide : 4 < 2 ^ 31), sm_gIn hs (by decide : 4 < 2 ^ 31), nI_cl (show s < 2 ^ 31 by omega), nI_cl (show q < 2 ^ 31 by omega), xf_missing, sm_cS, sm_bS]
      rcases hS q hq with ⟨z1, z2⟩ | ⟨ty, n, z1, z2, z3, z4, z5, z6, z7, z8⟩
      · simp only [z1, z2, if_true, i10, if_false]
        exact pr_same h0
      · have n1 : ¬ nI ty = -1 := nI_ne1 (by omega)
        simp only [z3, z4, n1, if_false, if_true, i10]
        obtain ⟨_, ux, e1, w1, w2, w3, w4⟩ := xf_takeWindsE hq z2 z6
        have G0 : nt_G σx ux n (fun m => nt_wind (σx.1 (39 + q) m)) := ⟨fun c _ _ _ _ c43 => w3 c (by omega) (by omega), w1, w2⟩
        obtain ⟨v, w, x1, x2, G1, X1⟩ := xf_freeE (P := nt_P V (σx.1 (22 + t)) (σx.1 (28 + t)) (σx.1 7)) h5 hR z2 G0
        have hg := nt_good0 h5 hR
        have H : nt_H cmp k t N q n (σx.1 (22 + t)) (σx.1 (28 + t)) (fun m => nt_wind (σx.1 (39 + q) m)) (σx.1 4) (σx.1 7) (σx.1 10) (σx.1 1 0) (σx.1 1 3) (σx.1 1 4) σm := ⟨z7, f1, f8, f2, f5, f6, fun m hm => by rw [z8 m hm], em, e2, hc⟩
        obtain ⟨r, u, m1, -, m2, m3⟩ := mf_costOfE hI hq z2 h5 ht hN hR.2.2.2.1 hg H
        have w6 : w.1 1 6 = nI k := by rw [G1.1 1 (by decide) (by decide) (by decide) (by decide) (by decide)]; exact hR.2.2.2.2.2.1
        have u15 : u.1 0 15 = nI k := by rw [m3 0 15 rfl, f1]
        simp only [e1, x1, x2, m1, sm_cS, w6, u15]
        obtain ⟨_, y, b0, b1, b2, b3, b4⟩ := xf_shBecome hs 0 (nI k) w
        obtain ⟨rr, p, d0, d1, d2, d3, d4, d5, d6, d7⟩ := mf_sheetSet (t := 0) hs (show k ≤ 40 by omega) (by decide) u
        simp only [b0, d0, sm_cS]
        have ec : ∀ x, x < k → w.1 45 x = u.1 9 x ∧ ∃ j, j ≤ 40 ∧ w.1 45 x = nI j := by
          intro x hx
          have e1 := (X1.2.2.2.2.1 x hx).2.2.2.1
          have e2 := (m2 x hx).2
          have e3 := (nt_runC (p := false) (q := true) (kn := σx.1 4) (kn' := σx.1 4) (nb := σx.1 7) (nb' := σx.1 7) (te := σx.1 1 3) (ed := σx.1 1 4) (P := nt_P V (σx.1 (22 + t)) (σx.1 (28 + t)) (σx.1 7)) (W := fun m => nt_wind (σx.1 (39 + q) m)) (W' := fun m => nt_wind (σx.1 (39 + q) m)) h5 (fun _ _ => rfl) (fun _ _ => rfl) (nt_eq.np ⟨fun _ _ => rfl, fun _ _ _ _ _ => rfl⟩) hg n (by omega) (fun _ _ => rfl)).1.2 4 x (by decide) (by decide) (by decide) hx
          obtain ⟨j, j1, j2⟩ := nt_smR (pay := false) (k := k) (kn := σx.1 4) (nb := σx.1 7) (te := σx.1 1 3) (ed := σx.1 1 4) (P := nt_P V (σx.1 (22 + t)) (σx.1 (28 + t)) (σx.1 7)) (W := fun m => nt_wind (σx.1 (39 + q) m)) (S := nt_S0 (σx.1 1 0) (σx.1 10)) (fun _ => rfl) n (by omega) x
          exact ⟨by rw [e1, e2, e3], j, by omega, by rw [e1, j2]⟩
        have y45 : y.1 45 = w.1 45 := b4 45 (by omega) (by omega)
        have y6 : y.1 1 6 = nI k := by rw [b4 1 (by omega) (by omega), w6]
        have p9 : p.1 9 = u.1 9 := d7 9 (by decide) (by decide) (by decide) (by decide)
        have p15 : p.1 0 15 = nI k := by rw [d7 0 (by decide) (by decide) (by decide) (by decide), u15]
        obtain ⟨y', fx, l1, l2, l3⟩ := lp_c (xf_X7_film_p83 (nI s) (nI q)) (fun i z => (∀ j, j < i → z.1 (39 + s) j = w.1 45 j) ∧ (∀ c, c ≠ 39 + s → z.1 c = y.1 c)) k y (by omega) ⟨fun j hj => absurd hj (by omega), fun _ _ => rfl⟩ (by
          intro i z n' hi ⟨g1, g2⟩
          have z6 : z.1 1 6 = nI k := by rw [g2 1 (by omega), y6]
          have nl : ¬ nI k ≤ nI i := nI_ge hi (by omega)
          obtain ⟨e9, j, j1, j2⟩ := ec i hi
          have z45 : z.1 45 i = nI j := by rw [g2 45 (by omega), y45, j2]
          have pt := xf_put0 (σ := z) (s := s) (n := k) (i := i) (j := j) (by rw [g2 _ (by omega), b1]) (by rw [g2 _ (by omega), b2]) (by omega) hi j1
          refine ⟨sm_sI z (39 + s) i (nI j), ?_, fun j' hj' => ?_, fun c hc => ?_⟩
          · rw [xf_X7_film_p83]
            simp only [sm_bS, z6, nl, if_false, sm_gIn hs (by decide : 4 < 2 ^ 31), sm_gIn (show i < 5 by omega) (by decide : 5 < 2 ^ 31), nI_cl (show s < 2 ^ 31 by omega), nI_cl (show i < 2 ^ 31 by omega), z45, pt, sm_cS, nI_inc]
          · by_cases e : j' = i
            · subst e; rw [sm_rE, j2]
            · rw [sm_rI1 (39 + s) j' (Or.inr e)]; exact g1 j' (by omega)
          · rw [sm_rI c hc]; exact g2 c hc)
        obtain ⟨p', fm, o1, o2, o3, o4⟩ := lp_c (mf_X8_film_p48 (nI s) (nI q)) (fun i z => (∀ j, j < i → z.1 23 (40 * s + j) = u.1 9 j) ∧ (∀ j, j < 40 * s ∨ 40 * s + 40 ≤ j → z.1 23 j = p.1 23 j) ∧ (∀ c, c ≠ 23 → z.1 c = p.1 c)) k p (by omega) ⟨fun j hj => absurd hj (by omega), fun _ _ => rfl, fun _ _ => rfl⟩ (by
          intro i z n' hi ⟨g1, g2, g3⟩
          have z6 : z.1 0 15 = nI k := by rw [g3 0 (by decide), p15]
          have nl : ¬ nI k ≤ nI i := nI_ge hi (by omega)
          have z9 : z.1 9 i = u.1 9 i := by rw [g3 9 (by decide), p9]
          refine ⟨sm_sI z 23 (40 * s + i) (u.1 9 i), ?_, fun j' hj' => ?_, fun j' hj' => ?_, fun c hc => ?_⟩
          · rw [mf_X8_film_p48]
            simp only [sm_bS, z6, nl, if_false, nI_40, sm_gIn (show i < 5 by omega) (by decide : 5 < 2 ^ 31), sm_gIn (show 40 * s + i < 160 by omega) (by decide : 160 < 2 ^ 31), nI_cl (show 40 * s + i < 2 ^ 31 by omega), nI_cl (show i < 2 ^ 31 by omega), z9, nI_inc]
          · by_cases e : j' = i
            · subst e; rw [sm_rE]
            · rw [sm_rI1 23 _ (Or.inr (by omega))]; exact g1 j' (by omega)
          · rw [sm_rI1 23 _ (Or.inr (by omega))]; exact g2 j' hj'
          · rw [sm_rI c hc]; exact g3 c hc)
        rw [l1, o1, xf_X7_film_p83, mf_X8_film_p48]
        have t6 : y'.1 1 6 = nI k := by rw [l3 1 (by omega), y6]
        have t15 : p'.1 0 15 = nI k := by rw [o4 0 (by decide), p15]
        have nl : nI k ≤ nI k := nI_le (Nat.le_refl _) (by omega)
        simp only [sm_bS, t6, t15, nl, if_true]
        have hR2 : pr_R cmp w u := h0.keep (fun c j hcj => by
          obtain ⟨d3, d6, d9, d12, d43⟩ := pr_pxE c j hcj
          rw [G1.1 c d3 d6 d9 d12 d43]) m3
        refine pr_same (pr_shR hs hR2 (fun c h1 h2 h3 => by rw [l3 c h3, b4 c h2 h3]) (fun c c0 c1 c2 c3 => by rw [o4 c c3, d7 c c0 c1 c2 c3]) (fun s' hs' => ?_) (Or.inr ⟨0, k, by decide, by omega, ?_, ?_, ?_, ?_, ?_, fun i hi => ?_⟩))
        · obtain ⟨r1, r2, r3, r4⟩ := d6 s' hs'
          refine ⟨by rw [o4 20 (by decide), r1], by rw [o4 21 (by decide), r2], by rw [o4 22 (by decide), r3], fun i hi => by rw [o3 _ (by omega), r4 i hi]⟩
        · rw [l3 _ (by omega), b1]
          rfl
        · rw [o4 20 (by decide), d2]
        · rw [o4 21 (by decide), d3]
          rfl
        · rw [l3 _ (by omega), b2]
        · rw [o4 22 (by decide), d4]
        · rw [o2 i hi, l2 i hi, (ec i hi).1]
    · simp only [c, c2, and_self, if_true, i10, if_false]
      exact pr_same h0
  · simp only [c, if_true, if_false]
    exact pr_same h0
end
