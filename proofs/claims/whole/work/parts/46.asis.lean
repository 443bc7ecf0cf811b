/-! a night from now, of both -/
theorem pr_pxE : ∀ c j, pr_px c j = true → c ≠ 3 ∧ c ≠ 6 ∧ c ≠ 9 ∧ c ≠ 12 ∧ c < 43 := by
  intro c j h
  unfold pr_px at h
  simp only [Bool.or_eq_true, Bool.and_eq_true, beq_iff_eq, Bool.not_eq_true', Bool.or_eq_false_iff, beq_eq_false_iff_ne, decide_eq_false_iff_not] at h
  omega
theorem pr_pmE : ∀ c j, pr_pm c j = true → nt_fm c j = false ∨ (c = 0 ∧ j = 7) ∨ (c = 6 ∧ j < 5) := by
  intro c j h
  by_cases g : nt_fm c j = false
  · exact Or.inl g
  · right
    have g : nt_fm c j = true := by simpa using g
    unfold nt_fm at g
    unfold pr_pm at h
    by_cases c0 : c = 0
    · subst c0
      simp at g h
      omega
    · simp [c0] at g h
      omega
section
variable {cmp : (Nat → Int32) → Nat → (Nat → Int32) → (Nat → Int32) → Prop} {V : (Nat → Int32) → (Nat → Int32) → Int32 → (Nat → Int32) → Int32} {k tc t : Nat} {σ σ' : sm_St} {kn nb pl W : Nat → Int32} {sk te ed : Int32} {P : Int32 → Nat → Int32 → Int32 → Int32 → Int32 → Int32}
theorem xf_asIs {M N : Nat} {b : Nat → Int32} (hI : nt_I cmp V) (h5 : k ≤ 5) (hR : pr_I (σ.1 1) (σ.1 4) (σ.1 7) (σ.1 10) k tc) (ht : t < 6) (h15 : σ.1 1 5 = nI t) (hc : cmp b N (σ.1 (22 + t)) (σ.1 (28 + t))) (hM : M ≤ 40) (h9 : σ.1 43 9 = nI M) (hW : ∀ m, m < M → σ.1 46 m = W m) : sm_ok (xf_X7_thinkAsItIs σ) (fun _ w => (∀ c, c ≠ 3 → c ≠ 6 → c ≠ 9 → c ≠ 12 → c < 43 → w.1 c = σ.1 c) ∧ nt_X k (nt_run true k (σ.1 4) (σ.1 7) (σ.1 1 3) (σ.1 1 4) (nt_P V (σ.1 (22 + t)) (σ.1 (28 + t)) (σ.1 7)) W (nt_S0 (σ.1 1 0) (σ.1 10)) M) w) := by
  have hg := nt_good0 h5 hR
  obtain ⟨i1, i2, i3, i4, i5, i6, i7, i8⟩ := hR
  unfold xf_X7_thinkAsItIs
  refine ok_c (@xf_beginE σ) (fun _ v ⟨b1, b2, b3, b4, b5, b6, b7⟩ => ?_)
  have v1 : v.1 1 = σ.1 1 := b7 1 (by decide) (by decide) (by decide) (by decide) (by decide) (by decide) (by decide) (by decide) (by decide) (by decide)
  have v46 : v.1 46 = σ.1 46 := b7 46 (by decide) (by decide) (by decide) (by decide) (by decide) (by decide) (by decide) (by decide) (by decide) (by decide)
  have v22 : v.1 (22 + t) = σ.1 (22 + t) := b7 _ (by omega) (by omega) (by omega) (by omega) (by omega) (by omega) (by omega) (by omega) (by omega) (by omega)
  have v28 : v.1 (28 + t) = σ.1 (28 + t) := b7 _ (by omega) (by omega) (by omega) (by omega) (by omega) (by omega) (by omega) (by omega) (by omega) (by omega)
  simp only [sm_bS, v1, h15, sm_gIn ht (by decide : 6 < 2 ^ 31), nI_cl (show t < 2 ^ 31 by omega)]
  have hp : nt_XP true k (nt_P V (σ.1 (22 + t)) (σ.1 (28 + t)) (σ.1 7)) (sm_sR v 43 13 (some (16 + t))) := by
    have := xf_priceE (σ0 := sm_sR v 43 13 (some (16 + t))) (k := k) (b := b) (n := N) hI h5 ht (by show cmp b N (v.1 (22 + t)) (v.1 (28 + t)); rw [v22, v28]; exact hc) (by simp [sm_sR, va_up, upd])
    have := nt_XPb (nb := σ.1 7) this (fun x hx => (b2 x (by omega)).2.1)
    have e1 : (sm_sR v 43 13 (some (16 + t))).1 (22 + t) = σ.1 (22 + t) := v22
    have e2 : (sm_sR v 43 13 (some (16 + t))).1 (28 + t) = σ.1 (28 + t) := v28
    rw [e1, e2] at this
    exact this
  refine ok_c (xf_thinkE (kn := σ.1 4) (nb := σ.1 7) (pl := σ.1 10) (W := W) (sk := σ.1 1 0) (te := σ.1 1 3) (ed := σ.1 1 4) h5 hM (b6.trans h9) ((b1 6 (by decide)).trans i6) (fun x hx => ⟨(b2 x (by omega)).1, (b2 x (by omega)).2.1, (b2 x (by omega)).2.2.1⟩) (b1 0 (by decide)) (b1 3 (by decide)) (b1 4 (by decide)) (fun m hm => by rw [v46]; exact hW m hm) (fun x hx => ?_) b3 b4 b5 hg hp) (fun _ w ⟨w1, w2⟩ => ok_some.mpr ⟨fun c c3 c6 c9 c12 c43 => ?_, w2⟩)
  · obtain ⟨-, -, -, z1, z2, z3, z4, z5⟩ := b2 x hx
    exact ⟨z1, z2, z3, z4, z5⟩
  · rw [← b7 c c3 c6 c9 c12 (by omega) (by omega) (by omega) (by omega) (by omega) (by omega)]
    exact funext fun j => w1 c j (nt_fx0 c c3 c12 c43 j)
/-- the reference's night from now, all but laid back -/
theorem mf_asideN {s n N : Nat} {code ends : Nat → Int32} (hI : nt_I cmp V) (hs : s < 4) (hn : n ≤ 40) (h22 : σ.1 22 s = nI n) (h5 : k ≤ 5) (h15 : σ.1 0 15 = nI k) (hk : ∀ x, x < k → σ.1 4 x = kn x ∧ σ.1 5 x = nb x ∧ σ.1 6 x = pl x) (hsk : σ.1 0 7 = sk) (hte : σ.1 0 10 = te) (hed : σ.1 0 11 = ed) (he1 : ed = 0 ∨ ed = 1) (hW : ∀ m, m < n → nt_wind (σ.1 23 (40 * s + m)) = W m) (hg : nt_good k 0 (nt_S0 sk pl)) (ht : t < 6) (hN : N ≤ 160) (h4 : σ.1 0 4 = nI t) (h2 : σ.1 2 t = nI N) (hc : cmp (fun i => σ.1 1 (160 * t + i)) N code ends) : ∃ s3 u v, mf_X8_layAside σ = some ((), s3) ∧ mf_X8_nights (nI s) s3 = some ((), u) ∧ mf_X8_takeBack u = some ((), v) ∧ nt_M k (nt_run true k kn nb te ed (nt_P V code ends nb) W (nt_S0 sk pl) n) u ∧ u.1 0 15 = nI k ∧ v.1 0 15 = nI k ∧ (∀ c, 7 ≤ c → c ≤ 11 → v.1 c = u.1 c) ∧ pr_am σ v := by
  obtain ⟨_, s3, e1, a1, a2, a3⟩ := @mf_asideE σ
  have z : ∀ c, c ≠ 13 → s3.1 c = σ.1 c := a3
  have hp : nt_MP k (nt_P V code ends nb) s3 := mf_saysE hI h5 ht hN (by rw [z 0 (by decide), h4]) (by rw [z 2 (by decide), h2]) (by rw [z 1 (by decide)]; exact hc) (fun x hx => by rw [z 5 (by decide)]; exact (hk x hx).2.1)
  obtain ⟨_, u, e2, u1, u2⟩ := mf_thinkE (σ := s3) (kn := kn) (nb := nb) (pl := pl) (W := W) (sk := sk) (te := te) (ed := ed) hs hn (by rw [z 22 (by decide), h22]) h5 (by rw [z 0 (by decide), h15]) (fun x hx => by rw [z 4 (by decide), z 5 (by decide), z 6 (by decide)]; exact hk x hx) (by rw [z 0 (by decide), hsk]) (by rw [z 0 (by decide), hte]) (by rw [z 0 (by decide), hed]) he1 (fun m hm => by rw [z 23 (by decide)]; exact hW m hm) hg hp
  obtain ⟨_, v, e3, v1, v2, v3, v4, v5⟩ := @mf_backE u
  have u15 : u.1 0 15 = nI k := by rw [u1 0 15 (by simp [nt_fm]), z 0 (by decide), h15]
  refine ⟨s3, u, v, e1, e2, e3, u2, u15, by rw [v4 15 (by decide), u15], fun c c7 c11 => v5 c (by omega) (by omega), fun c j hcj => ?_⟩
  have u13 : ∀ i, u.1 13 i = s3.1 13 i := fun i => u1 13 i (by simp [nt_fm])
  rcases pr_pmE c j hcj with g | ⟨g1, g2⟩ | ⟨g1, g2⟩
  · by_cases c0 : c = 0
    · subst c0
      rw [v4 j (fun e => by subst e; simp [nt_fm] at g), u1 0 j g, z 0 (by decide)]
    · by_cases c6 : c = 6
      · subst c6
        have j5 : 5 ≤ j := by
          simp [nt_fm] at g
          exact g
        rw [v2 j j5, u1 6 j g, z 6 (by decide)]
      · have c13 : c ≠ 13 := fun e => by subst e; simp [pr_pm] at hcj
        rw [v5 c c0 c6, u1 c j g, z c c13]
  · subst g1; subst g2
    rw [v3, u13, a2]
  · subst g1
    rw [v1 j g2, u13, a1 j g2]
end
