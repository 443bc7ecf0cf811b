/-! a night in thought, of both -/
theorem nt_good0 {a kn nb pl : Nat → Int32} {k tc : Nat} (h5 : k ≤ 5) (h : pr_I a kn nb pl k tc) : nt_good k 0 (nt_S0 (a 0) pl) := by
  obtain ⟨i1, -, -, -, -, -, i7, i8⟩ := h
  have r : ∀ v : Int32, 0 ≤ v → v ≤ 7 → ∃ q, q < 8 ∧ v = nI q := fun v h1 h2 => nI_ofR (n := 8) (by decide) h1 (by have e : nI 8 = 8 := rfl; rw [e]; grind)
  refine ⟨r _ i1.1 i1.2, Or.inl ⟨rfl, rfl⟩, fun x hx => ⟨r _ (i7 x hx).2.2.1 (i7 x hx).2.2.2, ⟨0, by omega, rfl⟩, 0, by omega, rfl⟩, fun i j hi hj e => i8 i j hi hj e⟩
theorem nt_S0C {k : Nat} {sk : Int32} {pl pm : Nat → Int32} (h : ∀ x, x < k → pl x = pm x) : nt_eq k (nt_S0 sk pl) (nt_S0 sk pm) := by
  refine ⟨fun _ _ => rfl, fun c x c1 c2 hx => ?_⟩
  rcases (by omega : c = 1 ∨ c = 2 ∨ c = 3 ∨ c = 4 ∨ c = 5 ∨ c = 6) with z | z | z | z | z | z <;> subst z
  · exact h x hx
  all_goals rfl
section
variable {cmp : (Nat → Int32) → Nat → (Nat → Int32) → (Nat → Int32) → Prop} {V : (Nat → Int32) → (Nat → Int32) → Int32 → (Nat → Int32) → Int32} {k : Nat} {σ : sm_St} {kn nb pl W : Nat → Int32} {sk te ed : Int32} {P : Int32 → Nat → Int32 → Int32 → Int32 → Int32 → Int32}
theorem nt_XPb {code ends nb' : Nat → Int32} {pay : Bool} (h : nt_XP pay k (nt_P V code ends nb') σ) (e : ∀ x, x < k → nb' x = nb x) : nt_XP pay k (nt_P V code ends nb) σ := by
  refine ⟨h.1, fun s hF pt m x hpt hx => ?_⟩
  have := h.2 s hF pt m x hpt hx
  unfold nt_P at this ⊢
  rw [e x hx] at this
  exact this
theorem xf_thinkE {pay : Bool} {rule : Option Nat} {M : Nat} (h5 : k ≤ 5) (hM : M ≤ 40) (h9 : σ.1 43 9 = nI M) (h6 : σ.1 3 6 = nI k) (hk : ∀ x, x < k → σ.1 6 x = kn x ∧ σ.1 9 x = nb x ∧ σ.1 12 x = pl x) (hsk : σ.1 3 0 = sk) (hte : σ.1 3 3 = te) (hed : σ.1 3 4 = ed) (hW : ∀ m, m < M → σ.1 46 m = W m) (hz : ∀ x, x < 5 → σ.1 44 x = 0 ∧ σ.1 45 x = 0 ∧ σ.1 47 x = 0 ∧ σ.1 48 x = 0 ∧ σ.1 49 x = 0) (h10 : σ.1 43 10 = 0) (h11 : σ.1 43 11 = -1) (h12 : σ.1 43 12 = -1) (hg : nt_good k 0 (nt_S0 sk pl)) (hp : nt_XP pay k P (sm_sR σ 43 13 rule)) : sm_ok (xf_X2_run rule σ) (fun _ s => (∀ c j, nt_fx c j = false → s.1 c j = σ.1 c j) ∧ nt_X k (nt_run pay k kn nb te ed P W (nt_S0 sk pl) M) s) := by
  have S : nt_X k (nt_S0 sk pl) (sm_sR σ 43 13 rule) := by
    refine ⟨hsk, h10, h11, h12, fun x hx => ?_, fun x h1 h2 => ?_⟩
    · obtain ⟨z1, z2, z3, z4, z5⟩ := hz x (by omega)
      exact ⟨(hk x hx).2.2, z5, z1, z2, z3, z4⟩
    · obtain ⟨z1, z2, z3, z4, z5⟩ := hz x h2
      exact ⟨z1, z4⟩
  obtain ⟨s, e1, e2, e3⟩ := xf_nightL (a1 := rule) (M := M) h5 hp h6 hM h9 S hg
  unfold xf_X2_run
  simp only [sm_bS]
  refine ⟨(), s, e1, e2.1, e3.eq ?_⟩
  show nt_eq k (nt_run pay k (σ.1 6) (σ.1 9) (σ.1 3 3) (σ.1 3 4) P (σ.1 46) (nt_S0 sk pl) M) _
  rw [hte, hed]
  exact (nt_runC h5 (fun x hx => (hk x hx).1) (fun x hx => (hk x hx).2.1) (nt_eq.np ⟨fun _ _ => rfl, fun _ _ _ _ _ => rfl⟩) hg M (by omega) hW).2 rfl ⟨fun _ _ => rfl, fun _ _ _ _ _ => rfl⟩
theorem mf_thinkE {s n : Nat} (hs : s < 4) (hn : n ≤ 40) (h22 : σ.1 22 s = nI n) (h5 : k ≤ 5) (h15 : σ.1 0 15 = nI k) (hk : ∀ x, x < k → σ.1 4 x = kn x ∧ σ.1 5 x = nb x ∧ σ.1 6 x = pl x) (hsk : σ.1 0 7 = sk) (hte : σ.1 0 10 = te) (hed : σ.1 0 11 = ed) (he1 : ed = 0 ∨ ed = 1) (hW : ∀ m, m < n → nt_wind (σ.1 23 (40 * s + m)) = W m) (hg : nt_good k 0 (nt_S0 sk pl)) (hp : nt_MP k P σ) : sm_ok (mf_X8_nights (nI s) σ) (fun _ u => nt_MF σ u ∧ nt_M k (nt_run true k kn nb te ed P W (nt_S0 sk pl) n) u) := by
  unfold mf_X8_nights
  refine ok_c (@mf_beginsE σ) (fun _ t ⟨b1, b2, b3, b4, b5⟩ => ?_)
  have ft : nt_MF σ t := by
    intro c j hc
    by_cases c0 : c = 0
    · subst c0
      exact b4 j (fun e => by subst e; simp [nt_fm] at hc) (fun e => by subst e; simp [nt_fm] at hc)
    · rw [b5 c c0 (by
        by_cases z : c < 7
        · exact Or.inl z
        · by_cases z2 : 11 < c
          · exact Or.inr z2
          · rcases (by omega : c = 7 ∨ c = 8 ∨ c = 9 ∨ c = 10 ∨ c = 11) with e | e | e | e | e <;> subst e <;> simp [nt_fm] at hc)]
  have S : nt_M k (nt_S0 sk pl) t := by
    refine ⟨?_, b3, Or.inl ⟨rfl, b2⟩, fun x hx => ?_⟩
    · rw [b4 7 (by decide) (by decide)]; exact hsk
    · obtain ⟨z1, z2, z3, z4, z5⟩ := b1 x (by omega)
      refine ⟨?_, z1, z2, z3, z4, z5⟩
      rw [b5 6 (by decide) (by decide)]
      exact (hk x hx).2.2
  obtain ⟨u, f, e1, e2, e3⟩ := lp_c (mf_X8_nights_p6 (nI s)) (fun i u => nt_MF σ u ∧ nt_M k (nt_run true k (σ.1 4) (σ.1 5) te ed P W (nt_S0 sk pl) i) u) n t (by omega) ⟨ft, S⟩ (by
    intro i u f hi ⟨g1, g2⟩
    have nl : ¬ nI n ≤ nI i := nI_ge hi (by omega)
    have u22 : u.1 22 s = nI n := by rw [g1 22 s (by simp [nt_fm]), h22]
    have u23 : u.1 23 (40 * s + i) = σ.1 23 (40 * s + i) := g1 23 _ (by simp [nt_fm])
    have G := @nt_goodR true k (σ.1 4) (σ.1 5) te ed P W (nt_S0 sk pl) h5 hg i (by omega)
    obtain ⟨_, v, v1, v2, v3⟩ := mf_passesE (mi := nI i) h5 hp h15 g1 g2 G (by omega) (nt_windR (σ.1 23 (40 * s + i))) hed he1
    refine ⟨v, ?_, v2, ?_⟩
    · rw [mf_X8_nights_p6]
      have wo : mf_X8_windOf (σ.1 23 (40 * s + i)) u = some (nt_wind (σ.1 23 (40 * s + i)), u) := by
        unfold mf_X8_windOf nt_wind
        (repeat' split) <;> rfl
      simp only [sm_bS, sm_gIn hs (by decide : 4 < 2 ^ 31), nI_cl (show s < 2 ^ 31 by omega), u22, nl, if_false, nI_40, sm_gIn (show 40 * s + i < 160 by omega) (by decide : 160 < 2 ^ 31), nI_cl (show 40 * s + i < 2 ^ 31 by omega), u23, wo, sm_cS, v1, nI_inc]
    · rw [hW i hi, hte] at v3
      exact v3)
  rw [e1, mf_X8_nights_p6]
  have u22 : u.1 22 s = nI n := by rw [e2 22 s (by simp [nt_fm]), h22]
  simp only [sm_bS, sm_gIn hs (by decide : 4 < 2 ^ 31), nI_cl (show s < 2 ^ 31 by omega), u22]
  rw [if_pos (nI_le (Nat.le_refl n) (by omega))]
  refine ok_some.mpr ⟨e2, e3.eq ?_⟩
  exact (nt_runC h5 (fun x hx => (hk x hx).1) (fun x hx => (hk x hx).2.1) (nt_eq.np ⟨fun _ _ => rfl, fun _ _ _ _ _ => rfl⟩) hg n (by omega) (fun _ _ => rfl)).2 rfl ⟨fun _ _ => rfl, fun _ _ _ _ _ => rfl⟩
end
