/-! a text whole: the class -/
def ps_b (n : Nat) : Sum Nat (List Int32 × Nat) → Prop
  | .inl q => q ≤ n
  | .inr r => r.2 ≤ n
def ps_pt (β : Nat → Nat) (n k p : Nat) : Sum Nat (List Int32 × Nat) := if tx_c β n p = 262 + k then (match ps_rd β n 64 5 0 (tx_e β n p) with
  | .inl q => .inl q
  | .inr r => if tx_c β n r.2 = 59 then .inr (r.1, tx_e β n r.2) else .inl (tx_s β n r.2)) else .inl (tx_s β n p)
def ps_tx (β : Nat → Nat) (n : Nat) : Sum Nat (List Int32 × List Int32 × List Int32) := match ps_pt β n 0 0 with
  | .inl q => .inl q
  | .inr a => match ps_pt β n 1 a.2 with
    | .inl q => .inl q
    | .inr b => match ps_pt β n 2 b.2 with
      | .inl q => .inl q
      | .inr c => if tx_c β n c.2 = 0 then .inr (a.1, b.1, c.1) else .inl (tx_s β n c.2)
section
variable {β : Nat → Nat} {n p t o : Nat} {σ : sm_St} {l : List Int32}
theorem ps_lpB {q : Nat → Bool} {sub : Nat → Sum Nat (List Int32 × Nat)} (h : ∀ p, p ≤ n → ps_b n (sub p)) : ∀ d l p, p ≤ n → ps_b n (ps_lp q (tx_c β n) (tx_e β n) sub d l p) := by
  intro d
  induction d with
  | zero => intro l p _; exact Nat.zero_le _
  | succ d ih =>
    intro l p hp
    unfold ps_lp
    split
    · have := h (tx_e β n p) (tx_eB hp).2.1
      split
      · rename_i e
        rw [e] at this
        exact this
      · rename_i e
        rw [e] at this
        exact ih _ _ this
    · exact hp
theorem ps_unB {x : Int32} {r : Sum Nat (List Int32 × Nat)} (h : ps_b n r) : ps_b n (ps_un x r) := by
  cases r with
  | inl q => exact h
  | inr r => exact h
theorem ps_B : ∀ f w o p, p ≤ n → ps_b n (ps_rd β n f w o p) := by
  intro f
  induction f with
  | zero => intro w o p _; exact Nat.zero_le _
  | succ f ih =>
    intro w o p hp
    have e := (tx_eB (β := β) hp).2.1
    have s := (tx_sB (β := β) hp).2
    unfold ps_rd
    split
    · unfold ps_one
      split
      · exact e
      · split
        · exact e
        · split
          · exact s
          · split
            · exact ps_unB (ih _ _ _ e)
            · split
              · have := ih 5 (o + 1) _ e
                split
                · rename_i z
                  rw [z] at this
                  exact this
                · rename_i z
                  rw [z] at this
                  split
                  · exact (tx_eB this).2.1
                  · exact (tx_sB this).2
              · exact s
    · split
      · unfold ps_not
        split
        · split
          · exact s
          · exact ps_unB (ih _ _ _ e)
        · have := ih 2 o p hp
          cases z : ps_rd β n f 2 o p with
          | inl q => rw [z] at this; exact this
          | inr r =>
            rw [z] at this
            unfold ps_cmp
            dsimp only
            split
            · have h2 := ih 2 o _ (tx_eB (β := β) this).2.1
              split
              · rename_i z2
                rw [z2] at h2
                exact h2
              · rename_i z2
                rw [z2] at h2
                exact h2
            · exact this
      · unfold ps_ch
        have := ih (w - 1) o p hp
        split
        · rename_i z
          rw [z] at this
          exact this
        · rename_i z
          rw [z] at this
          exact ps_lpB (fun p h => ih (w - 1) o p h) _ _ _ this
theorem ps_ptB {k : Nat} (hp : p ≤ n) : ps_b n (ps_pt β n k p) := by
  unfold ps_pt
  split
  · have := ps_B (β := β) (n := n) 64 5 0 _ (tx_eB (β := β) hp).2.1
    split
    · rename_i z
      rw [z] at this
      exact this
    · rename_i z
      rw [z] at this
      split
      · exact (tx_eB this).2.1
      · exact (tx_sB this).2
  · exact (tx_sB hp).2
def cx_G (t : Nat) (σ σ' : sm_St) : Prop := (∀ c j, ¬ (c = 13 ∧ 2 ≤ j ∧ j ≤ 5) → ¬ (c = 16 + t ∧ j = 2) → c ≠ 22 + t → c ≠ 28 + t → σ'.1 c j = σ.1 c j)
theorem cx_G.rf (t : Nat) (σ : sm_St) : cx_G t σ σ := fun _ _ _ _ _ _ => rfl
theorem cx_G.tr {t : Nat} {a b c : sm_St} (h : cx_G t a b) (g : cx_G t b c) : cx_G t a c := fun x y h1 h2 h3 h4 => (g x y h1 h2 h3 h4).trans (h x y h1 h2 h3 h4)
theorem cx_G.f {t : Nat} {σ σ' : sm_St} (h : cx_F t σ σ') : cx_G t σ σ' := fun c j h1 h2 h3 _ => h.1 c j h1 h2 h3
/-- one part -/
def cx_Z (β : Nat → Nat) (n t k F : Nat) (l : List Int32) (σ : sm_St) : Sum Nat (List Int32 × Nat) → Prop
  | .inl q => ∃ σ', xf_X4_read_p20 (16 + t) (F + 1) σ (nI k) = some (nI q, σ') ∧ cx_G t σ σ'
  | .inr m => ∃ σ', xf_X4_read_p20 (16 + t) (F + 1) σ (nI k) = xf_X4_read_p20 (16 + t) F σ' (nI (k + 1)) ∧ cx_G t σ σ' ∧ cx_S β n t (l ++ m.1) σ' ∧ tx_At β n m.2 σ' ∧ m.2 ≤ n ∧ (l ++ m.1).length ≤ tx_s β n m.2 ∧ σ'.1 (28 + t) k = nI (l ++ m.1).length ∧ ∀ j, j ≠ k → σ'.1 (28 + t) j = σ.1 (28 + t) j
theorem xt_part {k F : Nat} (hn : n ≤ 160) (hβ : ∀ i, i < n → β i < 256) (ht : t < 6) (hk : k < 3) (hp : p ≤ n) (hS : cx_S β n t l σ) (hA : tx_At β n p σ) (hl : l.length ≤ tx_s β n p) : cx_Z β n t k F l σ (ps_pt β n k p) := by
  have nl : ¬ (3 : Int32) ≤ nI k := nI_ge (b := 3) hk (by decide)
  have ea : (262 : Int32) + nI k = nI (262 + k) := nI_add 262 k
  obtain ⟨a1, a2⟩ := xs_acc (a := 262 + k) (by omega) hn hβ ht hp hS hA
  unfold ps_pt
  by_cases c : tx_c β n p = 262 + k
  · obtain ⟨p1, p2, p3⟩ := tx_pos (β := β) hp (by omega)
    obtain ⟨u, u1, u2, u3, u4⟩ := a1 c
    obtain ⟨r, w, w1, w2, w3⟩ := xs_all hn hβ ht 64 5 0 (tx_e β n p) u l (by decide) (by decide) (by decide) p2 u3 u4 (by omega)
    have w1 : xf_X4_readOr_r 0 u = some (r, w) := w1
    rw [if_pos c]
    cases e : ps_rd β n 64 5 0 (tx_e β n p) with
    | inl q =>
      rw [e] at w3
      obtain ⟨w4, w5⟩ := w3
      refine ⟨w, ?_, (cx_G.f u2).tr (cx_G.f w2)⟩
      rw [xf_X4_read_p20, if_neg nl]
      simp only [sm_bN, ea, u1, sm_cS, i10, if_false, w1]
      rw [if_pos w4, w5]
    | inr m =>
      rw [e] at w3
      obtain ⟨w4, w5, w6, w7, w8, w9⟩ := w3
      have nz : ¬ r = 0 := by rw [w4]; exact i10
      obtain ⟨b1, b2⟩ := xs_acc (a := 59) (by decide) hn hβ ht w7 w5 w6
      dsimp only
      by_cases c1 : tx_c β n m.2 = 59
      · obtain ⟨r1, r2, r3⟩ := tx_pos (β := β) w7 (by omega)
        obtain ⟨y, y1, y2, y3, y4⟩ := b1 c1
        have y1 : xf_X4_accept 59 w = some (1, y) := y1
        rw [if_pos c1]
        have f28 : ∀ j, y.1 (28 + t) j = σ.1 (28 + t) j := fun j => by rw [y2.1 _ _ (by omega) (by omega) (by omega), w2.1 _ _ (by omega) (by omega) (by omega), u2.1 _ _ (by omega) (by omega) (by omega)]
        refine ⟨sm_sI y (28 + t) k (nI (l ++ m.1).length), ?_, (((cx_G.f u2).tr (cx_G.f w2)).tr (cx_G.f y2)).tr (fun c j h1 h2 h3 h4 => by rw [sm_rI c h4]), ?_, ?_, r2, ?_, sm_rE, fun j hj => ?_⟩
        · rw [xf_X4_read_p20, if_neg nl]
          simp only [sm_bN, ea, u1, sm_cS, i10, if_false, w1]
          rw [if_neg nz, y1]
          simp only [sm_cS, i10, if_false, xf_X6_endPart, sm_bN, y3.2.2.1, nI_inc]
          rw [sm_gIn hk (by decide : 3 < 2 ^ 31), nI_cl (show k < 2 ^ 31 by omega), show 16 + t + 12 = 28 + t by omega]
          rfl
        · obtain ⟨z1, z2, z3, z4⟩ := y3
          exact ⟨⟨by rw [sm_rI 13 (by omega)]; exact z1.1, fun i hi => by rw [sm_rI 14 (by omega)]; exact z1.2 i hi⟩, z2, by rw [sm_rI _ (by omega)]; exact z3, fun i hi => by rw [sm_rI _ (by omega)]; exact z4 i hi⟩
        · exact y4.c (fun j => by rw [sm_rI 13 (by omega)])
        · show (l ++ m.1).length ≤ tx_s β n (tx_e β n m.2)
          rw [List.length_append]
          omega
        · rw [sm_rI1 _ j (Or.inr hj)]
          exact f28 j
      · have y1 : xf_X4_accept 59 w = some (0, w) := b2 c1
        rw [if_neg c1]
        refine ⟨w, ?_, (cx_G.f u2).tr (cx_G.f w2)⟩
        rw [xf_X4_read_p20, if_neg nl]
        simp only [sm_bN, ea, u1, sm_cS, i10, if_false, w1]
        rw [if_neg nz, y1]
        simp only [sm_cS, if_true, w6.2.1]
  · rw [if_neg c]
    refine ⟨σ, ?_, cx_G.rf _ _⟩
    rw [xf_X4_read_p20, if_neg nl]
    simp only [sm_bN, ea, a2 c, sm_cS, if_true, hA.2.1]
def cx_R (n t : Nat) (r : Int32) (σ : sm_St) : Sum Nat (List Int32 × List Int32 × List Int32) → Prop
  | .inl q => q ≤ n ∧ r = nI q
  | .inr m => r = -1 ∧ (m.1 ++ m.2.1 ++ m.2.2).length ≤ n ∧ (∀ i, i < (m.1 ++ m.2.1 ++ m.2.2).length → σ.1 (22 + t) i = (m.1 ++ m.2.1 ++ m.2.2).getD i 0) ∧ σ.1 (28 + t) 0 = nI m.1.length ∧ σ.1 (28 + t) 1 = nI (m.1 ++ m.2.1).length ∧ σ.1 (28 + t) 2 = nI (m.1 ++ m.2.1 ++ m.2.2).length
theorem xo_len_ends (ht : t < 6) : xo_len (16 + t + 12) = 3 := by
  have q : ∀ t, t < 6 → xo_len (16 + t + 12) = 3 := by decide
  exact q t ht
theorem xt_read (hn : n ≤ 160) (hβ : ∀ i, i < n → β i < 256) (ht : t < 6) (hX : tx_X β n σ) : ∃ r σ', xf_X4_read (16 + t) σ = some (r, σ') ∧ cx_G t σ σ' ∧ cx_R n t r σ' (ps_tx β n) := by
  obtain ⟨F, hF⟩ := sm_Fs 4 (by decide)
  unfold xf_X4_read xf_X6_clear
  simp only [sm_bN]
  obtain ⟨_, u, u1, u2, u3, u4, u5⟩ := xf_fill (a := 16 + t + 12) (n := 3) (v := 0) (σ := sm_sI (sm_sR σ 13 6 (some (16 + t))) (16 + t) 2 0) (xo_len_ends ht) (by decide)
  have u3 : ∀ c, c ≠ 28 + t → u.1 c = (sm_sI (sm_sR σ 13 6 (some (16 + t))) (16 + t) 2 0).1 c := fun c hc => u3 c (by omega)
  have S0 : cx_S β n t [] (sm_sI u 13 4 0) := by
    refine ⟨⟨?_, fun i hi => ?_⟩, ?_, ?_, fun i hi => absurd hi (by simp)⟩
    · rw [sm_rI1 13 0 (by decide), u3 13 (by omega), sm_rI 13 (by omega)]
      exact hX.1
    · rw [sm_rI 14 (by decide), u3 14 (by omega), sm_rI 14 (by omega)]
      exact hX.2 i hi
    · show u.2.2 13 6 = _
      rw [u5]
      simp [sm_sI, sm_sR, va_up]
    · rw [sm_rI _ (by omega), u3 _ (by omega), sm_rE]
      rfl
  have G0 : cx_G t σ (sm_sI u 13 4 0) := fun c j h1 h2 h3 h4 => by
    have z : c ≠ 13 ∨ j ≠ 4 := by omega
    have z2 : c ≠ 16 + t ∨ j ≠ 2 := by omega
    rw [sm_rI1 c j z, u3 c h4, sm_rI1 c j z2]
    rfl
  obtain ⟨v, v1, v2, v3⟩ := xf_stepE (p := 0) hn hβ (Nat.zero_le _) S0.1 sm_rE
  have Sv := S0.f ht v2
  have Gv := G0.tr (cx_G.f (t := t) (cx_F.f v2))
  rw [u1]
  simp only [sm_cS, v1]
  rw [hF]
  have P0 := xt_part (k := 0) (F := F + 3) hn hβ ht (by decide) (Nat.zero_le _) Sv v3 (Nat.zero_le _)
  unfold ps_tx
  cases e0 : ps_pt β n 0 0 with
  | inl q =>
    have b := ps_ptB (β := β) (n := n) (p := 0) (k := 0) (Nat.zero_le _)
    rw [e0] at P0 b
    obtain ⟨w, w1, w2⟩ := P0
    exact ⟨nI q, w, w1, Gv.tr w2, b, rfl⟩
  | inr a =>
    rw [e0] at P0
    obtain ⟨w, w1, w2, w3, w4, w5, w6, w7, w8⟩ := P0
    have w1 : xf_X4_read_p20 (16 + t) (F + 4) v 0 = _ := w1
    rw [w1]
    dsimp only
    have P1 := xt_part (k := 1) (F := F + 2) hn hβ ht (by decide) w5 w3 w4 w6
    cases e1 : ps_pt β n 1 a.2 with
    | inl q =>
      have b := ps_ptB (β := β) (n := n) (p := a.2) (k := 1) w5
      rw [e1] at P1 b
      obtain ⟨y, y1, y2⟩ := P1
      exact ⟨nI q, y, y1, (Gv.tr w2).tr y2, b, rfl⟩
    | inr b =>
      rw [e1] at P1
      obtain ⟨y, y1, y2, y3, y4, y5, y6, y7, y8⟩ := P1
      rw [y1]
      dsimp only
      have P2 := xt_part (k := 2) (F := F + 1) hn hβ ht (by decide) y5 y3 y4 y6
      cases e2 : ps_pt β n 2 b.2 with
      | inl q =>
        have bb := ps_ptB (β := β) (n := n) (p := b.2) (k := 2) y5
        rw [e2] at P2 bb
        obtain ⟨z, z1, z2⟩ := P2
        exact ⟨nI q, z, z1, ((Gv.tr w2).tr y2).tr z2, bb, rfl⟩
      | inr c =>
        rw [e2] at P2
        obtain ⟨z, z1, z2, z3, z4, z5, z6, z7, z8⟩ := P2
        rw [z1]
        dsimp only
        have cB := @tx_cB β n c.2
        have q0 : nI (tx_c β n c.2) = 0 ↔ tx_c β n c.2 = 0 := nI_eq (b := 0) (by omega) (by decide)
        have sn := (tx_sB (β := β) z5).2
        rw [xf_X4_read_p20, if_pos (by decide)]
        simp only [sm_bN, z4.1, z4.2.1]
        by_cases cz : tx_c β n c.2 = 0
        · rw [if_pos (q0.mpr cz), if_pos cz]
          refine ⟨-1, z, rfl, ((Gv.tr w2).tr y2).tr z2, rfl, ?_, ?_, ?_, ?_, ?_⟩
          · show (a.1 ++ b.1 ++ c.1).length ≤ n
            rw [List.nil_append] at z6
            omega
          · have := z3.2.2.2
            rw [List.nil_append] at this
            exact this
          · rw [z8 0 (by decide), y8 0 (by decide), w7]
            rfl
          · rw [z8 1 (by decide), y7]
            rfl
          · rw [z7]
            rfl
        · rw [if_neg (mt q0.mp cz), if_neg cz]
          exact ⟨_, z, rfl, ((Gv.tr w2).tr y2).tr z2, sn, rfl⟩
end
