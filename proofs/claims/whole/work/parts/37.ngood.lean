/-! what stands at each minute; a free place is found -/
theorem pu_and8 (x : Int32) : ∃ j, j < 8 ∧ x &&& 7 = nI j := pk_andE x (m := 7) 3 (by decide)
theorem pu_add7 : ∀ q : Nat, q < 8 → (nI q + 1) &&& 7 = nI ((q + 1) % 8) := by decide
theorem pu_pig : ∀ a, a < 5 → ∀ b, b < 5 → a ≠ b → ∀ c, c < 5 → c ≠ a → c ≠ b → ∀ d, d < 5 → d ≠ a → d ≠ b → d ≠ c → ∀ e, e < 5 → e ≠ a → e ≠ b → e ≠ c → e ≠ d → ∀ x, x < 5 → x = a ∨ x = b ∨ x = c ∨ x = d ∨ x = e := by
  intro a ha b hb h1 c hc h2 h3 d hd h4 h5 h6 e he h7 h8 h9 h10 x hx
  omega
theorem nt_pig {k x q : Nat} {pl : Nat → Int32} (h5 : k ≤ 5) (hx : x < k) (hd : ∀ i j, i < k → j < k → pl i = pl j → i = j) (hq : q < 8) : ∃ j, j < 5 ∧ pu_find (fun i => decide (¬ nI i = nI x) && decide (pl i = nI ((q + j) % 8))) k 0 = -1 := by
  by_cases c : ∃ j, j < 5 ∧ pu_find (fun i => decide (¬ nI i = nI x) && decide (pl i = nI ((q + j) % 8))) k 0 = -1
  · exact c
  · exfalso
    have h : ∀ j, j < 5 → ∃ i, i < k ∧ i ≠ x ∧ pl i = nI ((q + j) % 8) := by
      intro j hj
      obtain ⟨i, -, i2, i3, i4⟩ := pu_find_some k 0 (fun e => c ⟨j, hj, e⟩)
      simp only [Bool.and_eq_true, decide_eq_true_eq] at i4
      exact ⟨i, by omega, fun e => i4.1 (by rw [e]), i4.2⟩
    have n : ∀ i j a b : Nat, i < 5 → j < 5 → i ≠ j → pl a = nI ((q + i) % 8) → pl b = nI ((q + j) % 8) → a ≠ b := by
      intro i j a b hi hj hn ea eb e
      rw [e, eb] at ea
      have := (nI_eq (by omega) (by omega)).mp ea
      omega
    obtain ⟨a, a1, a2, a3⟩ := h 0 (by decide)
    obtain ⟨b, b1, b2, b3⟩ := h 1 (by decide)
    obtain ⟨c, c1, c2, c3⟩ := h 2 (by decide)
    obtain ⟨d, d1, d2, d3⟩ := h 3 (by decide)
    obtain ⟨e, e1, e2, e3⟩ := h 4 (by decide)
    have := pu_pig a (by omega) b (by omega) (n 0 1 a b (by decide) (by decide) (by decide) a3 b3) c (by omega) (n 2 0 c a (by decide) (by decide) (by decide) c3 a3) (n 2 1 c b (by decide) (by decide) (by decide) c3 b3) d (by omega) (n 3 0 d a (by decide) (by decide) (by decide) d3 a3) (n 3 1 d b (by decide) (by decide) (by decide) d3 b3) (n 3 2 d c (by decide) (by decide) (by decide) d3 c3) e (by omega) (n 4 0 e a (by decide) (by decide) (by decide) e3 a3) (n 4 1 e b (by decide) (by decide) (by decide) e3 b3) (n 4 2 e c (by decide) (by decide) (by decide) e3 c3) (n 4 3 e d (by decide) (by decide) (by decide) e3 d3) x (by omega)
    omega
theorem nt_seekE {k : Nat} {pl : Nat → Int32} {x : Int32} : ∀ (n q : Nat), q < 8 → (∃ j, j < n ∧ pu_find (fun i => decide (¬ nI i = x) && decide (pl i = nI ((q + j) % 8))) k 0 = -1) → ∃ j, j < 8 ∧ nt_seek k pl x n (nI q) = nI j ∧ pu_find (fun i => decide (¬ nI i = x) && decide (pl i = nI j)) k 0 = -1 := by
  intro n
  induction n with
  | zero => intro q _ ⟨j, hj, _⟩; omega
  | succ n ih =>
    intro q hq ⟨j, hj, e⟩
    unfold nt_seek
    by_cases c : pu_find (fun i => decide (¬ nI i = x) && decide (pl i = nI q)) k 0 = -1
    · rw [if_pos c]
      exact ⟨q, hq, rfl, c⟩
    · rw [if_neg c, pu_add7 q hq]
      cases j with
      | zero =>
        rw [Nat.add_zero, Nat.mod_eq_of_lt hq] at e
        exact absurd e c
      | succ j =>
        refine ih ((q + 1) % 8) (Nat.mod_lt _ (by decide)) ⟨j, by omega, ?_⟩
        rw [show ((q + 1) % 8 + j) % 8 = (q + (j + 1)) % 8 by omega]
        exact e
theorem nt_seek8 {k x q : Nat} {pl : Nat → Int32} (h5 : k ≤ 5) (hx : x < k) (hd : ∀ i j, i < k → j < k → pl i = pl j → i = j) (hq : q < 8) : ∃ j, j < 8 ∧ nt_seek k pl (nI x) 8 (nI q) = nI j ∧ ∀ i, i < k → i ≠ x → pl i ≠ nI j := by
  obtain ⟨j, hj, e⟩ := nt_pig h5 hx hd hq
  obtain ⟨i, h1, h2, h3⟩ := nt_seekE 8 q hq ⟨j, by omega, e⟩
  refine ⟨i, h1, h2, fun y hy hn he => ?_⟩
  have := (pu_find_none k 0 (by omega)).mp h3 y (by omega) (by omega)
  simp only [Bool.and_eq_false_iff, decide_eq_false_iff_not, Decidable.not_not] at this
  rcases this with g | g
  · exact hn ((nI_eq (by omega) (by omega)).mp g)
  · exact g he
/-- what stands after so many minutes -/
def nt_good (k m : Nat) (S : Nat → Nat → Int32) : Prop := (∃ q, q < 8 ∧ S 0 0 = nI q) ∧ ((S 0 2 = -1 ∧ S 0 3 = -1) ∨ ∃ x q, x < k ∧ q < 8 ∧ S 0 2 = nI x ∧ S 0 3 = nI q) ∧ (∀ x, x < k → (∃ q, q < 8 ∧ S 1 x = nI q) ∧ (∃ l, l ≤ m ∧ S 2 x = nI l) ∧ ∃ g, g ≤ m ∧ S 5 x = nI g) ∧ ∀ i j, i < k → j < k → S 1 i = S 1 j → i = j
theorem nt_sk8 (ed : Int32) (S : Nat → Nat → Int32) (w : Int32) : ∃ q, q < 8 ∧ nt_sk ed S w = nI q := by
  unfold nt_sk
  (repeat' split) <;> exact pu_and8 _
theorem nt_whE {k : Nat} (te sk : Int32) (pl : Nat → Int32) : nt_wh k te sk pl = -1 ∨ ∃ x, x < k ∧ nt_wh k te sk pl = nI x ∧ pl x = sk := by
  unfold nt_wh
  split
  · exact Or.inl rfl
  · by_cases c : pu_find (fun x => decide (pl x = sk)) k 0 = -1
    · exact Or.inl c
    · obtain ⟨j, -, j2, j3, j4⟩ := pu_find_some k 0 c
      exact Or.inr ⟨j, by omega, j3, of_decide_eq_true j4⟩
theorem nt_goodF {pay : Bool} {k m : Nat} {kn : Nat → Int32} {P : Int32 → Nat → Int32 → Int32 → Int32 → Int32 → Int32} {mi sk ne wh : Int32} {S : Nat → Nat → Int32} (hm : m < 1000) (hs : ∃ q, q < 8 ∧ sk = nI q) (h : nt_good k m S) : nt_good k (m + 1) (nt_feel pay kn P mi sk ne wh S) := by
  obtain ⟨h1, h2, h3, h4⟩ := h
  refine ⟨hs, h2, fun x hx => ?_, h4⟩
  obtain ⟨a, ⟨l, l1, l2⟩, g, g1, g2⟩ := h3 x hx
  refine ⟨a, ?_, ?_⟩
  · show ∃ l, l ≤ m + 1 ∧ nt_lo wh S x = nI l
    unfold nt_lo
    split
    · exact ⟨l + 1, by omega, by rw [l2, nI_succ]⟩
    · exact ⟨0, by omega, rfl⟩
  · show ∃ g, g ≤ m + 1 ∧ nt_lg wh S x = nI g
    unfold nt_lg
    split
    · split
      · exact ⟨l + 1, by omega, by rw [l2, nI_succ]⟩
      · exact ⟨g, by omega, g2⟩
    · exact ⟨g, by omega, g2⟩
theorem nt_goodE {pay : Bool} {k m : Nat} {kn nb : Nat → Int32} {P : Int32 → Nat → Int32 → Int32 → Int32 → Int32 → Int32} {mi w wh : Int32} {S : Nat → Nat → Int32} (h5 : k ≤ 5) (hw : wh = -1 ∨ ∃ x, x < k ∧ wh = nI x) (h : nt_good k m S) : nt_good k m (nt_end pay k kn nb P mi w wh S) := by
  obtain ⟨h1, h2, h3, h4⟩ := h
  have hn : nt_good k m (nt_none S) := ⟨h1, Or.inl ⟨rfl, rfl⟩, h3, h4⟩
  unfold nt_end
  split
  · exact hn
  · rename_i n
    split
    · exact hn
    · rcases hw with e | ⟨x, hx, e⟩
      · exact absurd e n
      · subst e
        rw [nI_cl (show x < 2 ^ 31 by omega)]
        obtain ⟨⟨q, q1, q2⟩, ⟨l, l1, l2⟩, g⟩ := h3 x hx
        obtain ⟨p, p1, p2⟩ : ∃ p, p < 8 ∧ pu_goes (kn x) (S 1 x) w = nI p := by unfold pu_goes; exact pu_and8 _
        obtain ⟨j, j1, j2, j3⟩ := nt_seek8 h5 hx h4 p1
        refine ⟨h1, Or.inr ⟨x, q, hx, q1, rfl, q2⟩, fun y hy => ⟨?_, ?_, (h3 y hy).2.2⟩, fun a b ha hb => ?_⟩
        · show ∃ q, q < 8 ∧ upd (S 1) x (nt_seek k (S 1) (nI x) 8 (pu_goes (kn x) (S 1 x) w)) y = nI q
          unfold upd
          split
          · exact ⟨j, j1, by rw [p2, j2]⟩
          · exact (h3 y hy).1
        · show ∃ l, l ≤ m ∧ upd (S 2) x 0 y = nI l
          unfold upd
          split
          · exact ⟨0, by omega, rfl⟩
          · exact (h3 y hy).2.1
        · show upd (S 1) x (nt_seek k (S 1) (nI x) 8 (pu_goes (kn x) (S 1 x) w)) a = upd (S 1) x (nt_seek k (S 1) (nI x) 8 (pu_goes (kn x) (S 1 x) w)) b → a = b
          rw [p2, j2]
          unfold upd
          by_cases ea : a = x <;> by_cases eb : b = x
          · omega
          · simp only [ea, eb, if_true, if_false]
            exact fun e => absurd e.symm (j3 b hb eb)
          · simp only [ea, eb, if_true, if_false]
            exact fun e => absurd e (j3 a ha ea)
          · simp only [ea, eb, if_false]
            exact h4 a b ha hb
theorem nt_goodS {pay : Bool} {k m : Nat} {kn nb : Nat → Int32} {te ed : Int32} {P : Int32 → Nat → Int32 → Int32 → Int32 → Int32 → Int32} {mi w : Int32} {S : Nat → Nat → Int32} (h5 : k ≤ 5) (hm : m < 1000) (h : nt_good k m S) : nt_good k (m + 1) (nt_step pay k kn nb te ed P mi w S) := by
  unfold nt_step
  refine nt_goodE h5 ?_ (nt_goodF hm (nt_sk8 _ _ _) h)
  rcases nt_whE te (nt_sk ed S w) (S 1) with e | ⟨x, hx, e, -⟩
  · exact Or.inl e
  · exact Or.inr ⟨x, hx, e⟩
def nt_run (pay : Bool) (k : Nat) (kn nb : Nat → Int32) (te ed : Int32) (P : Int32 → Nat → Int32 → Int32 → Int32 → Int32 → Int32) (W : Nat → Int32) (S : Nat → Nat → Int32) : Nat → Nat → Nat → Int32
  | 0 => S
  | m + 1 => nt_step pay k kn nb te ed P (nI m) (W m) (nt_run pay k kn nb te ed P W S m)
theorem nt_goodR {pay : Bool} {k : Nat} {kn nb : Nat → Int32} {te ed : Int32} {P : Int32 → Nat → Int32 → Int32 → Int32 → Int32 → Int32} {W : Nat → Int32} {S : Nat → Nat → Int32} (h5 : k ≤ 5) (h : nt_good k 0 S) : ∀ m, m < 1000 → nt_good k m (nt_run pay k kn nb te ed P W S m)
  | 0, _ => h
  | m + 1, hm => nt_goodS h5 (by omega) (nt_goodR h5 h m (by omega))
section
variable {pay : Bool} {k : Nat} {P : Int32 → Nat → Int32 → Int32 → Int32 → Int32 → Int32} {σ0 σ : sm_St} {S : Nat → Nat → Int32}
theorem xf_p57 {a1 : Option Nat} {k7 : sm_St → Int32 → Option (Unit × sm_St)} {m : Nat} {sk ne : Int32} (h5 : k ≤ 5) (hp : nt_XP pay k P σ0) (h6 : σ0.1 3 6 = nI k) (hm : m < 40) (hF : nt_XF σ0 σ) (hS : nt_X k (nt_pre sk ne S) σ) (hd : ∀ i j, i < k → j < k → S 1 i = S 1 j → i = j) : ∃ s, xf_X2_run_p57 a1 k7 σ (nI m) = k7 s (nI (m + 1)) ∧ nt_XF σ0 s ∧ nt_X k (nt_end pay k (σ0.1 6) (σ0.1 9) P (nI m) (σ0.1 46 m) (nt_wh k (σ0.1 3 3) sk (S 1)) (nt_feel pay (σ0.1 6) P (nI m) sk ne (nt_wh k (σ0.1 3 3) sk (S 1)) S)) s := by
  have k6 : σ.1 3 6 = nI k := by rw [hF.1 3 6 (by simp [nt_fx]), h6]
  have e : ∀ wh, (wh = -1 ∨ ∃ x, x < k ∧ wh = nI x) → ∃ s, xf_X2_run_p92 a1 k7 σ (nI m) wh = k7 s (nI (m + 1)) ∧ nt_XF σ0 s ∧ nt_X k (nt_end pay k (σ0.1 6) (σ0.1 9) P (nI m) (σ0.1 46 m) wh (nt_feel pay (σ0.1 6) P (nI m) sk ne wh S)) s := by
    intro wh hw
    obtain ⟨s, f, e1, e2, e3⟩ := @xf_runL pay k P σ0 σ S a1 k7 (nI m) wh sk ne h5 hp h6 hF hS
    unfold xf_X2_run_p92
    rw [e1]
    exact xf_endE h5 hp h6 hm e2 e3 hd hw
  have q1 : σ.1 3 0 = sk := hS.1
  have t3 : σ.1 3 3 = σ0.1 3 3 := hF.1 3 3 (by simp [nt_fx])
  unfold xf_X2_run_p57
  simp only [sm_bS, xf_tent, sm_cS, q1, t3, xf_who k6 h5, Nat.reduceAdd]
  have ew := nt_whE (k := k) (σ0.1 3 3) sk (S 1)
  have ew : nt_wh k (σ0.1 3 3) sk (S 1) = -1 ∨ ∃ x, x < k ∧ nt_wh k (σ0.1 3 3) sk (S 1) = nI x := ew.imp id (fun ⟨x, hx, e, _⟩ => ⟨x, hx, e⟩)
  by_cases c : σ0.1 3 3 >>> (sk &&& 31) &&& 1 = 1
  · simp only [c, if_true, i10, if_false]
    have e0 : nt_wh k (σ0.1 3 3) sk (S 1) = -1 := if_pos c
    rw [e0]
    exact e (-1) (Or.inl rfl)
  · simp only [c, if_true, if_false]
    have e0 : pu_find (fun x => decide (σ.1 12 x = sk)) k 0 = nt_wh k (σ0.1 3 3) sk (S 1) := by
      unfold nt_wh
      rw [if_neg c]
      refine pu_find_congr k 0 (fun j _ hj => ?_)
      rw [(hS.2.2.2.2.1 j (by omega)).1]
      rfl
    rw [e0]
    exact e _ ew
/-- a night of the class, from where it begins -/
theorem xf_nightL {a1 : Option Nat} {M : Nat} (h5 : k ≤ 5) (hp : nt_XP pay k P σ0) (h6 : σ0.1 3 6 = nI k) (hM : M ≤ 40) (h9 : σ0.1 43 9 = nI M) (hS : nt_X k S σ0) (hg : nt_good k 0 S) : ∃ s, xf_X2_run_p7 a1 sm_F σ0 0 = some ((), s) ∧ nt_XF σ0 s ∧ nt_X k (nt_run pay k (σ0.1 6) (σ0.1 9) (σ0.1 3 3) (σ0.1 3 4) P (σ0.1 46) S M) s := by
  obtain ⟨s, f, e1, e2, e3⟩ := lp_c (xf_X2_run_p7 a1) (fun i s => nt_XF σ0 s ∧ nt_X k (nt_run pay k (σ0.1 6) (σ0.1 9) (σ0.1 3 3) (σ0.1 3 4) P (σ0.1 46) S i) s) M σ0 (by omega) ⟨nt_XF.rf _, hS⟩ (by
    intro i s n hi ⟨g1, g2⟩
    have G := @nt_goodR pay k (σ0.1 6) (σ0.1 9) (σ0.1 3 3) (σ0.1 3 4) P (σ0.1 46) S h5 hg i (by omega)
    show ∃ s', _ ∧ nt_XF σ0 s' ∧ nt_X k (nt_step pay k (σ0.1 6) (σ0.1 9) (σ0.1 3 3) (σ0.1 3 4) P (nI i) (σ0.1 46 i) (nt_run pay k (σ0.1 6) (σ0.1 9) (σ0.1 3 3) (σ0.1 3 4) P (σ0.1 46) S i)) s'
    generalize nt_run pay k (σ0.1 6) (σ0.1 9) (σ0.1 3 3) (σ0.1 3 4) P (σ0.1 46) S i = T at g2 G ⊢
    have w9 : s.1 43 9 = nI M := by rw [g1.1 43 9 (by simp [nt_fx]), h9]
    have nl : ¬ nI M ≤ nI i := nI_ge hi (by omega)
    have ww : s.1 46 i = σ0.1 46 i := g1.1 46 i (by simp [nt_fx])
    obtain ⟨_, t, t1, t2, t3, t4⟩ := xf_turnE (w := σ0.1 46 i) h5 g1 g2 (by
      rcases G.2.1 with e | ⟨x, q, hx, -, e, -⟩
      · exact Or.inl e.1
      · exact Or.inr ⟨x, hx, e⟩)
    obtain ⟨q1, q2, q3, q4, q5, q6⟩ := g2
    have v12 : t.1 43 12 = T 0 3 := by rw [t4 43 (by decide), q4]
    have v10 : t.1 43 10 = T 0 1 := by rw [t4 43 (by decide), q2]
    have v11 : t.1 43 11 = T 0 2 := by rw [t4 43 (by decide), q3]
    have b5 : ∀ x, x < k → t.1 12 x = T 1 x ∧ t.1 49 x = T 2 x ∧ t.1 44 x = T 3 x ∧ t.1 45 x = T 4 x ∧ t.1 47 x = T 5 x ∧ t.1 48 x = T 6 x := fun x hx => by
      rw [t4 12 (by decide), t4 49 (by decide), t4 44 (by decide), t4 45 (by decide), t4 47 (by decide), t4 48 (by decide)]
      exact q5 x hx
    have b6 : ∀ x, k ≤ x → x < 5 → t.1 44 x = 0 ∧ t.1 48 x = 0 := fun x h1 h2 => by
      rw [t4 44 (by decide), t4 48 (by decide)]
      exact q6 x h1 h2
    rw [xf_X2_run_p7]
    simp only [sm_bS, w9, nl, if_false, sm_gIn (show i < 40 by omega) (by decide : 40 < 2 ^ 31), nI_cl (show i < 2 ^ 31 by omega), ww, t1, sm_cS, v12, v10, t3]
    unfold nt_step nt_ne
    by_cases c1 : T 0 3 = -1
    · simp only [c1, if_true]
      exact xf_p57 (S := T) h5 hp h6 (by omega) t2 ⟨t3, v10, v11, v12, b5, b6⟩ G.2.2.2
    · simp only [c1, if_false]
      by_cases c2 : nt_sk (σ0.1 3 4) T (σ0.1 46 i) = T 0 3
      · simp only [c2, if_true]
        rw [← c2]
        exact xf_p57 (S := T) h5 hp h6 (by omega) t2 ⟨t3, v10, v11, v12, b5, b6⟩ G.2.2.2
      · simp only [c2, if_false]
        refine xf_p57 (S := T) h5 hp h6 (by omega) (t2.set (by simp [nt_fx])) ⟨?_, sm_rE, ?_, ?_, fun x hx => ?_, fun x h1 h2 => ?_⟩ G.2.2.2
        · rw [sm_rI 3 (by decide)]; exact t3
        · rw [sm_rI1 43 11 (by decide)]; exact v11
        · rw [sm_rI1 43 12 (by decide)]; exact v12
        · rw [sm_rI 12 (by decide), sm_rI 49 (by decide), sm_rI 44 (by decide), sm_rI 45 (by decide), sm_rI 47 (by decide), sm_rI 48 (by decide)]
          exact b5 x hx
        · rw [sm_rI 44 (by decide), sm_rI 48 (by decide)]
          exact b6 x h1 h2)
  refine ⟨s, ?_, e2, e3⟩
  have w9 : s.1 43 9 = nI M := by rw [e2.1 43 9 (by simp [nt_fx]), h9]
  rw [e1, xf_X2_run_p7]
  simp only [sm_bS, w9]
  rw [if_pos (nI_le (Nat.le_refl M) (by omega))]
end
