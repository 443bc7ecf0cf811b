/-! texts: tokens, of bytes told as numbers -/
def tx_W : List Nat := [112, 108, 97, 99, 101, 32, 115, 109, 111, 107, 101, 32, 109, 105, 110, 117, 116, 101, 108, 111, 110, 103, 32, 32, 110, 117, 109, 98, 101, 114, 115, 105, 116, 116, 101, 114, 98, 101, 97, 114, 115, 32, 109, 111, 118, 101, 115, 32, 104, 101, 97, 116, 32, 32, 111, 114, 32, 32, 32, 32, 97, 110, 100, 32, 32, 32, 110, 111, 116, 32, 32, 32]
def tx_w (i : Nat) : Nat := tx_W.getD i 0
def tx_dg (x : Nat) : Bool := decide (48 ≤ x ∧ x ≤ 57)
def tx_lt (x : Nat) : Bool := decide (97 ≤ x ∧ x ≤ 122)
def tx_bl (x : Nat) : Bool := decide (x = 32 ∨ x = 10)
def tx_sg (x : Nat) : Bool := decide (x = 40 ∨ x = 41 ∨ x = 59 ∨ x = 43 ∨ x = 45 ∨ x = 42 ∨ x = 60 ∨ x = 61)
/-- how far it is so -/
def tx_ru (q : Nat → Bool) : Nat → Nat → Nat
  | 0, i => i
  | d + 1, i => if q i = true then tx_ru q d (i + 1) else i
theorem tx_ruB (q : Nat → Bool) : ∀ d i, i ≤ tx_ru q d i ∧ tx_ru q d i ≤ i + d
  | 0, i => ⟨Nat.le_refl _, Nat.le_refl _⟩
  | d + 1, i => by
    unfold tx_ru
    have := tx_ruB q d (i + 1)
    split <;> omega
theorem tx_ruQ (q : Nat → Bool) : ∀ d i j, i ≤ j → j < tx_ru q d i → q j = true
  | 0, i, j, h1, h2 => by
    unfold tx_ru at h2
    omega
  | d + 1, i, j, h1, h2 => by
    unfold tx_ru at h2
    split at h2
    · rename_i c
      by_cases e : j = i
      · rw [e]; exact c
      · exact tx_ruQ q d (i + 1) j (by omega) h2
    · omega
theorem tx_ruE (q : Nat → Bool) : ∀ d i, tx_ru q d i < i + d → q (tx_ru q d i) = false
  | 0, i, h => by
    unfold tx_ru at h
    omega
  | d + 1, i, h => by
    unfold tx_ru at h ⊢
    split at h
    · rename_i c
      rw [if_pos c]
      exact tx_ruE q d (i + 1) (by omega)
    · rename_i c
      rw [if_neg c]
      simpa using c
/-- what its first digits, four at most, tell -/
def tx_va (β : Nat → Nat) (s : Nat) : Nat → Nat
  | 0 => 0
  | d + 1 => if d < 4 then tx_va β s d * 10 + β (s + d) - 48 else tx_va β s d
theorem tx_vaB {β : Nat → Nat} {s : Nat} : ∀ d, (∀ i, i < d → tx_dg (β (s + i)) = true) → tx_va β s d ≤ 9999 ∧ (d ≤ 4 → tx_va β s d < 10 ^ d)
  | 0, _ => ⟨Nat.zero_le _, fun _ => Nat.one_pos⟩
  | d + 1, h => by
    obtain ⟨h1, h2⟩ := tx_vaB (β := β) (s := s) d (fun i hi => h i (by omega))
    have q := h d (by omega)
    unfold tx_dg at q
    have q := of_decide_eq_true q
    unfold tx_va
    by_cases c : d < 4
    · rw [if_pos c]
      have h2 := h2 (by omega)
      have e : tx_va β s d * 10 + β (s + d) - 48 < 10 ^ (d + 1) := by
        rw [Nat.pow_succ]
        omega
      have : 10 ^ (d + 1) ≤ 10 ^ 4 := Nat.pow_le_pow_right (by decide) (by omega)
      exact ⟨by omega, fun _ => e⟩
    · rw [if_neg c]
      exact ⟨h1, fun _ => by omega⟩
def tx_al (q : Nat → Bool) : Nat → Bool
  | 0 => true
  | n + 1 => tx_al q n && q n
theorem tx_alE (q : Nat → Bool) : ∀ n, tx_al q n = true ↔ ∀ i, i < n → q i = true
  | 0 => ⟨fun _ i h => by omega, fun _ => rfl⟩
  | n + 1 => by
    unfold tx_al
    rw [Bool.and_eq_true, tx_alE q n]
    refine ⟨fun h i hi => ?_, fun h => ⟨fun i hi => h i (by omega), h n (by omega)⟩⟩
    by_cases e : i = n
    · rw [e]; exact h.2
    · exact h.1 i (by omega)
/-- whether the word from s to e is the word w -/
def tx_wm (β : Nat → Nat) (s e w : Nat) : Bool := decide (e ≤ s + 6) && tx_al (fun i => decide ((if s + i < e then β (s + i) else 32) = tx_w (6 * w + i))) 6
def tx_wl (q : Nat → Bool) : Nat → Nat
  | 0 => 1
  | w + 1 => if q w = true then 256 + w else tx_wl q w
theorem tx_ww : ∀ a, a < 12 → ∀ b, b < 12 → a ≠ b → ∃ i, i < 6 ∧ tx_w (6 * a + i) ≠ tx_w (6 * b + i) := by decide +kernel
theorem tx_wm1 {β : Nat → Nat} {s e a b : Nat} (ha : a < 12) (hb : b < 12) (h : tx_wm β s e a = true) (g : tx_wm β s e b = true) : a = b := by
  by_cases c : a = b
  · exact c
  · obtain ⟨i, hi, n⟩ := tx_ww a ha b hb c
    unfold tx_wm at h g
    rw [Bool.and_eq_true, tx_alE] at h g
    have h := of_decide_eq_true (h.2 i hi)
    have g := of_decide_eq_true (g.2 i hi)
    exact absurd (h.symm.trans g) n
theorem tx_wlE {q : Nat → Bool} (h : ∀ a b, a < 12 → b < 12 → q a = true → q b = true → a = b) : ∀ n, n ≤ 12 → ∀ w, w < n → (tx_wl q n = 256 + w ↔ q w = true)
  | 0, _, w, hw => by omega
  | n + 1, hn, w, hw => by
    unfold tx_wl
    by_cases c : q n = true
    · rw [if_pos c]
      refine ⟨fun e => ?_, fun e => ?_⟩
      · rw [show w = n by omega]; exact c
      · rw [h w n (by omega) (by omega) e c]
    · rw [if_neg c]
      by_cases e : w = n
      · subst e
        refine ⟨fun e => ?_, fun e => absurd e c⟩
        exfalso
        have L : ∀ m, tx_wl q m = 1 ∨ (256 ≤ tx_wl q m ∧ tx_wl q m < 256 + m) := by
          intro m
          induction m with
          | zero => exact Or.inl rfl
          | succ m ih =>
            unfold tx_wl
            split
            · exact Or.inr (by omega)
            · omega
        have := L w
        omega
      · exact tx_wlE h n (by omega) w (by omega)
theorem tx_wlB (q : Nat → Bool) : ∀ m, tx_wl q m = 1 ∨ (256 ≤ tx_wl q m ∧ tx_wl q m < 256 + m) := by
  intro m
  induction m with
  | zero => exact Or.inl rfl
  | succ m ih =>
    unfold tx_wl
    split
    · exact Or.inr (by omega)
    · omega
/-- the token that is read from p on: where it starts, where it ends, what it is, its number -/
def tx_s (β : Nat → Nat) (n p : Nat) : Nat := tx_ru (fun i => tx_bl (β i)) (n - p) p
def tx_e (β : Nat → Nat) (n p : Nat) : Nat := if n ≤ tx_s β n p then n else if tx_dg (β (tx_s β n p)) = true then tx_ru (fun i => tx_dg (β i)) (n - tx_s β n p) (tx_s β n p) else if tx_lt (β (tx_s β n p)) = true then tx_ru (fun i => tx_lt (β i)) (n - tx_s β n p) (tx_s β n p) else tx_s β n p + 1
def tx_c (β : Nat → Nat) (n p : Nat) : Nat := if n ≤ tx_s β n p then 0 else if tx_dg (β (tx_s β n p)) = true then (if tx_e β n p - tx_s β n p ≤ 4 then 2 else 1) else if tx_lt (β (tx_s β n p)) = true then tx_wl (tx_wm β (tx_s β n p) (tx_e β n p)) 12 else if tx_sg (β (tx_s β n p)) = true then β (tx_s β n p) else 1
def tx_v (β : Nat → Nat) (n p : Nat) : Nat := tx_va β (tx_s β n p) (tx_e β n p - tx_s β n p)
theorem tx_sB {β : Nat → Nat} {n p : Nat} (h : p ≤ n) : p ≤ tx_s β n p ∧ tx_s β n p ≤ n := by
  have := tx_ruB (fun i => tx_bl (β i)) (n - p) p
  unfold tx_s
  omega
theorem tx_eB {β : Nat → Nat} {n p : Nat} (h : p ≤ n) : tx_s β n p ≤ tx_e β n p ∧ tx_e β n p ≤ n ∧ (tx_s β n p < n → tx_s β n p < tx_e β n p) := by
  have b := tx_sB (β := β) h
  unfold tx_e
  generalize tx_s β n p = s at b ⊢
  have R : ∀ q : Nat → Bool, s < n → q s = true → s < tx_ru q (n - s) s ∧ tx_ru q (n - s) s ≤ n := by
    intro q hs hq
    obtain ⟨d, hd⟩ : ∃ d, n - s = d + 1 := ⟨n - s - 1, by omega⟩
    rw [hd]
    unfold tx_ru
    rw [if_pos hq]
    have := tx_ruB q d (s + 1)
    omega
  by_cases c : n ≤ s
  · rw [if_pos c]
    omega
  · rw [if_neg c]
    split
    · rename_i c2
      have := R (fun i => tx_dg (β i)) (by omega) c2
      omega
    · split
      · rename_i c3
        have := R (fun i => tx_lt (β i)) (by omega) c3
        omega
      · omega
theorem tx_c0 {β : Nat → Nat} {n p : Nat} (h : tx_c β n p ≠ 0) : tx_s β n p < n := by
  by_cases c : n ≤ tx_s β n p
  · exact absurd (by unfold tx_c; rw [if_pos c]) h
  · omega
theorem tx_cB {β : Nat → Nat} {n p : Nat} : tx_c β n p < 268 := by
  unfold tx_c
  split
  · omega
  · split
    · split <;> omega
    · split
      · have := tx_wlB (tx_wm β (tx_s β n p) (tx_e β n p)) 12
        omega
      · split
        · rename_i c
          unfold tx_sg at c
          have c := of_decide_eq_true c
          omega
        · omega
theorem tx_vB {β : Nat → Nat} {n p : Nat} (hp : p ≤ n) (h : tx_c β n p = 2) : tx_v β n p ≤ 9999 := by
  have hs : tx_s β n p < n := tx_c0 (by omega)
  have hd : tx_dg (β (tx_s β n p)) = true := by
    by_cases c : tx_dg (β (tx_s β n p)) = true
    · exact c
    · exfalso
      unfold tx_c at h
      rw [if_neg (by omega), if_neg c] at h
      split at h
      · have := tx_wlB (tx_wm β (tx_s β n p) (tx_e β n p)) 12
        omega
      · split at h
        · rename_i c2
          unfold tx_sg at c2
          have c2 := of_decide_eq_true c2
          omega
        · omega
  have he : tx_e β n p = tx_ru (fun i => tx_dg (β i)) (n - tx_s β n p) (tx_s β n p) := by
    unfold tx_e
    rw [if_neg (by omega), if_pos hd]
  unfold tx_v
  refine (tx_vaB _ (fun i hi => ?_)).1
  exact tx_ruQ (fun i => tx_dg (β i)) (n - tx_s β n p) (tx_s β n p) (tx_s β n p + i) (by omega) (by omega)
