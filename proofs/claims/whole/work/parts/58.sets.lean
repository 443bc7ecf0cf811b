/-! gap: sets of places, as bits -/
def gp_b (m p : Nat) : Bool := Nat.testBit m p
def gp_s (g : Nat → Nat) (m : Nat) : Nat → Nat
  | 0 => 0
  | n + 1 => gp_s g m n + (if gp_b m n = true then g n else 0)
def gp_1 : Nat → Nat := fun _ => 1
def gp_e (p : Nat) : Nat := 2 ^ (7 - p)
theorem gp_bits : ∀ m, m < 256 → ∀ p, p < 8 → (nI m >>> (nI p &&& 31) &&& 1 = if gp_b m p = true then 1 else 0) ∧ (gp_b m p = false → nI m ||| 1 <<< (nI p &&& 31) = nI (m + 2 ^ p) ∧ m + 2 ^ p < 256) := by decide +kernel
theorem gp_add : ∀ m, m < 256 → ∀ p, p < 8 → gp_b m p = false → ∀ q, q < 8 → gp_b (m + 2 ^ p) q = (gp_b m q || decide (q = p)) := by decide +kernel
theorem gp_sadd {g : Nat → Nat} {m p : Nat} (hm : m < 256) (hp : p < 8) (h : gp_b m p = false) : ∀ n, n ≤ 8 → gp_s g (m + 2 ^ p) n = gp_s g m n + (if p < n then g p else 0)
  | 0, _ => by simp [gp_s]
  | n + 1, hn => by
    unfold gp_s
    rw [gp_sadd hm hp h n (by omega), gp_add m hm p hp h n (by omega)]
    by_cases e : n = p
    · subst e
      simp [h]
    · simp only [e, decide_false, Bool.or_false]
      by_cases c : p < n
      · rw [if_pos c, if_pos (show p < n + 1 by omega)]
        omega
      · rw [if_neg c, if_neg (show ¬ p < n + 1 by omega)]
        omega
theorem gp_s1 {g : Nat → Nat} {m p : Nat} (hm : m < 256) (hp : p < 8) (h : gp_b m p = false) : gp_s g (m + 2 ^ p) 8 = gp_s g m 8 + g p := by rw [gp_sadd hm hp h 8 (Nat.le_refl _), if_pos hp]
theorem gp_sle {g : Nat → Nat} {m B : Nat} (h : ∀ p, g p ≤ B) : ∀ n, gp_s g m n ≤ n * B
  | 0 => Nat.zero_le _
  | n + 1 => by
    unfold gp_s
    have := gp_sle (m := m) h n
    have := h n
    rw [Nat.succ_mul]
    split <;> omega
theorem gp_free : ∀ m, m < 256 → gp_s gp_1 m 8 < 8 → ∃ p, p < 8 ∧ gp_b m p = false := by decide +kernel
/-- the x-th place of a set -/
def gp_f (m x : Nat) : Nat → Nat → Nat
  | 0, i => i
  | d + 1, i => if gp_b m i = true ∧ gp_s gp_1 m i = x then i else gp_f m x d (i + 1)
def gp_t (m x : Nat) : Nat := gp_f m x 8 0
/-- the first x places of a set -/
def gp_m (m x : Nat) : Nat := if x < gp_s gp_1 m 8 then m % 2 ^ gp_t m x else m
theorem gp_tt : ∀ m, m < 256 → ∀ x, x < 8 → x < gp_s gp_1 m 8 → gp_t m x < 8 ∧ gp_b (gp_m m x) (gp_t m x) = false ∧ gp_m m x + 2 ^ gp_t m x = gp_m m (x + 1) ∧ gp_m m x < 256 ∧ gp_s gp_1 (gp_m m x) 8 = x := by decide +kernel
theorem gp_te : ∀ m, m < 256 → ∀ x, x < 8 → x < gp_s gp_1 m 8 → ∀ i, i < 8 → (i < gp_t m x ∧ gp_b (gp_m m x) i = false) → gp_s gp_e m 8 < gp_s gp_e (gp_m m x + 2 ^ i) 8 := by decide +kernel
theorem gp_t0 : ∀ m, m < 256 → 0 < gp_s gp_1 m 8 → gp_m m 0 = 0 := by decide +kernel
theorem gp_e255 : ∀ m, m < 256 → gp_s gp_e m 8 ≤ 255 := by decide +kernel
theorem gp_elt : ∀ a, a < 8 → ∀ b, b < a → gp_e a < gp_e b ∧ gp_e b ≤ 128 := by decide
theorem gp_e128 (p : Nat) : gp_e p ≤ 128 := by
  unfold gp_e
  have : 2 ^ (7 - p) ≤ 2 ^ 7 := Nat.pow_le_pow_right (by decide) (by omega)
  omega
def gp_mx (u : Nat → Nat) (m : Nat) : Nat → Nat
  | 0 => 0
  | n + 1 => if gp_b m n = true then max (gp_mx u m n) (u n) else gp_mx u m n
theorem gp_mxU {u : Nat → Nat} {m : Nat} : ∀ n b, b < n → gp_b m b = true → u b ≤ gp_mx u m n := by
  intro n
  induction n with
  | zero => intro b h; omega
  | succ n ih =>
    intro b h hb
    unfold gp_mx
    by_cases e : b = n
    · subst e
      rw [if_pos hb]
      exact Nat.le_max_right _ _
    · have := ih b (by omega) hb
      split
      · exact Nat.le_trans this (Nat.le_max_left _ _)
      · exact this
theorem gp_mxL {u : Nat → Nat} {m B : Nat} : ∀ n, (∀ b, b < n → gp_b m b = true → u b ≤ B) → gp_mx u m n ≤ B
  | 0, _ => Nat.zero_le _
  | n + 1, h => by
    unfold gp_mx
    have := gp_mxL (u := u) (m := m) (B := B) n (fun b hb => h b (by omega))
    split
    · rename_i c
      exact Nat.max_le.mpr ⟨this, h n (by omega) c⟩
    · exact this
theorem gp_sc {m t : Nat} : ∀ n, gp_s (fun _ => t) m n = t * gp_s gp_1 m n
  | 0 => rfl
  | n + 1 => by
    unfold gp_s
    rw [gp_sc n, Nat.mul_add]
    split <;> simp [gp_1]
theorem gp_min {u : Nat → Nat} {S m : Nat} (h : ∀ b, b < 8 → ∀ a, a < 8 → gp_b S b = true → gp_b S a = false → u b ≤ u a) (hp : gp_s gp_1 S 8 = gp_s gp_1 m 8) : gp_s u S 8 ≤ gp_s u m 8 := by
  have U : ∀ b, b < 8 → gp_b S b = true → u b ≤ gp_mx u S 8 := fun b hb q => gp_mxU 8 b hb q
  have Lo : ∀ a, a < 8 → gp_b S a = false → gp_mx u S 8 ≤ u a := fun a ha q => gp_mxL 8 (fun b hb qb => h b hb a ha qb q)
  generalize gp_mx u S 8 = t at U Lo
  have T : ∀ n, n ≤ 8 → gp_s u S n + gp_s (fun _ => t) m n ≤ gp_s u m n + gp_s (fun _ => t) S n := by
    intro n
    induction n with
    | zero => intro _; exact Nat.le_refl _
    | succ n ih =>
      intro hn
      have := ih (by omega)
      have q1 := U n (by omega)
      have q2 := Lo n (by omega)
      unfold gp_s
      cases e1 : gp_b S n <;> cases e2 : gp_b m n <;> simp only [if_true, if_false, Bool.false_eq_true]
      · omega
      · have := q2 e1; omega
      · have := q1 e1; omega
      · omega
  have := T 8 (Nat.le_refl _)
  rw [gp_sc, gp_sc, hp] at this
  omega
def gp_u (w : Nat → Nat) (p : Nat) : Nat := 256 * w p + (255 - gp_e p)
theorem gp_us {w : Nat → Nat} {m : Nat} : ∀ n, gp_s (gp_u w) m n + gp_s gp_e m n = 256 * gp_s w m n + 255 * gp_s gp_1 m n
  | 0 => rfl
  | n + 1 => by
    unfold gp_s
    have := gp_us (w := w) (m := m) n
    have e := gp_e128 n
    split
    · show gp_s (gp_u w) m n + (256 * w n + (255 - gp_e n)) + (gp_s gp_e m n + gp_e n) = 256 * (gp_s w m n + w n) + 255 * (gp_s gp_1 m n + 1)
      omega
    · omega
theorem gp_AB {w : Nat → Nat} {S m : Nat} (hS : S < 256) (h : ∀ b, b < 8 → ∀ a, a < 8 → gp_b S b = true → gp_b S a = false → w b < w a ∨ (w b = w a ∧ b < a)) (hp : gp_s gp_1 S 8 = gp_s gp_1 m 8) : gp_s w S 8 ≤ gp_s w m 8 ∧ (gp_s gp_e S 8 < gp_s gp_e m 8 → gp_s w S 8 < gp_s w m 8) := by
  have q := gp_min (u := gp_u w) (S := S) (m := m) (fun b hb a ha q1 q2 => by
    have e1 := gp_e128 a
    have e2 := gp_e128 b
    unfold gp_u
    rcases h b hb a ha q1 q2 with z | ⟨z, z2⟩
    · omega
    · have := gp_elt a ha b z2
      omega) hp
  have a1 := gp_us (w := w) (m := S) 8
  have a2 := gp_us (w := w) (m := m) 8
  have a3 := gp_e255 S hS
  omega
