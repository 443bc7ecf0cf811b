/-! what a text says: its code, read and reckoned -/
def tx_jn (op a b : Int32) : Int32 := if op = 42 then a * b else if op = 43 then a + b else if op = 45 then a - b else if op = 60 then (if b ≤ a then 0 else 1) else if op = 61 then (if a = b then 1 else 0) else if op = 265 then (if a = 0 then (if b = 0 then 0 else 1) else 1) else (if a = 0 then 0 else if b = 0 then 0 else 1)
def tx_ev1 (env : Nat → Int32) (it : Int32) (st : List Int32) : Option (List Int32) :=
  if -6 ≤ it then some ((if 0 ≤ it then it else env (-1 - it).toNatClampNeg) :: st) else match st with
  | [] => none
  | a :: r => if it = -128 then some (-a :: r) else if it = -267 then some ((if a = 0 then 1 else 0) :: r) else match r with
    | [] => none
    | b :: r' => some (tx_jn (-it) b a :: r')
def tx_ev (env : Nat → Int32) : List Int32 → List Int32 → Option (List Int32)
  | [], st => some st
  | it :: l, st => match tx_ev1 env it st with
    | none => none
    | some st' => tx_ev env l st'
theorem tx_evA {env : Nat → Int32} : ∀ (a b st st' : List Int32), tx_ev env a st = some st' → tx_ev env (a ++ b) st = tx_ev env b st'
  | [], b, st, st', h => by
    cases h
    rfl
  | it :: a, b, st, st', h => by
    show (match tx_ev1 env it st with | none => none | some s => tx_ev env (a ++ b) s) = _
    have h : (match tx_ev1 env it st with | none => none | some s => tx_ev env a s) = some st' := h
    cases e : tx_ev1 env it st with
    | none => rw [e] at h; cases h
    | some s =>
      rw [e] at h
      exact tx_evA a b s st' h
theorem tx_evO {env : Nat → Int32} {it : Int32} {st s : List Int32} (h : tx_ev1 env it st = some s) : tx_ev env [it] st = some s := by
  unfold tx_ev
  rw [h]
  rfl
def tx_ok (env : Nat → Int32) (l : List Int32) (v : Int32) : Prop := ∀ st, tx_ev env l st = some (v :: st)
theorem tx_okN {env : Nat → Int32} {v : Nat} (h : v ≤ 9999) : tx_ok env [nI v] (nI v) := by
  intro st
  have h0 : (0 : Int32) ≤ nI v := nI_pos' (by omega)
  have h6 : (-6 : Int32) ≤ nI v := Int32.le_trans (by decide) h0
  refine tx_evO ?_
  unfold tx_ev1
  rw [if_pos h6, if_pos h0]
theorem tx_okW {env : Nat → Int32} {k : Nat} (h : k < 6) : tx_ok env [-1 - nI k] (env k) := by
  intro st
  have q : ∀ k, k < 6 → (-6 : Int32) ≤ -1 - nI k ∧ ¬ (0 : Int32) ≤ -1 - nI k ∧ (-1 - (-1 - nI k)).toNatClampNeg = k := by decide
  obtain ⟨q1, q2, q3⟩ := q k h
  refine tx_evO ?_
  unfold tx_ev1
  rw [if_pos q1, if_neg q2, q3]
theorem tx_okM {env : Nat → Int32} {l : List Int32} {v : Int32} (h : tx_ok env l v) : tx_ok env (l ++ [-128]) (-v) := by
  intro st
  rw [tx_evA _ _ _ _ (h st)]
  refine tx_evO ?_
  unfold tx_ev1
  rw [if_neg (by decide)]
  simp only [if_true]
theorem tx_okX {env : Nat → Int32} {l : List Int32} {v : Int32} (h : tx_ok env l v) : tx_ok env (l ++ [-267]) (if v = 0 then 1 else 0) := by
  intro st
  rw [tx_evA _ _ _ _ (h st)]
  refine tx_evO ?_
  unfold tx_ev1
  rw [if_neg (by decide)]
  have n1 : ¬ (-267 : Int32) = -128 := by decide
  simp only [n1, if_false, if_true]
def tx_op (c : Nat) : Bool := decide (c = 42 ∨ c = 43 ∨ c = 45 ∨ c = 60 ∨ c = 61 ∨ c = 265 ∨ c = 266)
theorem tx_opE {c : Nat} (h : tx_op c = true) : ¬ (-6 : Int32) ≤ -(nI c) ∧ ¬ -(nI c) = -128 ∧ ¬ -(nI c) = -267 ∧ -(-(nI c)) = nI c := by
  unfold tx_op at h
  have h := of_decide_eq_true h
  rcases h with h | h | h | h | h | h | h <;> subst h <;> decide
theorem tx_okB {env : Nat → Int32} {l m : List Int32} {v w : Int32} {c : Nat} (hc : tx_op c = true) (h : tx_ok env l v) (g : tx_ok env m w) : tx_ok env (l ++ m ++ [-(nI c)]) (tx_jn (nI c) v w) := by
  intro st
  obtain ⟨q1, q2, q3, q4⟩ := tx_opE hc
  rw [List.append_assoc, tx_evA _ _ _ _ (h st), tx_evA _ _ _ _ (g (v :: st))]
  refine tx_evO ?_
  unfold tx_ev1
  rw [if_neg q1]
  simp only [q2, q3, q4, if_false]
/-- how a text is read: from p on, till which place, or where its fault is -/
def ps_lp (q : Nat → Bool) (c e : Nat → Nat) (sub : Nat → Sum Nat (List Int32 × Nat)) : Nat → List Int32 → Nat → Sum Nat (List Int32 × Nat)
  | 0, _, _ => .inl 0
  | d + 1, l, p => if q (c p) = true then (match sub (e p) with
    | .inl f => .inl f
    | .inr r => ps_lp q c e sub d (l ++ r.1 ++ [-(nI (c p))]) r.2) else .inr (l, p)
def ps_q (w c : Nat) : Bool := decide ((w = 1 ∧ c = 42) ∨ (w = 2 ∧ (c = 43 ∨ c = 45)) ∨ (w = 4 ∧ c = 266) ∨ (w = 5 ∧ c = 265))
def ps_un (x : Int32) : Sum Nat (List Int32 × Nat) → Sum Nat (List Int32 × Nat)
  | .inl f => .inl f
  | .inr r => .inr (r.1 ++ [x], r.2)
def ps_one (β : Nat → Nat) (n : Nat) (sub : Nat → Nat → Nat → Sum Nat (List Int32 × Nat)) (o p : Nat) : Sum Nat (List Int32 × Nat) :=
  if tx_c β n p = 2 then .inr ([nI (tx_v β n p)], tx_e β n p) else
  if 256 ≤ tx_c β n p ∧ tx_c β n p < 262 then .inr ([-1 - nI (tx_c β n p - 256)], tx_e β n p) else
  if 5 ≤ o then .inl (tx_s β n p) else
  if tx_c β n p = 45 then ps_un (-128) (sub 0 (o + 1) (tx_e β n p)) else
  if tx_c β n p = 40 then (match sub 5 (o + 1) (tx_e β n p) with
    | .inl f => .inl f
    | .inr r => if tx_c β n r.2 = 41 then .inr (r.1, tx_e β n r.2) else .inl (tx_s β n r.2)) else
  .inl (tx_s β n p)
def ps_cmp (β : Nat → Nat) (n : Nat) (sub : Nat → Nat → Nat → Sum Nat (List Int32 × Nat)) (o : Nat) : Sum Nat (List Int32 × Nat) → Sum Nat (List Int32 × Nat)
  | .inl f => .inl f
  | .inr r => if tx_c β n r.2 = 60 ∨ tx_c β n r.2 = 61 then (match sub 2 o (tx_e β n r.2) with
    | .inl f => .inl f
    | .inr m => .inr (r.1 ++ m.1 ++ [-(nI (tx_c β n r.2))], m.2)) else .inr r
def ps_not (β : Nat → Nat) (n : Nat) (sub : Nat → Nat → Nat → Sum Nat (List Int32 × Nat)) (o p : Nat) : Sum Nat (List Int32 × Nat) :=
  if tx_c β n p = 267 then (if 5 ≤ o then .inl (tx_s β n p) else ps_un (-267) (sub 3 (o + 1) (tx_e β n p))) else ps_cmp β n sub o (sub 2 o p)
def ps_ch (β : Nat → Nat) (n : Nat) (sub : Nat → Nat → Nat → Sum Nat (List Int32 × Nat)) (w o p : Nat) : Sum Nat (List Int32 × Nat) := match sub (w - 1) o p with
  | .inl f => .inl f
  | .inr r => ps_lp (ps_q w) (tx_c β n) (tx_e β n) (sub (w - 1) o) 161 r.1 r.2
def ps_rd (β : Nat → Nat) (n : Nat) : Nat → Nat → Nat → Nat → Sum Nat (List Int32 × Nat)
  | 0, _, _, _ => .inl 0
  | f + 1, w, o, p => if w = 0 then ps_one β n (ps_rd β n f) o p else if w = 3 then ps_not β n (ps_rd β n f) o p else ps_ch β n (ps_rd β n f) w o p
