/-! a minute, as both go through it: row 0 the smoke, the needless, who got up (or -1), the place then left (or -1); 1 places, 2 long, 3 costs, 4 smoked, 5 longest, 6 how often up -/
def nt_sk (ed : Int32) (S : Nat → Nat → Int32) (w : Int32) : Int32 :=
  if ed = 0 then (S 0 0 + w) &&& 7 else if S 0 2 = -1 then (S 0 0 + w) &&& 7 else if (S 1 (S 0 2).toNatClampNeg - ((S 0 0 + w) &&& 7)) &&& 7 = 0 then (S 0 0 + w) &&& 7 else (((S 0 0 + w) &&& 7) + (if 4 < (S 1 (S 0 2).toNatClampNeg - ((S 0 0 + w) &&& 7)) &&& 7 then -1 else 1)) &&& 7
def nt_ne (S : Nat → Nat → Int32) (sk : Int32) : Int32 := if S 0 3 = -1 then S 0 1 else if sk = S 0 3 then S 0 1 else S 0 1 + 1
def nt_wh (k : Nat) (te sk : Int32) (pl : Nat → Int32) : Int32 := if te >>> (sk &&& 31) &&& 1 = 1 then -1 else pu_find (fun x => decide (pl x = sk)) k 0
def nt_seek (k : Nat) (pl : Nat → Int32) (x : Int32) : Nat → Int32 → Int32
  | 0, p => p
  | n + 1, p => if pu_find (fun j => decide (¬ nI j = x) && decide (pl j = p)) k 0 = -1 then p else nt_seek k pl x n ((p + 1) &&& 7)
def nt_lo (wh : Int32) (S : Nat → Nat → Int32) (x : Nat) : Int32 := if nI x = wh then S 2 x + 1 else 0
def nt_co (pay : Bool) (kn : Nat → Int32) (P : Int32 → Nat → Int32 → Int32 → Int32 → Int32 → Int32) (m sk wh : Int32) (S : Nat → Nat → Int32) (x : Nat) : Int32 :=
  if pay = true then S 3 x + (if nI x = wh then pu_bears (kn x) (P 0 x (S 1 x) sk m (S 2 x + 1)) (S 2 x + 1) else P 2 x (S 1 x) sk m 0) else S 3 x
def nt_lg (wh : Int32) (S : Nat → Nat → Int32) (x : Nat) : Int32 := if nI x = wh then (if S 5 x < S 2 x + 1 then S 2 x + 1 else S 5 x) else S 5 x
def nt_sm (wh : Int32) (S : Nat → Nat → Int32) (x : Nat) : Int32 := if nI x = wh then S 4 x + 1 else S 4 x
def nt_feel (pay : Bool) (kn : Nat → Int32) (P : Int32 → Nat → Int32 → Int32 → Int32 → Int32 → Int32) (m sk ne wh : Int32) (S : Nat → Nat → Int32) : Nat → Nat → Int32
  | 0 => fun j => if j = 0 then sk else if j = 1 then ne else S 0 j
  | 2 => nt_lo wh S
  | 3 => nt_co pay kn P m sk wh S
  | 4 => nt_sm wh S
  | 5 => nt_lg wh S
  | c => S c
def nt_none (S : Nat → Nat → Int32) : Nat → Nat → Int32
  | 0 => fun j => if j = 2 ∨ j = 3 then -1 else S 0 j
  | c => S c
def nt_rise (pay : Bool) (k : Nat) (kn : Nat → Int32) (P : Int32 → Nat → Int32 → Int32 → Int32 → Int32 → Int32) (m w : Int32) (x : Nat) (S : Nat → Nat → Int32) : Nat → Nat → Int32
  | 0 => fun j => if j = 2 then nI x else if j = 3 then S 1 x else S 0 j
  | 1 => upd (S 1) x (nt_seek k (S 1) (nI x) 8 (pu_goes (kn x) (S 1 x) w))
  | 2 => upd (S 2) x 0
  | 3 => if pay = true then upd (S 3) x (S 3 x + P 1 x (S 1 x) (S 0 0) m (S 2 x)) else S 3
  | 6 => upd (S 6) x (S 6 x + 1)
  | c => S c
def nt_end (pay : Bool) (k : Nat) (kn nb : Nat → Int32) (P : Int32 → Nat → Int32 → Int32 → Int32 → Int32 → Int32) (m w wh : Int32) (S : Nat → Nat → Int32) : Nat → Nat → Int32 :=
  if wh = -1 then nt_none S else if pu_up (kn wh.toNatClampNeg) (nb wh.toNatClampNeg) (S 2 wh.toNatClampNeg) = 0 then nt_none S else nt_rise pay k kn P m w wh.toNatClampNeg S
def nt_step (pay : Bool) (k : Nat) (kn nb : Nat → Int32) (te ed : Int32) (P : Int32 → Nat → Int32 → Int32 → Int32 → Int32 → Int32) (m w : Int32) (S : Nat → Nat → Int32) : Nat → Nat → Int32 :=
  nt_end pay k kn nb P m w (nt_wh k te (nt_sk ed S w) (S 1)) (nt_feel pay kn P m (nt_sk ed S w) (nt_ne S (nt_sk ed S w)) (nt_wh k te (nt_sk ed S w) (S 1)) S)
/-- what a night of the class may write -/
def nt_fx (c j : Nat) : Bool := (c == 3 && j == 0) || (c == 43 && (j == 10 || j == 11 || j == 12)) || c == 12 || c == 44 || c == 45 || c == 47 || c == 48 || c == 49 || c == 50 || c == 51
def nt_XF (σ0 σ : sm_St) : Prop := (∀ c j, nt_fx c j = false → σ.1 c j = σ0.1 c j) ∧ σ.2 = σ0.2
theorem nt_XF.rf (σ : sm_St) : nt_XF σ σ := ⟨fun _ _ _ => rfl, rfl⟩
theorem nt_XF.set {σ0 σ : sm_St} {c j : Nat} {v : Int32} (h : nt_XF σ0 σ) (g : nt_fx c j = true) : nt_XF σ0 (sm_sI σ c j v) := by
  refine ⟨fun d i hd => ?_, h.2⟩
  by_cases e : d = c ∧ i = j
  · rw [e.1, e.2, g] at hd
    cases hd
  · rw [sm_rI1 d i (by omega)]
    exact h.1 d i hd
theorem nt_XF.ext {σ0 σ s : sm_St} (h : nt_XF σ0 σ) (g : ∀ c, c ≠ 50 → c ≠ 51 → s.1 c = σ.1 c) (g2 : s.2 = σ.2) : nt_XF σ0 s := by
  refine ⟨fun c j hc => ?_, g2.trans h.2⟩
  rw [g c (fun e => by subst e; simp [nt_fx] at hc) (fun e => by subst e; simp [nt_fx] at hc)]
  exact h.1 c j hc
/-- what a sitter's cost is told to be -/
def nt_XP (pay : Bool) (k : Nat) (P : Int32 → Nat → Int32 → Int32 → Int32 → Int32 → Int32) (σ0 : sm_St) : Prop := (σ0.2.2 43 13 = none ↔ pay = false) ∧ ∀ σ, nt_XF σ0 σ → ∀ (pt m : Int32) (x : Nat), pt = 0 ∨ pt = 1 ∨ pt = 2 → x < k → sm_ok (xf_X2_price pt (nI x) m σ) (fun v s => v = (if pay = true then P pt x (σ.1 12 x) (σ.1 3 0) m (σ.1 49 x) else 0) ∧ (∀ c, c ≠ 50 → c ≠ 51 → s.1 c = σ.1 c) ∧ s.2 = σ.2)
section
variable {pay : Bool} {k : Nat} {P : Int32 → Nat → Int32 → Int32 → Int32 → Int32 → Int32} {σ0 σ : sm_St}
theorem xf_feel0 {x : Nat} {m : Int32} (h5 : k ≤ 5) (hp : nt_XP pay k P σ0) (hF : nt_XF σ0 σ) (hx : x < k) : sm_ok (xf_X2_feel (nI x) 0 m σ) (fun _ s => nt_XF σ0 s ∧ s.1 49 = upd (σ.1 49) x 0 ∧ s.1 44 = upd (σ.1 44) x (if pay = true then σ.1 44 x + P 2 x (σ.1 12 x) (σ.1 3 0) m 0 else σ.1 44 x) ∧ ∀ c, c ≠ 44 → c ≠ 49 → c ≠ 50 → c ≠ 51 → s.1 c = σ.1 c) := by
  have g5 : x < 5 := by omega
  unfold xf_X2_feel
  simp only [if_true, sm_bS, sm_gIn g5 (by decide : 5 < 2 ^ 31), nI_cl (show x < 2 ^ 31 by omega)]
  have f1 : nt_XF σ0 (sm_sI σ 49 x 0) := hF.set (by simp [nt_fx])
  refine ok_c (hp.2 _ f1 2 m x (by decide) hx) (fun v s ⟨h1, h2, h3⟩ => ok_some.mpr ⟨(f1.ext h2 h3).set (by simp [nt_fx]), ?_, ?_, fun c c1 c2 c3 c4 => ?_⟩)
  · rw [sm_rI 49 (by decide), h2 49 (by decide) (by decide), sm_sIk.1]
  · rw [sm_sIk.1, h2 44 (by decide) (by decide), sm_rI 44 (by decide), h1, sm_rI 12 (by decide), sm_rI 3 (by decide), sm_rE]
    cases pay
    · simp
    · simp
  · rw [sm_rI c c1, h2 c c3 c4, sm_rI c c2]
theorem xf_feel1 {x : Nat} {m : Int32} (h5 : k ≤ 5) (hp : nt_XP pay k P σ0) (hF : nt_XF σ0 σ) (hx : x < k) : sm_ok (xf_X2_feel (nI x) 1 m σ) (fun _ s => nt_XF σ0 s ∧ s.1 49 = upd (σ.1 49) x (σ.1 49 x + 1) ∧ s.1 45 = upd (σ.1 45) x (σ.1 45 x + 1) ∧ s.1 47 = upd (σ.1 47) x (if σ.1 47 x < σ.1 49 x + 1 then σ.1 49 x + 1 else σ.1 47 x) ∧ s.1 44 = upd (σ.1 44) x (if pay = true then σ.1 44 x + pu_bears (σ0.1 6 x) (P 0 x (σ.1 12 x) (σ.1 3 0) m (σ.1 49 x + 1)) (σ.1 49 x + 1) else σ.1 44 x) ∧ ∀ c, c ≠ 44 → c ≠ 45 → c ≠ 47 → c ≠ 49 → c ≠ 50 → c ≠ 51 → s.1 c = σ.1 c) := by
  have g5 : x < 5 := by omega
  unfold xf_X2_feel
  simp only [i10, if_false, sm_bS, sm_gIn g5 (by decide : 5 < 2 ^ 31), nI_cl (show x < 2 ^ 31 by omega)]
  simp only [sm_rI 47 (by decide : 47 ≠ 49), sm_rI 45 (by decide : 45 ≠ 47), sm_rI 45 (by decide : 45 ≠ 49), sm_rE]
  have f1 : nt_XF σ0 (sm_sI (sm_sI (sm_sI σ 49 x (σ.1 49 x + 1)) 47 x (if σ.1 47 x < σ.1 49 x + 1 then σ.1 49 x + 1 else σ.1 47 x)) 45 x (σ.1 45 x + 1)) := ((hF.set (by simp [nt_fx])).set (by simp [nt_fx])).set (by simp [nt_fx])
  generalize e0 : sm_sI (sm_sI (sm_sI σ 49 x (σ.1 49 x + 1)) 47 x (if σ.1 47 x < σ.1 49 x + 1 then σ.1 49 x + 1 else σ.1 47 x)) 45 x (σ.1 45 x + 1) = t at f1 ⊢
  have t49 : t.1 49 = upd (σ.1 49) x (σ.1 49 x + 1) := by rw [← e0, sm_rI 49 (by decide), sm_rI 49 (by decide), sm_sIk.1]
  have t47 : t.1 47 = upd (σ.1 47) x (if σ.1 47 x < σ.1 49 x + 1 then σ.1 49 x + 1 else σ.1 47 x) := by rw [← e0, sm_rI 47 (by decide), sm_sIk.1, sm_rI 47 (by decide)]
  have t45 : t.1 45 = upd (σ.1 45) x (σ.1 45 x + 1) := by rw [← e0, sm_sIk.1, sm_rI 45 (by decide), sm_rI 45 (by decide)]
  have to : ∀ c, c ≠ 45 → c ≠ 47 → c ≠ 49 → t.1 c = σ.1 c := fun c c1 c2 c3 => by rw [← e0, sm_rI c c1, sm_rI c c2, sm_rI c c3]
  rw [f1.2]
  cases pay with
  | false =>
    rw [if_pos (hp.1.mpr rfl)]
    refine ok_some.mpr ⟨f1, t49, t45, t47, ?_, fun c c1 c2 c3 c4 c5 c6 => to c c2 c3 c4⟩
    rw [to 44 (by decide) (by decide) (by decide)]
    funext j
    simp [upd]
    intro e
    rw [e]
  | true =>
    rw [if_neg (fun e => by cases hp.1.mp e)]
    refine ok_c (hp.2 _ f1 0 m x (by decide) hx) (fun v s ⟨h1, h2, h3⟩ => ?_)
    simp only [xf_bears, sm_cS]
    refine ok_some.mpr ⟨(f1.ext h2 h3).set (by simp [nt_fx]), ?_, ?_, ?_, ?_, fun c c1 c2 c3 c4 c5 c6 => ?_⟩
    · rw [sm_rI 49 (by decide), h2 49 (by decide) (by decide), t49]
    · rw [sm_rI 45 (by decide), h2 45 (by decide) (by decide), t45]
    · rw [sm_rI 47 (by decide), h2 47 (by decide) (by decide), t47]
    · rw [sm_sIk.1, h2 44 (by decide) (by decide), to 44 (by decide) (by decide) (by decide), h1, h2 49 (by decide) (by decide), t49, pk_us, f1.1 6 x (by simp [nt_fx]), to 12 (by decide) (by decide) (by decide), to 3 (by decide) (by decide) (by decide)]
      simp
    · rw [sm_rI c c1, h2 c c5 c6, to c c2 c3 c4]
end
