/-! THE NEW OBJECTS: the two worlds at their beginning, the constructors' contracts -/
def co_sx : sm_St := (fun k => match k with
  | 1 => fun j => match j with
    | 1 => 30
    | 2 => 30
    | _ => 0
  | 2 => fun j => match j with
    | 1 => 30
    | 2 => 30
    | _ => 0
  | 3 => fun j => match j with
    | 1 => 30
    | 2 => 30
    | _ => 0
  | 35 => fun j => match j with
    | 0 => -1
    | _ => 0
  | 36 => fun j => match j with
    | 0 => -1
    | _ => 0
  | 37 => fun j => match j with
    | 0 => -1
    | _ => 0
  | 38 => fun j => match j with
    | 0 => -1
    | _ => 0
  | 43 => fun j => match j with
    | 11 => -1
    | 12 => -1
    | _ => 0
  | _ => fun _ => 0, fun k => match k with
  | 52 => fun j => match j with
    | 2 => 1
    | _ => 0
  | _ => fun _ => 0, fun _ _ => none)
def co_sm : sm_St := (fun k => match k with
  | 0 => fun j => match j with
    | 8 => 30
    | 9 => 30
    | 51 => -1
    | _ => 0
  | _ => fun _ => 0, fun _ _ => 0, fun _ _ => none)
def co_wx (w : sm_WD) (cA : Nat → ClassId) (ad : Nat → Nat) : sm_WD := (sm_D w, sm_cl w, sm_ty w, xo_sh cA ad, ad, 56, sm_aK w, sm_aV w, sm_z w)
def co_wm (w : sm_WD) (cA : Nat → ClassId) (ad : Nat → Nat) : sm_WD := (sm_D w, sm_cl w, sm_ty w, mo_sh cA ad, ad, 24, sm_aK w, sm_aV w, sm_z w)
theorem co_arrE {cA : ClassId} {n : Nat} {f f' : Nat → Value} (h : ∀ j, j < n → f j = f' j) : arrV cA n f = arrV cA n f' := by
  have e : (Array.ofFn (n := n) fun j => f j.val) = Array.ofFn (n := n) fun j => f' j.val := by
    congr 1
    funext j
    exact h j.val j.isLt
  unfold arrV
  rw [e]
theorem co_arr {D : va_G} {cl : List vw_C} {ws : va_W} {H : Heap} {k a n : Nat} {cA : ClassId} {f f' : Nat → Option Nat} (hP : va_P D cl ws H) (h : ws[k]? = some (a, .inl (cA, n, .inr (.inr (.inr (.inr f)))))) (hf : ∀ j, j < n → f j = f' j) : va_P D cl (ws.set k (a, .inl (cA, n, .inr (.inr (.inr (.inr f')))))) H := by
  intro i q hi
  by_cases hik : i = k
  · subst hik
    rw [List.getElem?_set_self (List.getElem?_eq_some_iff.mp h).1] at hi
    cases hi
    have h1 := hP i _ h
    show H[a]? = some (vp_cell cA (n, .inr (.inr (.inr (.inr f')))))
    have h2 : H[a]? = some (vp_cell cA (n, .inr (.inr (.inr (.inr f))))) := h1
    rw [h2, vp_cell_q, vp_cell_q, co_arrE (fun j hj => by rw [hf j hj])]
  · rw [List.getElem?_set_ne (Ne.symm hik)] at hi
    exact hP i q hi
set_option maxRecDepth 100000 in
set_option maxHeartbeats 8000000 in
theorem co_wdx {w : sm_WD} {cA : Nat → ClassId} {ad : Nat → Nat} : ((co_nS cA ad).set 15 (ad 15, .inl (cA 2, 6, .inr (.inr (.inr (.inr (fun j => some (ad (16 + j))))))))).set 34 (ad 34, .inl (cA 3, 4, .inr (.inr (.inr (.inr (fun j => some (ad (35 + j)))))))) = sm_wd (co_wx w cA ad) co_sx := rfl
set_option maxRecDepth 100000 in
set_option maxHeartbeats 8000000 in
theorem co_wdm {w : sm_WD} {cA : Nat → ClassId} {ad : Nat → Nat} : co_nM cA ad = sm_wd (co_wm w cA ad) co_sm := rfl
set_option maxRecDepth 100000 in
theorem co_nx {w : sm_WD} {D : va_G} {cl : List vw_C} {cA : Nat → ClassId} {ad : Nat → Nat} {H : Heap} {A : Nat → Prop} (hP : va_P D cl (co_nS cA ad) H) (hD : va_D A (co_nS cA ad)) : va_P D cl (sm_wd (co_wx w cA ad) co_sx) H ∧ va_D A (sm_wd (co_wx w cA ad) co_sx) := by
  rw [← co_wdx]
  refine ⟨co_arr (co_arr hP (k := 15) rfl (fun j hj => ?_)) (k := 34) rfl (fun j hj => ?_), (hD.set (p := 15) rfl).set (p := 34) rfl⟩
  · rcases (show j = 0 ∨ j = 1 ∨ j = 2 ∨ j = 3 ∨ j = 4 ∨ j = 5 by omega) with rfl | rfl | rfl | rfl | rfl | rfl <;> rfl
  · rcases (show j = 0 ∨ j = 1 ∨ j = 2 ∨ j = 3 by omega) with rfl | rfl | rfl | rfl <;> rfl
theorem co_mono {p : Program} {l : Launch} {e : Env} {R : Room} {s : State} {m : MethodId} {args : Array Value} {below : List Frame} {meth : Method} {c : Code} {H : Heap} {locs : List Loc} {cells slots : Nat} {Q Q' : State → Prop} {g : JFrame} (h : W p l e R s m args below meth c H locs cells slots Q g) (hq : ∀ t, Q t → Q' t) : W p l e R s m args below meth c H locs cells slots Q' g := fun T hT X => by
  obtain ⟨t, a, b⟩ := h T hT X
  exact ⟨t, a, hq t b⟩
/-- from the cells that are made to the world: the context of sm_V -/
theorem co_Cxx {X : sm_VC} {cc : ByteArray} {nL : Nat} {own : String} {fr lo mc ms : Nat} (C : co_Cx X cc nL own fr lo mc ms) {w' : sm_WD} {σ : sm_St} (hD : sm_D w' = sm_D (sm_w X)) (hcl : sm_cl w' = sm_cl (sm_w X)) (hty : sm_ty w' = sm_ty (sm_w X)) (hk : sm_aK w' = sm_aK (sm_w X)) (hv : sm_aV w' = sm_aV (sm_w X)) (hz : sm_z w' = sm_z (sm_w X)) (hDi : va_D (sm_fA X) (sm_wd w' σ)) : sm_Cx (sm_p X, sm_l X, sm_e X, sm_R X, sm_s X, sm_m X, sm_as X, sm_be X, sm_me X, sm_co X, w', sm_fA X, mc, ms) cc nL own fr lo none := by
  have hT : sm_Str w' (sm_s X) (sm_s X).heap := by
    have := C.hT
    unfold sm_Str at this ⊢
    rw [hk, hv, hz]
    exact this
  have hK : va_K (sm_D w') (sm_cl w') (sm_ty w') (sm_s X) := by rw [hD, hcl, hty]; exact C.hK
  have hI : sm_Inj w' (sm_s X).heap.size := by
    refine ⟨fun i j hi hj hij => hDi.1 i j _ _ (sm_at hi) (sm_at hj) hij, fun k h => ?_, ?_⟩
    · rw [hz]
      exact C.hz _ (hDi.2 k _ (sm_at h))
    · rw [hz]
      exact C.hz _ (C.hAz _ (Nat.le_refl _))
  refine ⟨C.hx, C.hb, C.hml, C.hown, C.hts, hK, hI, fun q h => ?_, fun q h => ?_, C.hlk, C.hr, ⟨⟨C.hR.1.1, C.hR.1.2⟩, C.hR.2.1, C.hR.2.2⟩, hT⟩
  · rcases h with ⟨k, h1, h2⟩ | h
    · rw [h2]; exact hDi.2 k _ (sm_at h1)
    · exact C.hAz q h
  · show sm_z w' ≤ q
    rw [hz]
    exact C.hz q h
def co_ah (h : Nat) (ad : Nat → Nat) : Nat → Nat := fun k => match k with
  | 0 => h
  | j + 1 => ad (j + 1)
theorem co_ahE {h : Nat} {ad : Nat → Nat} (e : ad 0 = h) : co_ah h ad = ad := by
  funext k
  cases k with
  | zero => exact e.symm
  | succ j => rfl
theorem co_end {X : sm_VC} {w' : sm_WD} {σ : sm_St} {mc ms : Nat} {out : (Nat → Nat) → va_W} {ad : Nat → Nat} (hD : sm_D w' = sm_D (sm_w X)) (hcl : sm_cl w' = sm_cl (sm_w X)) (ho : out ad = sm_wd w' σ) (hDi : va_D (sm_fA X) (sm_wd w' σ)) (t : State) (h : sm_QV (sm_p X, sm_l X, sm_e X, sm_R X, sm_s X, sm_m X, sm_as X, sm_be X, sm_me X, sm_co X, w', sm_fA X, mc, ms) ((), σ) t) : co_Q X mc ms out t := by
  obtain ⟨o, h1, h2, ⟨⟨u, h3, -, h4⟩, h5⟩, h6⟩ := h
  refine ⟨o, h1, h2, ⟨⟨ad, h3, trivial, ?_⟩, h5⟩, h6⟩
  show va_P (sm_D (sm_w X)) (sm_cl (sm_w X)) (out ad) t.heap ∧ va_D (sm_fA X) (out ad)
  rw [ho]
  refine ⟨?_, hDi⟩
  rw [← hD, ← hcl]
  exact h4
set_option maxRecDepth 100000 in
theorem cc_S {w : sm_WD} {l : Launch} {cA : Nat → ClassId} (hcl : sm_cl w = xo_cl) (hty : sm_ty w = xo_ty cA) {σ : sm_St} (hσ : xf_X7_init co_sx = some ((), σ)) : co_C w l yX7_init prog_1_method_1_code 2 76 1786 55 1693 0 [.null, .null, .int 0, .null, .null, .int 0, .null, .null, .null] (fun h ad => sm_wd (co_wx w cA (co_ah h ad)) σ) := by
  refine co_C.of rfl rfl (by decide) ?_
  intro X h0 hw hl C
  subst hw
  subst hl
  refine cp_S hcl hty C (fun ad had => ?_)
  intro H locs ls hP hD hS hL
  obtain ⟨hP1, hD1⟩ := cq_S hP hD
  obtain ⟨hP2, hD2⟩ := co_nx (w := sm_w X) hP1 hD1
  have C' := co_Cxx (w' := co_wx (sm_w X) cA ad) C rfl rfl rfl rfl rfl rfl hD2
  have hw' : xo_is (co_wx (sm_w X) cA ad) := ⟨cA, hcl, hty, rfl, rfl⟩
  have K := xc_X7_init C' hw' co_sx hσ H locs ls hP2 hS hL
  have hD3 : va_D (sm_fA X) (sm_wd (co_wx (sm_w X) cA ad) σ) := sm_Dis C'.hI C'.hAk
  exact co_mono K (co_end (w' := co_wx (sm_w X) cA ad) (ad := ad) rfl rfl (by show sm_wd (co_wx (sm_w X) cA (co_ah h0 ad)) σ = _; rw [co_ahE had]) hD3)
set_option maxRecDepth 100000 in
theorem cc_M {w : sm_WD} {l : Launch} {cA : Nat → ClassId} (hcl : sm_cl w = mo_cl) (hty : sm_ty w = mo_ty cA) {σ : sm_St} (hσ : mf_X8_init co_sm = some ((), σ)) : co_C w l yX8_init prog_10_method_5_code 1 3 129 23 1398 0 [.int 0, .null, .null, .int 0, .int 0, .null, .int 0, .int 0, .int 0, .int 0, .int 0, .int 0, .null, .null, .null, .int 0, .int 0, .int 0, .int 0, .int 0, .int 0, .int 0, .int 0, .int 0, .int 0, .int 0, .int 0, .long 0, .int 0, .int 0, .int 0, .null, .null, .null, .null, .null, .null, .int 0, .int 0, .null, .null, .null, .null, .long 0, .null, .null, .long 0, .int 0, .int 0, .int 0, .null, .int 0, .int 0, .null, .null, .null, .null] (fun h ad => sm_wd (co_wm w cA (co_ah h ad)) σ) := by
  refine co_C.of rfl rfl (by decide) ?_
  intro X h0 hw hl C
  subst hw
  subst hl
  refine cp_M hcl hty C (fun ad had => ?_)
  intro H locs ls hP hD hS hL
  obtain ⟨hP1, hD1⟩ := cq_M hP hD
  rw [co_wdm (w := sm_w X)] at hP1 hD1
  have C' := co_Cxx (w' := co_wm (sm_w X) cA ad) C rfl rfl rfl rfl rfl rfl hD1
  have hw' : mo_is (co_wm (sm_w X) cA ad) := ⟨cA, hcl, hty, rfl, rfl⟩
  have K := mc_X8_init C' hw' co_sm hσ H locs ls hP1 hS hL
  have hD3 : va_D (sm_fA X) (sm_wd (co_wm (sm_w X) cA ad) σ) := sm_Dis C'.hI C'.hAk
  exact co_mono K (co_end (w' := co_wm (sm_w X) cA ad) (ad := ad) rfl rfl (by show sm_wd (co_wm (sm_w X) cA (co_ah h0 ad)) σ = _; rw [co_ahE had]) hD3)
