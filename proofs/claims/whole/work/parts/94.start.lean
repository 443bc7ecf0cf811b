/-! THE LAW, from its entry -/
section
variable {p : Program} {l : Launch} {e : Env} {R : Room} {s : State} {m : MethodId} {args : Array Value} {below : List Frame} {meth : Method} {c : Code} {H : Heap} {locs : List Loc} {cells slots : Nat} {Q : State → Prop} {cc : ByteArray} {pc nL : Nat} {ls : Array Slot} {lv : List (Nat × Value)} {own : String}
/-- new C; dup; invokespecial of a public constructor: what was there stays, what comes lies behind it -/
theorem la_new (w : sm_WD) (hx : p.tables.exec = Jvm.exec) (hb : c.code = cc) (hml : c.maxLocals = nL) (hown : s.vm.findClass own = some m.cls) (hts : ∀ w ∈ sm_G, w.before args s = true) (hK : va_K (sm_D w) (sm_cl w) (sm_ty w) s) (hT : sm_Str w s s.heap) (hz : sm_z w = s.heap.size) (hS : va_S (fun q => s.heap.size ≤ q) s.heap H locs) (hL : lv_has ls nL lv)
    {C0 : String} {T : u_T} {N ci ix iy : Nat} {ty : Nat → FieldType} {fs : List Value} {y : MethodName} {bytes : ByteArray} {nL1 fr1 lo1 mc1 ms1 : Nat} {out : Nat → (Nat → Nat) → va_W} (hM : co_C w l y bytes nL1 fr1 lo1 mc1 ms1 ci fs out) (hin : ∀ w ∈ u_ws C0 T N, w ∈ sm_G) (hty : ∀ k, k < N → parseFieldDescriptor (T k).2.2.1 = some (ty k)) (hcl : Cond.classLink own ix C0 ∈ sm_G) (hinst : Cond.instantiable C0 N ∈ sm_G) (hini : Cond.initialized C0 ∈ sm_G) (hc : (sm_cl w)[ci]? = some (C0, T, N)) (hfs : ∀ j, j < N → defaultValue (ty j) = vp_V fs j) (hm : sm_Mt y bytes nL1 none 0) (hlk : Cond.methodLink own iy y ∈ sm_G) (hyi : Cond.instanceMethod y ∈ sm_G) (hyn : y.name = "<init>") (hroom : fr1 + 1 ≤ R.frames ∧ 8 + (nL1 + 11) + lo1 ≤ R.locals) (hcs : cells + 1 + mc1 ≤ R.cells) (hsl : slots + N + ms1 ≤ R.slots) (hd1 : decode cc pc = .ok (.new ix, 3)) (hd2 : decode cc (pc + 3) = .ok (.dup, 1)) (hd3 : decode cc (pc + 3 + 1) = .ok (.invokespecial iy, 3))
    (kk : ∀ (ad : Nat → Nat) (H1 : Heap) (locs1 : List Loc), va_P (sm_D w) (sm_cl w) (out H.size ad) H1 → va_D (fun q => H.size ≤ q) (out H.size ad) → (∀ a : Nat, a < H.size → H1[a]? = H[a]?) → va_S (fun q => s.heap.size ≤ q) s.heap H1 locs1 → W p l e R s m args below meth c H1 locs1 (cells + 1 + mc1) (slots + N + ms1) Q (F0 m (pc + 3 + 1 + 3) ls [.ref H.size])) : W p l e R s m args below meth c H locs cells slots Q (F0 m pc ls []) := by
  have hKn := hK.1 ci _ hc
  have hcs1 : cells + 1 ≤ R.cells := by omega
  have hsl1 : slots + N ≤ R.slots := by omega
  refine W.newcK hx hb hown (hts _ hcl) (hts _ hinst) (hts _ hini) rfl hd1 hcs1 hsl1 hKn.2.1 rfl fun H1 kC hkC e1 z1 o1 => ?_
  have hob := (u_born ty hts hin hKn hkC e1 hty).to hfs
  have hPq : va_P (sm_D w) (sm_cl w) [(H.size, .inr (ci, fs))] H1 := by
    intro k x hx
    have hz : k < 1 := (List.getElem?_eq_some_iff.mp hx).1
    rw [show k = 0 by omega] at hx
    cases hx
    exact ⟨_, hc, hob⟩
  have hF : ∀ x, va_A [(H.size, Sum.inr (ci, fs))] H1.size x → H.size ≤ x := by
    intro x h
    rcases h with ⟨k, e, h⟩ | h
    · have hz : k < 1 := (List.getElem?_eq_some_iff.mp h).1
      rw [show k = 0 by omega] at h
      cases h
      exact Nat.le_refl _
    · omega
  have hS1 : va_S (fun q => s.heap.size ≤ q) s.heap H1 locs := ⟨Nat.le_trans hS.1 (by omega), fun x h1 h2 => (o1 x (Nat.lt_of_lt_of_le h1 hS.1)).trans (hS.2.1 x h1 h2), hS.2.2⟩
  refine W.eq (g2 := F0 m (pc + 3) ls [.ref H.size]) rfl ?_
  refine lv_dup hx hb hd2 rfl ?_
  refine va_callv (va_runI (As := []) (rest := [.ref H.size]) ⟨hx, hb, hml, hown, hts⟩ (hM H.size H1.size (by rw [hz]; exact hS.1)) (cwI 0 hts (sm_goodws hm.1) rfl rfl rfl (hts _ hm.2.1) (hts _ hlk) (hts _ hyi) hyn hm.2.2 hroom) ⟨co_blind, fun U hU hW => ?_⟩ rfl rfl hL.1 rfl (lv_room (pc := pc + 3 + 1) (ls := ls) (Nat.le_of_ble_eq_true rfl)) hd3 ⟨hcs, hsl⟩) hS1 (fun x _ h => Nat.le_trans hS.1 (hF x h)) (fun x h => Nat.le_trans hS.1 (hF x h)) (fun ad t H2 locs2 ht hvm hp hB hz1 hk1 hS2 => ?_)
  · refine ⟨rfl, by rw [hU], by rw [hU]; exact hPq, hK.moved hW.alike, by rw [hz]; exact hS1.1, ?_⟩
    rw [hU]
    exact (hT.warm hW).kept (fun a ha hn => hS1.2.1 a ha (fun h => hn (by rw [hz]; exact h)))
  · obtain ⟨hP2, hD2⟩ := hB
    rw [ht] at hP2
    exact kk ad H2 locs2 hP2 (hD2.weaken (fun k x _ h => hF x.1 h)) (fun a ha => (hk1 a (by omega) (fun h => by have := hF a h; omega)).trans (o1 a ha)) hS2
end
theorem la_inj {w : sm_WD} {σ : sm_St} {A : Nat → Prop} {sz : Nat} (hz : sm_z w ≤ sz) (hD : va_D A (sm_wd w σ)) (hA : ∀ q, A q → sm_z w ≤ q) : sm_Inj w sz :=
  ⟨fun i j hi hj hij => hD.1 i j _ _ (sm_at hi) (sm_at hj) hij, fun k h => hA _ (hD.2 k _ (sm_at h)), hz⟩
set_option maxRecDepth 4000 in
theorem whole_start {p : Program} {e : Env} {s : State} {m : MethodId} {below : List Frame} {meth : Method} {c : Code} (l : Launch) (hflags : l.flags = flags0) {b L : Nat} {xs : Nat → Int32} (hL : L ≤ 3072) (C0 : lw_At p s m meth c b L xs) : W p l e room_1 s m #[Value.ref b] below meth c s.heap [] 0 0 (lw_Z below #[Value.ref b] s) (entryFrame m ([Value.ref b] : List Value).toArray 4) := by
  obtain ⟨hx, hb, hr, hml, hown, hts, hX, hbl, hlocks, hgv⟩ := id C0
  have htsG : ∀ w ∈ sm_G, w.before #[Value.ref b] s = true := fun w hw => hts w (List.mem_filter.mp hw).1
  obtain ⟨aK, aV, hStr⟩ := la_Str hts hgv
  obtain ⟨Dx, cx, hKx⟩ := la_Kx htsG (va_AO.of (hts _ la_n7.1)) (va_AO.of (hts _ la_n7.2.1))
  obtain ⟨Dm, cm, hKm⟩ := la_Km htsG
  obtain ⟨σx, σm, ex, em, hR⟩ := cz_R
  generalize hwx : ((Dx, xo_cl, xo_ty cx, fun _ _ _ _ => .inr (99, []), fun _ => 0, 0, aK, aV, s.heap.size) : sm_WD) = wx0
  generalize hwm : ((Dm, mo_cl, mo_ty cm, fun _ _ _ _ => .inr (99, []), fun _ => 0, 0, aK, aV, s.heap.size) : sm_WD) = wm0
  have x1 : sm_D wx0 = Dx := by rw [← hwx]; rfl
  have x2 : sm_cl wx0 = xo_cl := by rw [← hwx]; rfl
  have x3 : sm_ty wx0 = xo_ty cx := by rw [← hwx]; rfl
  have x4 : sm_aK wx0 = aK := by rw [← hwx]; rfl
  have x5 : sm_aV wx0 = aV := by rw [← hwx]; rfl
  have x6 : sm_z wx0 = s.heap.size := by rw [← hwx]; rfl
  have m1 : sm_D wm0 = Dm := by rw [← hwm]; rfl
  have m2 : sm_cl wm0 = mo_cl := by rw [← hwm]; rfl
  have m3 : sm_ty wm0 = mo_ty cm := by rw [← hwm]; rfl
  have m4 : sm_aK wm0 = aK := by rw [← hwm]; rfl
  have m5 : sm_aV wm0 = aV := by rw [← hwm]; rfl
  have m6 : sm_z wm0 = s.heap.size := by rw [← hwm]; rfl
  have hKx0 : va_K (sm_D wx0) (sm_cl wx0) (sm_ty wx0) s := by rw [x1, x2, x3]; exact hKx
  have hKm0 : va_K (sm_D wm0) (sm_cl wm0) (sm_ty wm0) s := by rw [m1, m2, m3]; exact hKm
  have hl := lv_entry ([.ref b]) (n := 4) (Nat.le_of_ble_eq_true rfl)
  rw [lg_entry_eq]
  generalize (lg_sl ([.ref b]) ++ List.replicate (4 - (lg_sl ([.ref b])).length) Slot.unset).toArray = ls at hl ⊢
  have hl : lv_has ls 4 [(0, .ref b)] := hl
  refine la_new wx0 hx hb hml hown htsG hKx0 (hStr wx0 x4 x5 x6) x6 va_S.rf hl (cc_S x2 x3 ex) ixo_S kxo_S gx_Law_7 gt_S gn_S (by rw [x2]; rfl) (by decide +kernel) gm_X7_init gl_Law_9 gi_X7_init rfl ⟨by decide, by decide⟩ (by decide) (by decide) dL_0 dL_3 dL_4 (fun adx H1 locs1 hPx hDx hk1 hS1 => ?_)
  refine lv_astore_n (lv' := [(1, .ref s.heap.size), (0, .ref b)]) hx hb dL_7 rfl hl (by decide) rfl (fun ls hl => ?_)
  refine la_new wm0 hx hb hml hown htsG hKm0 (hStr wm0 m4 m5 m6) m6 hS1 hl (cc_M m2 m3 em) imo_M kmo_M gx_Law_10 gt_M gn_M (by rw [m2]; rfl) (by decide +kernel) gm_X8_init gl_Law_12 gi_X8_init rfl ⟨by decide, by decide⟩ (by decide) (by decide) dL_8 dL_11 dL_12 (fun adm H2 locs2 hPm hDm hk2 hS2 => ?_)
  refine lv_astore_n (lv' := [(2, .ref H1.size), (1, .ref s.heap.size), (0, .ref b)]) hx hb dL_15 rfl hl (by decide) rfl (fun ls hl => ?_)
  have hPx2 : va_P (sm_D wx0) (sm_cl wx0) (sm_wd (co_wx wx0 cx (co_ah s.heap.size adx)) σx) H2 := hPx.kept (fun k q hq => hk2 q.1 (hPx k q hq).lt)
  have hwx' : xo_is (co_wx wx0 cx (co_ah s.heap.size adx)) := ⟨cx, x2, x3, rfl, rfl⟩
  have hwm' : mo_is (co_wm wm0 cm (co_ah H1.size adm)) := ⟨cm, m2, m3, rfl, rfl⟩
  have hxlt : ∀ i, i < 56 → co_ah s.heap.size adx i < H1.size := fun i hi => (hPx i _ (sm_at (w := co_wx wx0 cx (co_ah s.heap.size adx)) hi)).lt
  have hxge : ∀ i, i < 56 → s.heap.size ≤ co_ah s.heap.size adx i := fun i hi => hDx.2 i _ (sm_at (w := co_wx wx0 cx (co_ah s.heap.size adx)) hi)
  have hmge : ∀ j, j < 24 → H1.size ≤ co_ah H1.size adm j := fun j hj => hDm.2 j _ (sm_at (w := co_wm wm0 cm (co_ah H1.size adm)) hj)
  have hIx : sm_Inj (co_wx wx0 cx (co_ah s.heap.size adx)) s.heap.size := la_inj (σ := σx) (Nat.le_of_eq x6) hDx (fun q h => by show sm_z wx0 ≤ q; rw [x6]; exact h)
  have hIm : sm_Inj (co_wm wm0 cm (co_ah H1.size adm)) s.heap.size := la_inj (σ := σm) (Nat.le_of_eq m6) hDm (fun q h => by show sm_z wm0 ≤ q; rw [m6]; exact Nat.le_trans hS1.1 h)
  have Cx : sm_Cx (p, l, e, room_1, s, m, #[Value.ref b], below, meth, c, co_wx wx0 cx (co_ah s.heap.size adx), (fun q => s.heap.size ≤ q), 0 + 1 + 55 + 1 + 23, 0 + 9 + 1693 + 57 + 1398) code 4 "SmokeGoesToLaw" 2048 84000 ret :=
    ⟨hx, hb, hml, hown, htsG, hKx0, hIx, fun q h => by
      rcases h with ⟨k, h1, h2⟩ | h
      · rw [h2]; exact hxge k h1
      · exact h, fun q h => by show sm_z wx0 ≤ q; rw [x6]; exact h, hlocks, hr, ⟨⟨Nat.le_refl _, Nat.le_refl _⟩, by show 0 + 1 + 55 + 1 + 23 ≤ 600000; decide, by show 0 + 9 + 1693 + 57 + 1398 ≤ 7302249; decide⟩, hStr _ x4 x5 x6⟩
  have Cm : sm_Cx (p, l, e, room_1, s, m, #[Value.ref b], below, meth, c, co_wm wm0 cm (co_ah H1.size adm), (fun q => s.heap.size ≤ q), 0 + 1 + 55 + 1 + 23, 0 + 9 + 1693 + 57 + 1398) code 4 "SmokeGoesToLaw" 2048 84000 ret :=
    ⟨hx, hb, hml, hown, htsG, hKm0, hIm, fun q h => by
      rcases h with ⟨k, h1, h2⟩ | h
      · rw [h2]; exact Nat.le_trans hS1.1 (hmge k h1)
      · exact h, fun q h => by show sm_z wm0 ≤ q; rw [m6]; exact h, hlocks, hr, ⟨⟨Nat.le_refl _, Nat.le_refl _⟩, by show 0 + 1 + 55 + 1 + 23 ≤ 600000; decide, by show 0 + 9 + 1693 + 57 + 1398 ≤ 7302249; decide⟩, hStr _ m4 m5 m6⟩
  have C : la_Cx (p, l, e, room_1, s, m, #[Value.ref b], below, meth, c, co_wx wx0 cx (co_ah s.heap.size adx), (fun q => s.heap.size ≤ q), 0 + 1 + 55 + 1 + 23, 0 + 9 + 1693 + 57 + 1398) (co_wm wm0 cm (co_ah H1.size adm)) b L xs :=
    ⟨Cx, Cm, hwx', hwm', fun i j hi hj h => by
      have h1 := hxlt i hi
      have h2 := hmge j hj
      have h3 : co_ah s.heap.size adx i = co_ah H1.size adm j := h
      omega, hX, hbl, Nat.not_le.mpr hbl, hL⟩
  have K := la_loop (Q := lw_Z below #[Value.ref b] s) C (fun σx σm i => by
    refine la_iconst (v := 1) C dL_1066 (by decide) ?_
    intro H locs ls hPx hPm hS hL
    exact va_forget hS.2.2 (W.widen (by show 0 + 1 + 55 + 1 + 23 ≤ 600000; decide) (by show 0 + 9 + 1693 + 57 + 1398 ≤ 7302249; decide) (lw_ret hx hb hr hlocks dL_1067))) (L + 1) 0 σx σm (by omega) (by omega) hR
  have K0 : la_V (p, l, e, room_1, s, m, #[Value.ref b], below, meth, c, co_wx wx0 cx (co_ah s.heap.size adx), (fun q => s.heap.size ≤ q), 0 + 1 + 55 + 1 + 23, 0 + 9 + 1693 + 57 + 1398) (co_wm wm0 cm (co_ah H1.size adm)) (lw_Z below #[Value.ref b] s) σx σm 16 [(2, .ref H1.size), (1, .ref s.heap.size), (0, .ref b)] [] := by
    refine la_iconst (v := 0) C dL_16 (by decide) ?_
    exact la_istore_n C dL_17 rfl (by decide) (lv' := [(3, .int 0), (2, .ref H1.size), (1, .ref s.heap.size), (0, .ref b)]) rfl K
  exact K0 H2 locs2 ls hPx2 hPm hS2 hl
