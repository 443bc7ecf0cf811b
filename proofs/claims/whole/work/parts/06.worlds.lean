/-! THE TWO WORLDS: cells by number, their shapes, rows for their fields and rows -/
def xo_tag (k : Nat) : Nat := ([0, 1, 1, 1, 10, 10, 10, 10, 10, 10, 10, 10, 10, 2, 10, 12, 3, 3, 3, 3, 3, 3, 10, 10, 10, 10, 10, 10, 10, 10, 10, 10, 10, 10, 13, 4, 4, 4, 4, 10, 10, 10, 10, 5, 10, 10, 10, 10, 10, 10, 10, 10, 6, 11, 11, 11] : List Nat).getD k 99
def xo_len (k : Nat) : Nat := ([0, 0, 0, 0, 5, 5, 5, 5, 5, 5, 5, 5, 5, 0, 160, 6, 0, 0, 0, 0, 0, 0, 160, 160, 160, 160, 160, 160, 3, 3, 3, 3, 3, 3, 4, 0, 0, 0, 0, 40, 40, 40, 40, 0, 5, 5, 40, 5, 5, 5, 6, 160, 0, 8, 8, 8] : List Nat).getD k 0
theorem xo_lt {k t : Nat} (h : xo_tag k = t) (ht : t ≠ 99) : k < 56 := by
  rcases Nat.lt_or_ge k 56 with q | q
  · exact q
  · exfalso
    apply ht
    rw [← h]
    unfold xo_tag
    rw [List.getD_eq_getElem?_getD, List.getElem?_eq_none (by simpa using q)]
    rfl
def Rxo_S : u_T := fun k => match k with
  | 0 => ("SmokeGoesTo", "fire", "LSmokeGoesTo$Fire;", true)
  | 1 => ("SmokeGoesTo", "kept", "LSmokeGoesTo$Fire;", true)
  | 2 => ("SmokeGoesTo", "hasImage", "Z", false)
  | 3 => ("SmokeGoesTo", "reader", "LSmokeGoesTo$Reader;", true)
  | 4 => ("SmokeGoesTo", "texts", "[LSmokeGoesTo$Text;", true)
  | 5 => ("SmokeGoesTo", "textCount", "I", false)
  | 6 => ("SmokeGoesTo", "sheets", "[LSmokeGoesTo$Sheet;", true)
  | 7 => ("SmokeGoesTo", "thought", "LSmokeGoesTo$Night;", true)
  | _ => ("SmokeGoesTo", "odds", "LSmokeGoesTo$Odds;", true)
def yxo_S : Nat → FieldType := fun k => match k with
  | 0 => .object "SmokeGoesTo$Fire"
  | 1 => .object "SmokeGoesTo$Fire"
  | 2 => .boolean
  | 3 => .object "SmokeGoesTo$Reader"
  | 4 => .array (.object "SmokeGoesTo$Text")
  | 5 => .int
  | 6 => .array (.object "SmokeGoesTo$Sheet")
  | 7 => .object "SmokeGoesTo$Night"
  | _ => .object "SmokeGoesTo$Odds"
theorem nxo_S : ∀ a, a < 9 → ∀ b, b < 9 → a ≠ b → (Rxo_S a).2.1 ≠ (Rxo_S b).2.1 := by decide +kernel
theorem kxo_S : ∀ k, k < 9 → parseFieldDescriptor (Rxo_S k).2.2.1 = some (yxo_S k) := by decide +kernel
theorem ixo_S : ∀ w ∈ u_ws "SmokeGoesTo" Rxo_S 9, w ∈ sm_G := by
  have h : ∀ w ∈ u_ws "SmokeGoesTo" Rxo_S 9, w ∈ lw_tbl ∧ goodWord w = true := by decide +kernel
  exact fun w hw => sm_gin (h w hw).1 (h w hw).2
def Rxo_Fire : u_T := fun k => match k with
  | 0 => ("SmokeGoesTo$Fire", "smoke", "I", false)
  | 1 => ("SmokeGoesTo$Fire", "left", "I", false)
  | 2 => ("SmokeGoesTo$Fire", "right", "I", false)
  | 3 => ("SmokeGoesTo$Fire", "tents", "I", false)
  | 4 => ("SmokeGoesTo$Fire", "eddy", "I", false)
  | 5 => ("SmokeGoesTo$Fire", "rule", "I", false)
  | 6 => ("SmokeGoesTo$Fire", "size", "I", false)
  | 7 => ("SmokeGoesTo$Fire", "kinds", "[I", true)
  | 8 => ("SmokeGoesTo$Fire", "numbers", "[I", true)
  | _ => ("SmokeGoesTo$Fire", "places", "[I", true)
def yxo_Fire : Nat → FieldType := fun k => match k with
  | 0 => .int
  | 1 => .int
  | 2 => .int
  | 3 => .int
  | 4 => .int
  | 5 => .int
  | 6 => .int
  | 7 => .array .int
  | 8 => .array .int
  | _ => .array .int
theorem nxo_Fire : ∀ a, a < 10 → ∀ b, b < 10 → a ≠ b → (Rxo_Fire a).2.1 ≠ (Rxo_Fire b).2.1 := by decide +kernel
theorem kxo_Fire : ∀ k, k < 10 → parseFieldDescriptor (Rxo_Fire k).2.2.1 = some (yxo_Fire k) := by decide +kernel
theorem ixo_Fire : ∀ w ∈ u_ws "SmokeGoesTo$Fire" Rxo_Fire 10, w ∈ sm_G := by
  have h : ∀ w ∈ u_ws "SmokeGoesTo$Fire" Rxo_Fire 10, w ∈ lw_tbl ∧ goodWord w = true := by decide +kernel
  exact fun w hw => sm_gin (h w hw).1 (h w hw).2
def Rxo_Reader : u_T := fun k => match k with
  | 0 => ("SmokeGoesTo$Reader", "size", "I", false)
  | 1 => ("SmokeGoesTo$Reader", "tape", "[I", true)
  | 2 => ("SmokeGoesTo$Reader", "token", "I", false)
  | 3 => ("SmokeGoesTo$Reader", "tokenStart", "I", false)
  | 4 => ("SmokeGoesTo$Reader", "next", "I", false)
  | 5 => ("SmokeGoesTo$Reader", "number", "I", false)
  | _ => ("SmokeGoesTo$Reader", "out", "LSmokeGoesTo$Text;", false)
def yxo_Reader : Nat → FieldType := fun k => match k with
  | 0 => .int
  | 1 => .array .int
  | 2 => .int
  | 3 => .int
  | 4 => .int
  | 5 => .int
  | _ => .object "SmokeGoesTo$Text"
theorem nxo_Reader : ∀ a, a < 7 → ∀ b, b < 7 → a ≠ b → (Rxo_Reader a).2.1 ≠ (Rxo_Reader b).2.1 := by decide +kernel
theorem kxo_Reader : ∀ k, k < 7 → parseFieldDescriptor (Rxo_Reader k).2.2.1 = some (yxo_Reader k) := by decide +kernel
theorem ixo_Reader : ∀ w ∈ u_ws "SmokeGoesTo$Reader" Rxo_Reader 7, w ∈ sm_G := by
  have h : ∀ w ∈ u_ws "SmokeGoesTo$Reader" Rxo_Reader 7, w ∈ lw_tbl ∧ goodWord w = true := by decide +kernel
  exact fun w hw => sm_gin (h w hw).1 (h w hw).2
def Rxo_Text : u_T := fun k => match k with
  | 0 => ("SmokeGoesTo$Text", "code", "[I", true)
  | 1 => ("SmokeGoesTo$Text", "ends", "[I", true)
  | _ => ("SmokeGoesTo$Text", "size", "I", false)
def yxo_Text : Nat → FieldType := fun k => match k with
  | 0 => .array .int
  | 1 => .array .int
  | _ => .int
theorem nxo_Text : ∀ a, a < 3 → ∀ b, b < 3 → a ≠ b → (Rxo_Text a).2.1 ≠ (Rxo_Text b).2.1 := by decide +kernel
theorem kxo_Text : ∀ k, k < 3 → parseFieldDescriptor (Rxo_Text k).2.2.1 = some (yxo_Text k) := by decide +kernel
theorem ixo_Text : ∀ w ∈ u_ws "SmokeGoesTo$Text" Rxo_Text 3, w ∈ sm_G := by
  have h : ∀ w ∈ u_ws "SmokeGoesTo$Text" Rxo_Text 3, w ∈ lw_tbl ∧ goodWord w = true := by decide +kernel
  exact fun w hw => sm_gin (h w hw).1 (h w hw).2
def Rxo_Sheet : u_T := fun k => match k with
  | 0 => ("SmokeGoesTo$Sheet", "sort", "I", false)
  | 1 => ("SmokeGoesTo$Sheet", "size", "I", false)
  | _ => ("SmokeGoesTo$Sheet", "items", "[I", true)
def yxo_Sheet : Nat → FieldType := fun k => match k with
  | 0 => .int
  | 1 => .int
  | _ => .array .int
theorem nxo_Sheet : ∀ a, a < 3 → ∀ b, b < 3 → a ≠ b → (Rxo_Sheet a).2.1 ≠ (Rxo_Sheet b).2.1 := by decide +kernel
theorem kxo_Sheet : ∀ k, k < 3 → parseFieldDescriptor (Rxo_Sheet k).2.2.1 = some (yxo_Sheet k) := by decide +kernel
theorem ixo_Sheet : ∀ w ∈ u_ws "SmokeGoesTo$Sheet" Rxo_Sheet 3, w ∈ sm_G := by
  have h : ∀ w ∈ u_ws "SmokeGoesTo$Sheet" Rxo_Sheet 3, w ∈ lw_tbl ∧ goodWord w = true := by decide +kernel
  exact fun w hw => sm_gin (h w hw).1 (h w hw).2
def Rxo_Night : u_T := fun k => match k with
  | 0 => ("SmokeGoesTo$Night", "now", "LSmokeGoesTo$Fire;", true)
  | 1 => ("SmokeGoesTo$Night", "costs", "[I", true)
  | 2 => ("SmokeGoesTo$Night", "smoked", "[I", true)
  | 3 => ("SmokeGoesTo$Night", "winds", "[I", true)
  | 4 => ("SmokeGoesTo$Night", "longest", "[I", true)
  | 5 => ("SmokeGoesTo$Night", "ups", "[I", true)
  | 6 => ("SmokeGoesTo$Night", "longs", "[I", true)
  | 7 => ("SmokeGoesTo$Night", "names", "[I", true)
  | 8 => ("SmokeGoesTo$Night", "stack", "[I", true)
  | 9 => ("SmokeGoesTo$Night", "minutes", "I", false)
  | 10 => ("SmokeGoesTo$Night", "needless", "I", false)
  | 11 => ("SmokeGoesTo$Night", "riser", "I", false)
  | 12 => ("SmokeGoesTo$Night", "leftPlace", "I", false)
  | _ => ("SmokeGoesTo$Night", "rule", "LSmokeGoesTo$Text;", false)
def yxo_Night : Nat → FieldType := fun k => match k with
  | 0 => .object "SmokeGoesTo$Fire"
  | 1 => .array .int
  | 2 => .array .int
  | 3 => .array .int
  | 4 => .array .int
  | 5 => .array .int
  | 6 => .array .int
  | 7 => .array .int
  | 8 => .array .int
  | 9 => .int
  | 10 => .int
  | 11 => .int
  | 12 => .int
  | _ => .object "SmokeGoesTo$Text"
theorem nxo_Night : ∀ a, a < 14 → ∀ b, b < 14 → a ≠ b → (Rxo_Night a).2.1 ≠ (Rxo_Night b).2.1 := by decide +kernel
theorem kxo_Night : ∀ k, k < 14 → parseFieldDescriptor (Rxo_Night k).2.2.1 = some (yxo_Night k) := by decide +kernel
theorem ixo_Night : ∀ w ∈ u_ws "SmokeGoesTo$Night" Rxo_Night 14, w ∈ sm_G := by
  have h : ∀ w ∈ u_ws "SmokeGoesTo$Night" Rxo_Night 14, w ∈ lw_tbl ∧ goodWord w = true := by decide +kernel
  exact fun w hw => sm_gin (h w hw).1 (h w hw).2
def Rxo_Odds : u_T := fun k => match k with
  | 0 => ("SmokeGoesTo$Odds", "at", "[J", true)
  | 1 => ("SmokeGoesTo$Odds", "together", "[J", true)
  | 2 => ("SmokeGoesTo$Odds", "below", "J", false)
  | _ => ("SmokeGoesTo$Odds", "ahead", "[J", true)
def yxo_Odds : Nat → FieldType := fun k => match k with
  | 0 => .array .long
  | 1 => .array .long
  | 2 => .long
  | _ => .array .long
theorem nxo_Odds : ∀ a, a < 4 → ∀ b, b < 4 → a ≠ b → (Rxo_Odds a).2.1 ≠ (Rxo_Odds b).2.1 := by decide +kernel
theorem kxo_Odds : ∀ k, k < 4 → parseFieldDescriptor (Rxo_Odds k).2.2.1 = some (yxo_Odds k) := by decide +kernel
theorem ixo_Odds : ∀ w ∈ u_ws "SmokeGoesTo$Odds" Rxo_Odds 4, w ∈ sm_G := by
  have h : ∀ w ∈ u_ws "SmokeGoesTo$Odds" Rxo_Odds 4, w ∈ lw_tbl ∧ goodWord w = true := by decide +kernel
  exact fun w hw => sm_gin (h w hw).1 (h w hw).2
def xo_cl : List vw_C := [("SmokeGoesTo", Rxo_S, 9), ("SmokeGoesTo$Fire", Rxo_Fire, 10), ("SmokeGoesTo$Reader", Rxo_Reader, 7), ("SmokeGoesTo$Text", Rxo_Text, 3), ("SmokeGoesTo$Sheet", Rxo_Sheet, 3), ("SmokeGoesTo$Night", Rxo_Night, 14), ("SmokeGoesTo$Odds", Rxo_Odds, 4)]
def xo_ty (cA : Nat → ClassId) : List (ClassId × FieldType) := [(cA 0, .int), (cA 1, .long), (cA 2, .object "SmokeGoesTo$Text"), (cA 3, .object "SmokeGoesTo$Sheet")]
def xo_sh (cA : Nat → ClassId) (ad : Nat → Nat) : sm_Sh := fun k a b c => match xo_tag k with
  | 0 => .inr (0, [.ref (ad 1), .ref (ad 2), .int (a 2), .ref (ad 13), .ref (ad 15), .int (a 5), .ref (ad 34), .ref (ad 43), .ref (ad 52)])
  | 1 => .inr (1, [.int (a 0), .int (a 1), .int (a 2), .int (a 3), .int (a 4), .int (a 5), .int (a 6), .ref (ad (k + 3)), .ref (ad (k + 6)), .ref (ad (k + 9))])
  | 2 => .inr (2, [.int (a 0), .ref (ad 14), .int (a 2), .int (a 3), .int (a 4), .int (a 5), va_rf ((c 6).map ad)])
  | 3 => .inr (3, [.ref (ad (k + 6)), .ref (ad (k + 12)), .int (a 2)])
  | 4 => .inr (4, [.int (a 0), .int (a 1), .ref (ad (k + 4))])
  | 5 => .inr (5, [.ref (ad 3), .ref (ad 44), .ref (ad 45), .ref (ad 46), .ref (ad 47), .ref (ad 48), .ref (ad 49), .ref (ad 50), .ref (ad 51), .int (a 9), .int (a 10), .int (a 11), .int (a 12), va_rf ((c 13).map ad)])
  | 6 => .inr (6, [.ref (ad 53), .ref (ad 54), .long (b 2), .ref (ad 55)])
  | 10 => .inl (cA 0, xo_len k, .inl a)
  | 11 => .inl (cA 1, xo_len k, .inr (.inl b))
  | 12 => .inl (cA 2, 6, .inr (.inr (.inr (.inr (fun j => some (ad (16 + j)))))))
  | 13 => .inl (cA 3, 4, .inr (.inr (.inr (.inr (fun j => some (ad (35 + j)))))))
  | _ => .inr (99, [])
theorem xo_sh0 {cA : Nat → ClassId} {ad : Nat → Nat} {k : Nat} (h : xo_tag k = 0) (a : Nat → Int32) (b : Nat → Int64) (c : Nat → Option Nat) : xo_sh cA ad k a b c = .inr (0, [.ref (ad 1), .ref (ad 2), .int (a 2), .ref (ad 13), .ref (ad 15), .int (a 5), .ref (ad 34), .ref (ad 43), .ref (ad 52)]) := by
  unfold xo_sh
  rw [h]
  rfl
theorem xo_sh1 {cA : Nat → ClassId} {ad : Nat → Nat} {k : Nat} (h : xo_tag k = 1) (a : Nat → Int32) (b : Nat → Int64) (c : Nat → Option Nat) : xo_sh cA ad k a b c = .inr (1, [.int (a 0), .int (a 1), .int (a 2), .int (a 3), .int (a 4), .int (a 5), .int (a 6), .ref (ad (k + 3)), .ref (ad (k + 6)), .ref (ad (k + 9))]) := by
  unfold xo_sh
  rw [h]
  rfl
theorem xo_sh2 {cA : Nat → ClassId} {ad : Nat → Nat} {k : Nat} (h : xo_tag k = 2) (a : Nat → Int32) (b : Nat → Int64) (c : Nat → Option Nat) : xo_sh cA ad k a b c = .inr (2, [.int (a 0), .ref (ad 14), .int (a 2), .int (a 3), .int (a 4), .int (a 5), va_rf ((c 6).map ad)]) := by
  unfold xo_sh
  rw [h]
  rfl
theorem xo_sh3 {cA : Nat → ClassId} {ad : Nat → Nat} {k : Nat} (h : xo_tag k = 3) (a : Nat → Int32) (b : Nat → Int64) (c : Nat → Option Nat) : xo_sh cA ad k a b c = .inr (3, [.ref (ad (k + 6)), .ref (ad (k + 12)), .int (a 2)]) := by
  unfold xo_sh
  rw [h]
  rfl
theorem xo_sh4 {cA : Nat → ClassId} {ad : Nat → Nat} {k : Nat} (h : xo_tag k = 4) (a : Nat → Int32) (b : Nat → Int64) (c : Nat → Option Nat) : xo_sh cA ad k a b c = .inr (4, [.int (a 0), .int (a 1), .ref (ad (k + 4))]) := by
  unfold xo_sh
  rw [h]
  rfl
theorem xo_sh5 {cA : Nat → ClassId} {ad : Nat → Nat} {k : Nat} (h : xo_tag k = 5) (a : Nat → Int32) (b : Nat → Int64) (c : Nat → Option Nat) : xo_sh cA ad k a b c = .inr (5, [.ref (ad 3), .ref (ad 44), .ref (ad 45), .ref (ad 46), .ref (ad 47), .ref (ad 48), .ref (ad 49), .ref (ad 50), .ref (ad 51), .int (a 9), .int (a 10), .int (a 11), .int (a 12), va_rf ((c 13).map ad)]) := by
  unfold xo_sh
  rw [h]
  rfl
theorem xo_sh6 {cA : Nat → ClassId} {ad : Nat → Nat} {k : Nat} (h : xo_tag k = 6) (a : Nat → Int32) (b : Nat → Int64) (c : Nat → Option Nat) : xo_sh cA ad k a b c = .inr (6, [.ref (ad 53), .ref (ad 54), .long (b 2), .ref (ad 55)]) := by
  unfold xo_sh
  rw [h]
  rfl
theorem xo_sh10 {cA : Nat → ClassId} {ad : Nat → Nat} {k : Nat} (h : xo_tag k = 10) (a : Nat → Int32) (b : Nat → Int64) (c : Nat → Option Nat) : xo_sh cA ad k a b c = .inl (cA 0, xo_len k, .inl a) := by
  unfold xo_sh
  rw [h]
  rfl
theorem xo_sh11 {cA : Nat → ClassId} {ad : Nat → Nat} {k : Nat} (h : xo_tag k = 11) (a : Nat → Int32) (b : Nat → Int64) (c : Nat → Option Nat) : xo_sh cA ad k a b c = .inl (cA 1, xo_len k, .inr (.inl b)) := by
  unfold xo_sh
  rw [h]
  rfl
theorem xo_sh12 {cA : Nat → ClassId} {ad : Nat → Nat} {k : Nat} (h : xo_tag k = 12) (a : Nat → Int32) (b : Nat → Int64) (c : Nat → Option Nat) : xo_sh cA ad k a b c = .inl (cA 2, 6, .inr (.inr (.inr (.inr (fun j => some (ad (16 + j))))))) := by
  unfold xo_sh
  rw [h]
  rfl
theorem xo_sh13 {cA : Nat → ClassId} {ad : Nat → Nat} {k : Nat} (h : xo_tag k = 13) (a : Nat → Int32) (b : Nat → Int64) (c : Nat → Option Nat) : xo_sh cA ad k a b c = .inl (cA 3, 4, .inr (.inr (.inr (.inr (fun j => some (ad (35 + j))))))) := by
  unfold xo_sh
  rw [h]
  rfl
def xo_is (w : sm_WD) : Prop := ∃ cA : Nat → ClassId, sm_cl w = xo_cl ∧ sm_ty w = xo_ty cA ∧ sm_sh w = xo_sh cA (sm_ad w) ∧ sm_N w = 56
theorem xt_Fire_kinds {k : Nat} (h : xo_tag k = 1) : xo_tag (k + 3) = 10 ∧ xo_len (k + 3) = 5 := by
  have g : ∀ k, k < 56 → xo_tag k = 1 → xo_tag (k + 3) = 10 ∧ xo_len (k + 3) = 5 := by decide +kernel
  exact g k (xo_lt h (by decide)) h
theorem xt_Fire_numbers {k : Nat} (h : xo_tag k = 1) : xo_tag (k + 6) = 10 ∧ xo_len (k + 6) = 5 := by
  have g : ∀ k, k < 56 → xo_tag k = 1 → xo_tag (k + 6) = 10 ∧ xo_len (k + 6) = 5 := by decide +kernel
  exact g k (xo_lt h (by decide)) h
theorem xt_Fire_places {k : Nat} (h : xo_tag k = 1) : xo_tag (k + 9) = 10 ∧ xo_len (k + 9) = 5 := by
  have g : ∀ k, k < 56 → xo_tag k = 1 → xo_tag (k + 9) = 10 ∧ xo_len (k + 9) = 5 := by decide +kernel
  exact g k (xo_lt h (by decide)) h
theorem xt_Text_code {k : Nat} (h : xo_tag k = 3) : xo_tag (k + 6) = 10 ∧ xo_len (k + 6) = 160 := by
  have g : ∀ k, k < 56 → xo_tag k = 3 → xo_tag (k + 6) = 10 ∧ xo_len (k + 6) = 160 := by decide +kernel
  exact g k (xo_lt h (by decide)) h
theorem xt_Text_ends {k : Nat} (h : xo_tag k = 3) : xo_tag (k + 12) = 10 ∧ xo_len (k + 12) = 3 := by
  have g : ∀ k, k < 56 → xo_tag k = 3 → xo_tag (k + 12) = 10 ∧ xo_len (k + 12) = 3 := by decide +kernel
  exact g k (xo_lt h (by decide)) h
theorem xt_Sheet_items {k : Nat} (h : xo_tag k = 4) : xo_tag (k + 4) = 10 ∧ xo_len (k + 4) = 40 := by
  have g : ∀ k, k < 56 → xo_tag k = 4 → xo_tag (k + 4) = 10 ∧ xo_len (k + 4) = 40 := by decide +kernel
  exact g k (xo_lt h (by decide)) h
theorem xt_texts {i : Int32} (h : sm_in i 6 = true) : xo_tag (16 + i.toNatClampNeg) = 3 := by
  have g : ∀ j, j < 6 → xo_tag (16 + j) = 3 := by decide +kernel
  exact g _ (Nat.not_le.mp fun q => sm_inE h (Or.inr q))
theorem xt_sheets {i : Int32} (h : sm_in i 4 = true) : xo_tag (35 + i.toNatClampNeg) = 4 := by
  have g : ∀ j, j < 4 → xo_tag (35 + j) = 4 := by decide +kernel
  exact g _ (Nat.not_le.mp fun q => sm_inE h (Or.inr q))
section
variable {X : sm_VC} {cc : ByteArray} {nL : Nat} {own : String} {fr lo : Nat} {ret : Option FieldType} {Q : State → Prop} {σ : sm_St} {pc : Nat} {lv : List (Nat × Value)} {st : List Value} {β : Type} {z : β}
theorem xob_S {w : sm_WD} {k : Nat} (hw : xo_is w) (hk : xo_tag k = 0) : sm_Ob w k "SmokeGoesTo" := by
  obtain ⟨cA, e1, e2, e3, e4⟩ := hw
  exact ⟨by rw [e4]; exact xo_lt hk (by decide), fun a b c => ⟨_, _, _, by rw [e3]; exact xo_sh0 hk a b c, by rw [e1]; rfl, rfl⟩⟩
theorem xr_S_fire (C : sm_Cx X cc nL own fr lo ret) (hw : xo_is (sm_w X)) {index k : Nat} (hk : xo_tag k = 0) (hl : Cond.fieldLink own index "SmokeGoesTo" "fire" "LSmokeGoesTo$Fire;" ∈ sm_G) (hd : decode cc pc = .ok (.getfield index, 3)) (kk : sm_V X Q nL σ (pc + 3) lv (.ref (sm_ad (sm_w X) 1) :: st)) : sm_V X Q nL σ pc lv (.ref (sm_ad (sm_w X) k) :: st) := by
  obtain ⟨cA, e1, e2, e3, e4⟩ := hw
  exact sm_get C 0 (k := k) (by rw [e4]; exact xo_lt hk (by decide)) (by rw [e3]; exact xo_sh0 hk _ _ _) (by rw [e1]; rfl) ixo_S (by decide) hl rfl hd (kk)
theorem xr_S_kept (C : sm_Cx X cc nL own fr lo ret) (hw : xo_is (sm_w X)) {index k : Nat} (hk : xo_tag k = 0) (hl : Cond.fieldLink own index "SmokeGoesTo" "kept" "LSmokeGoesTo$Fire;" ∈ sm_G) (hd : decode cc pc = .ok (.getfield index, 3)) (kk : sm_V X Q nL σ (pc + 3) lv (.ref (sm_ad (sm_w X) 2) :: st)) : sm_V X Q nL σ pc lv (.ref (sm_ad (sm_w X) k) :: st) := by
  obtain ⟨cA, e1, e2, e3, e4⟩ := hw
  exact sm_get C 1 (k := k) (by rw [e4]; exact xo_lt hk (by decide)) (by rw [e3]; exact xo_sh0 hk _ _ _) (by rw [e1]; rfl) ixo_S (by decide) hl rfl hd (kk)
theorem xr_S_hasImage (C : sm_Cx X cc nL own fr lo ret) (hw : xo_is (sm_w X)) {index k : Nat} (hk : xo_tag k = 0) (hl : Cond.fieldLink own index "SmokeGoesTo" "hasImage" "Z" ∈ sm_G) (hd : decode cc pc = .ok (.getfield index, 3)) {f : Int32 → Option β} (h : sm_b (σ.1 k 2) f = some z) (kk : ∀ v, f v = some z → sm_V X Q nL σ (pc + 3) lv (.int v :: st)) : sm_V X Q nL σ pc lv (.ref (sm_ad (sm_w X) k) :: st) := by
  obtain ⟨cA, e1, e2, e3, e4⟩ := hw
  exact sm_get C 2 (k := k) (by rw [e4]; exact xo_lt hk (by decide)) (by rw [e3]; exact xo_sh0 hk _ _ _) (by rw [e1]; rfl) ixo_S (by decide) hl rfl hd (kk _ h)
theorem xp_S_hasImage (C : sm_Cx X cc nL own fr lo ret) (hw : xo_is (sm_w X)) {index k : Nat} (hk : xo_tag k = 0) (hl : Cond.fieldLink own index "SmokeGoesTo" "hasImage" "Z" ∈ sm_G) (hd : decode cc pc = .ok (.putfield index, 3)) {f : sm_St → Option β} {v : Int32} (hv : v = 0 ∨ v = 1) (h : sm_b (sm_sI σ k 2 v) f = some z) (kk : ∀ s, f s = some z → sm_V X Q nL s (pc + 3) lv st) : sm_V X Q nL σ pc lv (.int v :: .ref (sm_ad (sm_w X) k) :: st) := by
  obtain ⟨cA, e1, e2, e3, e4⟩ := hw
  exact sm_put C 2 (k := k) (σ' := sm_sI σ k 2 v) (by rw [e4]; exact xo_lt hk (by decide)) (by rw [e3]; exact xo_sh0 hk _ _ _) (by rw [e1]; rfl) ixo_S kxo_S nxo_S (by decide) hl rfl rfl (by rcases hv with rfl | rfl <;> rfl) (by rcases hv with rfl | rfl <;> rfl) (Nat.le_of_ble_eq_true rfl) (by rw [e3, xo_sh0 hk, sm_sIk.1]; rfl) sm_sIo hd (kk _ h)
theorem xr_S_reader (C : sm_Cx X cc nL own fr lo ret) (hw : xo_is (sm_w X)) {index k : Nat} (hk : xo_tag k = 0) (hl : Cond.fieldLink own index "SmokeGoesTo" "reader" "LSmokeGoesTo$Reader;" ∈ sm_G) (hd : decode cc pc = .ok (.getfield index, 3)) (kk : sm_V X Q nL σ (pc + 3) lv (.ref (sm_ad (sm_w X) 13) :: st)) : sm_V X Q nL σ pc lv (.ref (sm_ad (sm_w X) k) :: st) := by
  obtain ⟨cA, e1, e2, e3, e4⟩ := hw
  exact sm_get C 3 (k := k) (by rw [e4]; exact xo_lt hk (by decide)) (by rw [e3]; exact xo_sh0 hk _ _ _) (by rw [e1]; rfl) ixo_S (by decide) hl rfl hd (kk)
theorem xr_S_texts (C : sm_Cx X cc nL own fr lo ret) (hw : xo_is (sm_w X)) {index k : Nat} (hk : xo_tag k = 0) (hl : Cond.fieldLink own index "SmokeGoesTo" "texts" "[LSmokeGoesTo$Text;" ∈ sm_G) (hd : decode cc pc = .ok (.getfield index, 3)) (kk : sm_V X Q nL σ (pc + 3) lv (.ref (sm_ad (sm_w X) 15) :: st)) : sm_V X Q nL σ pc lv (.ref (sm_ad (sm_w X) k) :: st) := by
  obtain ⟨cA, e1, e2, e3, e4⟩ := hw
  exact sm_get C 4 (k := k) (by rw [e4]; exact xo_lt hk (by decide)) (by rw [e3]; exact xo_sh0 hk _ _ _) (by rw [e1]; rfl) ixo_S (by decide) hl rfl hd (kk)
theorem xr_S_textCount (C : sm_Cx X cc nL own fr lo ret) (hw : xo_is (sm_w X)) {index k : Nat} (hk : xo_tag k = 0) (hl : Cond.fieldLink own index "SmokeGoesTo" "textCount" "I" ∈ sm_G) (hd : decode cc pc = .ok (.getfield index, 3)) {f : Int32 → Option β} (h : sm_b (σ.1 k 5) f = some z) (kk : ∀ v, f v = some z → sm_V X Q nL σ (pc + 3) lv (.int v :: st)) : sm_V X Q nL σ pc lv (.ref (sm_ad (sm_w X) k) :: st) := by
  obtain ⟨cA, e1, e2, e3, e4⟩ := hw
  exact sm_get C 5 (k := k) (by rw [e4]; exact xo_lt hk (by decide)) (by rw [e3]; exact xo_sh0 hk _ _ _) (by rw [e1]; rfl) ixo_S (by decide) hl rfl hd (kk _ h)
theorem xp_S_textCount (C : sm_Cx X cc nL own fr lo ret) (hw : xo_is (sm_w X)) {index k : Nat} (hk : xo_tag k = 0) (hl : Cond.fieldLink own index "SmokeGoesTo" "textCount" "I" ∈ sm_G) (hd : decode cc pc = .ok (.putfield index, 3)) {f : sm_St → Option β} {v : Int32} (h : sm_b (sm_sI σ k 5 v) f = some z) (kk : ∀ s, f s = some z → sm_V X Q nL s (pc + 3) lv st) : sm_V X Q nL σ pc lv (.int v :: .ref (sm_ad (sm_w X) k) :: st) := by
  obtain ⟨cA, e1, e2, e3, e4⟩ := hw
  exact sm_put C 5 (k := k) (σ' := sm_sI σ k 5 v) (by rw [e4]; exact xo_lt hk (by decide)) (by rw [e3]; exact xo_sh0 hk _ _ _) (by rw [e1]; rfl) ixo_S kxo_S nxo_S (by decide) hl rfl rfl rfl rfl (Nat.le_of_ble_eq_true rfl) (by rw [e3, xo_sh0 hk, sm_sIk.1]; rfl) sm_sIo hd (kk _ h)
theorem xr_S_sheets (C : sm_Cx X cc nL own fr lo ret) (hw : xo_is (sm_w X)) {index k : Nat} (hk : xo_tag k = 0) (hl : Cond.fieldLink own index "SmokeGoesTo" "sheets" "[LSmokeGoesTo$Sheet;" ∈ sm_G) (hd : decode cc pc = .ok (.getfield index, 3)) (kk : sm_V X Q nL σ (pc + 3) lv (.ref (sm_ad (sm_w X) 34) :: st)) : sm_V X Q nL σ pc lv (.ref (sm_ad (sm_w X) k) :: st) := by
  obtain ⟨cA, e1, e2, e3, e4⟩ := hw
  exact sm_get C 6 (k := k) (by rw [e4]; exact xo_lt hk (by decide)) (by rw [e3]; exact xo_sh0 hk _ _ _) (by rw [e1]; rfl) ixo_S (by decide) hl rfl hd (kk)
theorem xr_S_thought (C : sm_Cx X cc nL own fr lo ret) (hw : xo_is (sm_w X)) {index k : Nat} (hk : xo_tag k = 0) (hl : Cond.fieldLink own index "SmokeGoesTo" "thought" "LSmokeGoesTo$Night;" ∈ sm_G) (hd : decode cc pc = .ok (.getfield index, 3)) (kk : sm_V X Q nL σ (pc + 3) lv (.ref (sm_ad (sm_w X) 43) :: st)) : sm_V X Q nL σ pc lv (.ref (sm_ad (sm_w X) k) :: st) := by
  obtain ⟨cA, e1, e2, e3, e4⟩ := hw
  exact sm_get C 7 (k := k) (by rw [e4]; exact xo_lt hk (by decide)) (by rw [e3]; exact xo_sh0 hk _ _ _) (by rw [e1]; rfl) ixo_S (by decide) hl rfl hd (kk)
theorem xr_S_odds (C : sm_Cx X cc nL own fr lo ret) (hw : xo_is (sm_w X)) {index k : Nat} (hk : xo_tag k = 0) (hl : Cond.fieldLink own index "SmokeGoesTo" "odds" "LSmokeGoesTo$Odds;" ∈ sm_G) (hd : decode cc pc = .ok (.getfield index, 3)) (kk : sm_V X Q nL σ (pc + 3) lv (.ref (sm_ad (sm_w X) 52) :: st)) : sm_V X Q nL σ pc lv (.ref (sm_ad (sm_w X) k) :: st) := by
  obtain ⟨cA, e1, e2, e3, e4⟩ := hw
  exact sm_get C 8 (k := k) (by rw [e4]; exact xo_lt hk (by decide)) (by rw [e3]; exact xo_sh0 hk _ _ _) (by rw [e1]; rfl) ixo_S (by decide) hl rfl hd (kk)
theorem xob_Fire {w : sm_WD} {k : Nat} (hw : xo_is w) (hk : xo_tag k = 1) : sm_Ob w k "SmokeGoesTo$Fire" := by
  obtain ⟨cA, e1, e2, e3, e4⟩ := hw
  exact ⟨by rw [e4]; exact xo_lt hk (by decide), fun a b c => ⟨_, _, _, by rw [e3]; exact xo_sh1 hk a b c, by rw [e1]; rfl, rfl⟩⟩
theorem xr_Fire_smoke (C : sm_Cx X cc nL own fr lo ret) (hw : xo_is (sm_w X)) {index k : Nat} (hk : xo_tag k = 1) (hl : Cond.fieldLink own index "SmokeGoesTo$Fire" "smoke" "I" ∈ sm_G) (hd : decode cc pc = .ok (.getfield index, 3)) {f : Int32 → Option β} (h : sm_b (σ.1 k 0) f = some z) (kk : ∀ v, f v = some z → sm_V X Q nL σ (pc + 3) lv (.int v :: st)) : sm_V X Q nL σ pc lv (.ref (sm_ad (sm_w X) k) :: st) := by
  obtain ⟨cA, e1, e2, e3, e4⟩ := hw
  exact sm_get C 0 (k := k) (by rw [e4]; exact xo_lt hk (by decide)) (by rw [e3]; exact xo_sh1 hk _ _ _) (by rw [e1]; rfl) ixo_Fire (by decide) hl rfl hd (kk _ h)
theorem xp_Fire_smoke (C : sm_Cx X cc nL own fr lo ret) (hw : xo_is (sm_w X)) {index k : Nat} (hk : xo_tag k = 1) (hl : Cond.fieldLink own index "SmokeGoesTo$Fire" "smoke" "I" ∈ sm_G) (hd : decode cc pc = .ok (.putfield index, 3)) {f : sm_St → Option β} {v : Int32} (h : sm_b (sm_sI σ k 0 v) f = some z) (kk : ∀ s, f s = some z → sm_V X Q nL s (pc + 3) lv st) : sm_V X Q nL σ pc lv (.int v :: .ref (sm_ad (sm_w X) k) :: st) := by
  obtain ⟨cA, e1, e2, e3, e4⟩ := hw
  exact sm_put C 0 (k := k) (σ' := sm_sI σ k 0 v) (by rw [e4]; exact xo_lt hk (by decide)) (by rw [e3]; exact xo_sh1 hk _ _ _) (by rw [e1]; rfl) ixo_Fire kxo_Fire nxo_Fire (by decide) hl rfl rfl rfl rfl (Nat.le_of_ble_eq_true rfl) (by rw [e3, xo_sh1 hk, sm_sIk.1]; rfl) sm_sIo hd (kk _ h)
theorem xr_Fire_left (C : sm_Cx X cc nL own fr lo ret) (hw : xo_is (sm_w X)) {index k : Nat} (hk : xo_tag k = 1) (hl : Cond.fieldLink own index "SmokeGoesTo$Fire" "left" "I" ∈ sm_G) (hd : decode cc pc = .ok (.getfield index, 3)) {f : Int32 → Option β} (h : sm_b (σ.1 k 1) f = some z) (kk : ∀ v, f v = some z → sm_V X Q nL σ (pc + 3) lv (.int v :: st)) : sm_V X Q nL σ pc lv (.ref (sm_ad (sm_w X) k) :: st) := by
  obtain ⟨cA, e1, e2, e3, e4⟩ := hw
  exact sm_get C 1 (k := k) (by rw [e4]; exact xo_lt hk (by decide)) (by rw [e3]; exact xo_sh1 hk _ _ _) (by rw [e1]; rfl) ixo_Fire (by decide) hl rfl hd (kk _ h)
theorem xp_Fire_left (C : sm_Cx X cc nL own fr lo ret) (hw : xo_is (sm_w X)) {index k : Nat} (hk : xo_tag k = 1) (hl : Cond.fieldLink own index "SmokeGoesTo$Fire" "left" "I" ∈ sm_G) (hd : decode cc pc = .ok (.putfield index, 3)) {f : sm_St → Option β} {v : Int32} (h : sm_b (sm_sI σ k 1 v) f = some z) (kk : ∀ s, f s = some z → sm_V X Q nL s (pc + 3) lv st) : sm_V X Q nL σ pc lv (.int v :: .ref (sm_ad (sm_w X) k) :: st) := by
  obtain ⟨cA, e1, e2, e3, e4⟩ := hw
  exact sm_put C 1 (k := k) (σ' := sm_sI σ k 1 v) (by rw [e4]; exact xo_lt hk (by decide)) (by rw [e3]; exact xo_sh1 hk _ _ _) (by rw [e1]; rfl) ixo_Fire kxo_Fire nxo_Fire (by decide) hl rfl rfl rfl rfl (Nat.le_of_ble_eq_true rfl) (by rw [e3, xo_sh1 hk, sm_sIk.1]; rfl) sm_sIo hd (kk _ h)
theorem xr_Fire_right (C : sm_Cx X cc nL own fr lo ret) (hw : xo_is (sm_w X)) {index k : Nat} (hk : xo_tag k = 1) (hl : Cond.fieldLink own index "SmokeGoesTo$Fire" "right" "I" ∈ sm_G) (hd : decode cc pc = .ok (.getfield index, 3)) {f : Int32 → Option β} (h : sm_b (σ.1 k 2) f = some z) (kk : ∀ v, f v = some z → sm_V X Q nL σ (pc + 3) lv (.int v :: st)) : sm_V X Q nL σ pc lv (.ref (sm_ad (sm_w X) k) :: st) := by
  obtain ⟨cA, e1, e2, e3, e4⟩ := hw
  exact sm_get C 2 (k := k) (by rw [e4]; exact xo_lt hk (by decide)) (by rw [e3]; exact xo_sh1 hk _ _ _) (by rw [e1]; rfl) ixo_Fire (by decide) hl rfl hd (kk _ h)
theorem xp_Fire_right (C : sm_Cx X cc nL own fr lo ret) (hw : xo_is (sm_w X)) {index k : Nat} (hk : xo_tag k = 1) (hl : Cond.fieldLink own index "SmokeGoesTo$Fire" "right" "I" ∈ sm_G) (hd : decode cc pc = .ok (.putfield index, 3)) {f : sm_St → Option β} {v : Int32} (h : sm_b (sm_sI σ k 2 v) f = some z) (kk : ∀ s, f s = some z → sm_V X Q nL s (pc + 3) lv st) : sm_V X Q nL σ pc lv (.int v :: .ref (sm_ad (sm_w X) k) :: st) := by
  obtain ⟨cA, e1, e2, e3, e4⟩ := hw
  exact sm_put C 2 (k := k) (σ' := sm_sI σ k 2 v) (by rw [e4]; exact xo_lt hk (by decide)) (by rw [e3]; exact xo_sh1 hk _ _ _) (by rw [e1]; rfl) ixo_Fire kxo_Fire nxo_Fire (by decide) hl rfl rfl rfl rfl (Nat.le_of_ble_eq_true rfl) (by rw [e3, xo_sh1 hk, sm_sIk.1]; rfl) sm_sIo hd (kk _ h)
theorem xr_Fire_tents (C : sm_Cx X cc nL own fr lo ret) (hw : xo_is (sm_w X)) {index k : Nat} (hk : xo_tag k = 1) (hl : Cond.fieldLink own index "SmokeGoesTo$Fire" "tents" "I" ∈ sm_G) (hd : decode cc pc = .ok (.getfield index, 3)) {f : Int32 → Option β} (h : sm_b (σ.1 k 3) f = some z) (kk : ∀ v, f v = some z → sm_V X Q nL σ (pc + 3) lv (.int v :: st)) : sm_V X Q nL σ pc lv (.ref (sm_ad (sm_w X) k) :: st) := by
  obtain ⟨cA, e1, e2, e3, e4⟩ := hw
  exact sm_get C 3 (k := k) (by rw [e4]; exact xo_lt hk (by decide)) (by rw [e3]; exact xo_sh1 hk _ _ _) (by rw [e1]; rfl) ixo_Fire (by decide) hl rfl hd (kk _ h)
theorem xp_Fire_tents (C : sm_Cx X cc nL own fr lo ret) (hw : xo_is (sm_w X)) {index k : Nat} (hk : xo_tag k = 1) (hl : Cond.fieldLink own index "SmokeGoesTo$Fire" "tents" "I" ∈ sm_G) (hd : decode cc pc = .ok (.putfield index, 3)) {f : sm_St → Option β} {v : Int32} (h : sm_b (sm_sI σ k 3 v) f = some z) (kk : ∀ s, f s = some z → sm_V X Q nL s (pc + 3) lv st) : sm_V X Q nL σ pc lv (.int v :: .ref (sm_ad (sm_w X) k) :: st) := by
  obtain ⟨cA, e1, e2, e3, e4⟩ := hw
  exact sm_put C 3 (k := k) (σ' := sm_sI σ k 3 v) (by rw [e4]; exact xo_lt hk (by decide)) (by rw [e3]; exact xo_sh1 hk _ _ _) (by rw [e1]; rfl) ixo_Fire kxo_Fire nxo_Fire (by decide) hl rfl rfl rfl rfl (Nat.le_of_ble_eq_true rfl) (by rw [e3, xo_sh1 hk, sm_sIk.1]; rfl) sm_sIo hd (kk _ h)
theorem xr_Fire_eddy (C : sm_Cx X cc nL own fr lo ret) (hw : xo_is (sm_w X)) {index k : Nat} (hk : xo_tag k = 1) (hl : Cond.fieldLink own index "SmokeGoesTo$Fire" "eddy" "I" ∈ sm_G) (hd : decode cc pc = .ok (.getfield index, 3)) {f : Int32 → Option β} (h : sm_b (σ.1 k 4) f = some z) (kk : ∀ v, f v = some z → sm_V X Q nL σ (pc + 3) lv (.int v :: st)) : sm_V X Q nL σ pc lv (.ref (sm_ad (sm_w X) k) :: st) := by
  obtain ⟨cA, e1, e2, e3, e4⟩ := hw
  exact sm_get C 4 (k := k) (by rw [e4]; exact xo_lt hk (by decide)) (by rw [e3]; exact xo_sh1 hk _ _ _) (by rw [e1]; rfl) ixo_Fire (by decide) hl rfl hd (kk _ h)
theorem xp_Fire_eddy (C : sm_Cx X cc nL own fr lo ret) (hw : xo_is (sm_w X)) {index k : Nat} (hk : xo_tag k = 1) (hl : Cond.fieldLink own index "SmokeGoesTo$Fire" "eddy" "I" ∈ sm_G) (hd : decode cc pc = .ok (.putfield index, 3)) {f : sm_St → Option β} {v : Int32} (h : sm_b (sm_sI σ k 4 v) f = some z) (kk : ∀ s, f s = some z → sm_V X Q nL s (pc + 3) lv st) : sm_V X Q nL σ pc lv (.int v :: .ref (sm_ad (sm_w X) k) :: st) := by
  obtain ⟨cA, e1, e2, e3, e4⟩ := hw
  exact sm_put C 4 (k := k) (σ' := sm_sI σ k 4 v) (by rw [e4]; exact xo_lt hk (by decide)) (by rw [e3]; exact xo_sh1 hk _ _ _) (by rw [e1]; rfl) ixo_Fire kxo_Fire nxo_Fire (by decide) hl rfl rfl rfl rfl (Nat.le_of_ble_eq_true rfl) (by rw [e3, xo_sh1 hk, sm_sIk.1]; rfl) sm_sIo hd (kk _ h)
theorem xr_Fire_rule (C : sm_Cx X cc nL own fr lo ret) (hw : xo_is (sm_w X)) {index k : Nat} (hk : xo_tag k = 1) (hl : Cond.fieldLink own index "SmokeGoesTo$Fire" "rule" "I" ∈ sm_G) (hd : decode cc pc = .ok (.getfield index, 3)) {f : Int32 → Option β} (h : sm_b (σ.1 k 5) f = some z) (kk : ∀ v, f v = some z → sm_V X Q nL σ (pc + 3) lv (.int v :: st)) : sm_V X Q nL σ pc lv (.ref (sm_ad (sm_w X) k) :: st) := by
  obtain ⟨cA, e1, e2, e3, e4⟩ := hw
  exact sm_get C 5 (k := k) (by rw [e4]; exact xo_lt hk (by decide)) (by rw [e3]; exact xo_sh1 hk _ _ _) (by rw [e1]; rfl) ixo_Fire (by decide) hl rfl hd (kk _ h)
theorem xp_Fire_rule (C : sm_Cx X cc nL own fr lo ret) (hw : xo_is (sm_w X)) {index k : Nat} (hk : xo_tag k = 1) (hl : Cond.fieldLink own index "SmokeGoesTo$Fire" "rule" "I" ∈ sm_G) (hd : decode cc pc = .ok (.putfield index, 3)) {f : sm_St → Option β} {v : Int32} (h : sm_b (sm_sI σ k 5 v) f = some z) (kk : ∀ s, f s = some z → sm_V X Q nL s (pc + 3) lv st) : sm_V X Q nL σ pc lv (.int v :: .ref (sm_ad (sm_w X) k) :: st) := by
  obtain ⟨cA, e1, e2, e3, e4⟩ := hw
  exact sm_put C 5 (k := k) (σ' := sm_sI σ k 5 v) (by rw [e4]; exact xo_lt hk (by decide)) (by rw [e3]; exact xo_sh1 hk _ _ _) (by rw [e1]; rfl) ixo_Fire kxo_Fire nxo_Fire (by decide) hl rfl rfl rfl rfl (Nat.le_of_ble_eq_true rfl) (by rw [e3, xo_sh1 hk, sm_sIk.1]; rfl) sm_sIo hd (kk _ h)
theorem xr_Fire_size (C : sm_Cx X cc nL own fr lo ret) (hw : xo_is (sm_w X)) {index k : Nat} (hk : xo_tag k = 1) (hl : Cond.fieldLink own index "SmokeGoesTo$Fire" "size" "I" ∈ sm_G) (hd : decode cc pc = .ok (.getfield index, 3)) {f : Int32 → Option β} (h : sm_b (σ.1 k 6) f = some z) (kk : ∀ v, f v = some z → sm_V X Q nL σ (pc + 3) lv (.int v :: st)) : sm_V X Q nL σ pc lv (.ref (sm_ad (sm_w X) k) :: st) := by
  obtain ⟨cA, e1, e2, e3, e4⟩ := hw
  exact sm_get C 6 (k := k) (by rw [e4]; exact xo_lt hk (by decide)) (by rw [e3]; exact xo_sh1 hk _ _ _) (by rw [e1]; rfl) ixo_Fire (by decide) hl rfl hd (kk _ h)
theorem xp_Fire_size (C : sm_Cx X cc nL own fr lo ret) (hw : xo_is (sm_w X)) {index k : Nat} (hk : xo_tag k = 1) (hl : Cond.fieldLink own index "SmokeGoesTo$Fire" "size" "I" ∈ sm_G) (hd : decode cc pc = .ok (.putfield index, 3)) {f : sm_St → Option β} {v : Int32} (h : sm_b (sm_sI σ k 6 v) f = some z) (kk : ∀ s, f s = some z → sm_V X Q nL s (pc + 3) lv st) : sm_V X Q nL σ pc lv (.int v :: .ref (sm_ad (sm_w X) k) :: st) := by
  obtain ⟨cA, e1, e2, e3, e4⟩ := hw
  exact sm_put C 6 (k := k) (σ' := sm_sI σ k 6 v) (by rw [e4]; exact xo_lt hk (by decide)) (by rw [e3]; exact xo_sh1 hk _ _ _) (by rw [e1]; rfl) ixo_Fire kxo_Fire nxo_Fire (by decide) hl rfl rfl rfl rfl (Nat.le_of_ble_eq_true rfl) (by rw [e3, xo_sh1 hk, sm_sIk.1]; rfl) sm_sIo hd (kk _ h)
theorem xr_Fire_kinds (C : sm_Cx X cc nL own fr lo ret) (hw : xo_is (sm_w X)) {index k : Nat} (hk : xo_tag k = 1) (hl : Cond.fieldLink own index "SmokeGoesTo$Fire" "kinds" "[I" ∈ sm_G) (hd : decode cc pc = .ok (.getfield index, 3)) (kk : sm_V X Q nL σ (pc + 3) lv (.ref (sm_ad (sm_w X) (k + 3)) :: st)) : sm_V X Q nL σ pc lv (.ref (sm_ad (sm_w X) k) :: st) := by
  obtain ⟨cA, e1, e2, e3, e4⟩ := hw
  exact sm_get C 7 (k := k) (by rw [e4]; exact xo_lt hk (by decide)) (by rw [e3]; exact xo_sh1 hk _ _ _) (by rw [e1]; rfl) ixo_Fire (by decide) hl rfl hd (kk)
theorem xr_Fire_numbers (C : sm_Cx X cc nL own fr lo ret) (hw : xo_is (sm_w X)) {index k : Nat} (hk : xo_tag k = 1) (hl : Cond.fieldLink own index "SmokeGoesTo$Fire" "numbers" "[I" ∈ sm_G) (hd : decode cc pc = .ok (.getfield index, 3)) (kk : sm_V X Q nL σ (pc + 3) lv (.ref (sm_ad (sm_w X) (k + 6)) :: st)) : sm_V X Q nL σ pc lv (.ref (sm_ad (sm_w X) k) :: st) := by
  obtain ⟨cA, e1, e2, e3, e4⟩ := hw
  exact sm_get C 8 (k := k) (by rw [e4]; exact xo_lt hk (by decide)) (by rw [e3]; exact xo_sh1 hk _ _ _) (by rw [e1]; rfl) ixo_Fire (by decide) hl rfl hd (kk)
theorem xr_Fire_places (C : sm_Cx X cc nL own fr lo ret) (hw : xo_is (sm_w X)) {index k : Nat} (hk : xo_tag k = 1) (hl : Cond.fieldLink own index "SmokeGoesTo$Fire" "places" "[I" ∈ sm_G) (hd : decode cc pc = .ok (.getfield index, 3)) (kk : sm_V X Q nL σ (pc + 3) lv (.ref (sm_ad (sm_w X) (k + 9)) :: st)) : sm_V X Q nL σ pc lv (.ref (sm_ad (sm_w X) k) :: st) := by
  obtain ⟨cA, e1, e2, e3, e4⟩ := hw
  exact sm_get C 9 (k := k) (by rw [e4]; exact xo_lt hk (by decide)) (by rw [e3]; exact xo_sh1 hk _ _ _) (by rw [e1]; rfl) ixo_Fire (by decide) hl rfl hd (kk)
theorem xob_Reader {w : sm_WD} {k : Nat} (hw : xo_is w) (hk : xo_tag k = 2) : sm_Ob w k "SmokeGoesTo$Reader" := by
  obtain ⟨cA, e1, e2, e3, e4⟩ := hw
  exact ⟨by rw [e4]; exact xo_lt hk (by decide), fun a b c => ⟨_, _, _, by rw [e3]; exact xo_sh2 hk a b c, by rw [e1]; rfl, rfl⟩⟩
theorem xr_Reader_size (C : sm_Cx X cc nL own fr lo ret) (hw : xo_is (sm_w X)) {index k : Nat} (hk : xo_tag k = 2) (hl : Cond.fieldLink own index "SmokeGoesTo$Reader" "size" "I" ∈ sm_G) (hd : decode cc pc = .ok (.getfield index, 3)) {f : Int32 → Option β} (h : sm_b (σ.1 k 0) f = some z) (kk : ∀ v, f v = some z → sm_V X Q nL σ (pc + 3) lv (.int v :: st)) : sm_V X Q nL σ pc lv (.ref (sm_ad (sm_w X) k) :: st) := by
  obtain ⟨cA, e1, e2, e3, e4⟩ := hw
  exact sm_get C 0 (k := k) (by rw [e4]; exact xo_lt hk (by decide)) (by rw [e3]; exact xo_sh2 hk _ _ _) (by rw [e1]; rfl) ixo_Reader (by decide) hl rfl hd (kk _ h)
theorem xp_Reader_size (C : sm_Cx X cc nL own fr lo ret) (hw : xo_is (sm_w X)) {index k : Nat} (hk : xo_tag k = 2) (hl : Cond.fieldLink own index "SmokeGoesTo$Reader" "size" "I" ∈ sm_G) (hd : decode cc pc = .ok (.putfield index, 3)) {f : sm_St → Option β} {v : Int32} (h : sm_b (sm_sI σ k 0 v) f = some z) (kk : ∀ s, f s = some z → sm_V X Q nL s (pc + 3) lv st) : sm_V X Q nL σ pc lv (.int v :: .ref (sm_ad (sm_w X) k) :: st) := by
  obtain ⟨cA, e1, e2, e3, e4⟩ := hw
  exact sm_put C 0 (k := k) (σ' := sm_sI σ k 0 v) (by rw [e4]; exact xo_lt hk (by decide)) (by rw [e3]; exact xo_sh2 hk _ _ _) (by rw [e1]; rfl) ixo_Reader kxo_Reader nxo_Reader (by decide) hl rfl rfl rfl rfl (Nat.le_of_ble_eq_true rfl) (by rw [e3, xo_sh2 hk, sm_sIk.1]; rfl) sm_sIo hd (kk _ h)
theorem xr_Reader_tape (C : sm_Cx X cc nL own fr lo ret) (hw : xo_is (sm_w X)) {index k : Nat} (hk : xo_tag k = 2) (hl : Cond.fieldLink own index "SmokeGoesTo$Reader" "tape" "[I" ∈ sm_G) (hd : decode cc pc = .ok (.getfield index, 3)) (kk : sm_V X Q nL σ (pc + 3) lv (.ref (sm_ad (sm_w X) 14) :: st)) : sm_V X Q nL σ pc lv (.ref (sm_ad (sm_w X) k) :: st) := by
  obtain ⟨cA, e1, e2, e3, e4⟩ := hw
  exact sm_get C 1 (k := k) (by rw [e4]; exact xo_lt hk (by decide)) (by rw [e3]; exact xo_sh2 hk _ _ _) (by rw [e1]; rfl) ixo_Reader (by decide) hl rfl hd (kk)
theorem xr_Reader_token (C : sm_Cx X cc nL own fr lo ret) (hw : xo_is (sm_w X)) {index k : Nat} (hk : xo_tag k = 2) (hl : Cond.fieldLink own index "SmokeGoesTo$Reader" "token" "I" ∈ sm_G) (hd : decode cc pc = .ok (.getfield index, 3)) {f : Int32 → Option β} (h : sm_b (σ.1 k 2) f = some z) (kk : ∀ v, f v = some z → sm_V X Q nL σ (pc + 3) lv (.int v :: st)) : sm_V X Q nL σ pc lv (.ref (sm_ad (sm_w X) k) :: st) := by
  obtain ⟨cA, e1, e2, e3, e4⟩ := hw
  exact sm_get C 2 (k := k) (by rw [e4]; exact xo_lt hk (by decide)) (by rw [e3]; exact xo_sh2 hk _ _ _) (by rw [e1]; rfl) ixo_Reader (by decide) hl rfl hd (kk _ h)
theorem xp_Reader_token (C : sm_Cx X cc nL own fr lo ret) (hw : xo_is (sm_w X)) {index k : Nat} (hk : xo_tag k = 2) (hl : Cond.fieldLink own index "SmokeGoesTo$Reader" "token" "I" ∈ sm_G) (hd : decode cc pc = .ok (.putfield index, 3)) {f : sm_St → Option β} {v : Int32} (h : sm_b (sm_sI σ k 2 v) f = some z) (kk : ∀ s, f s = some z → sm_V X Q nL s (pc + 3) lv st) : sm_V X Q nL σ pc lv (.int v :: .ref (sm_ad (sm_w X) k) :: st) := by
  obtain ⟨cA, e1, e2, e3, e4⟩ := hw
  exact sm_put C 2 (k := k) (σ' := sm_sI σ k 2 v) (by rw [e4]; exact xo_lt hk (by decide)) (by rw [e3]; exact xo_sh2 hk _ _ _) (by rw [e1]; rfl) ixo_Reader kxo_Reader nxo_Reader (by decide) hl rfl rfl rfl rfl (Nat.le_of_ble_eq_true rfl) (by rw [e3, xo_sh2 hk, sm_sIk.1]; rfl) sm_sIo hd (kk _ h)
theorem xr_Reader_tokenStart (C : sm_Cx X cc nL own fr lo ret) (hw : xo_is (sm_w X)) {index k : Nat} (hk : xo_tag k = 2) (hl : Cond.fieldLink own index "SmokeGoesTo$Reader" "tokenStart" "I" ∈ sm_G) (hd : decode cc pc = .ok (.getfield index, 3)) {f : Int32 → Option β} (h : sm_b (σ.1 k 3) f = some z) (kk : ∀ v, f v = some z → sm_V X Q nL σ (pc + 3) lv (.int v :: st)) : sm_V X Q nL σ pc lv (.ref (sm_ad (sm_w X) k) :: st) := by
  obtain ⟨cA, e1, e2, e3, e4⟩ := hw
  exact sm_get C 3 (k := k) (by rw [e4]; exact xo_lt hk (by decide)) (by rw [e3]; exact xo_sh2 hk _ _ _) (by rw [e1]; rfl) ixo_Reader (by decide) hl rfl hd (kk _ h)
theorem xp_Reader_tokenStart (C : sm_Cx X cc nL own fr lo ret) (hw : xo_is (sm_w X)) {index k : Nat} (hk : xo_tag k = 2) (hl : Cond.fieldLink own index "SmokeGoesTo$Reader" "tokenStart" "I" ∈ sm_G) (hd : decode cc pc = .ok (.putfield index, 3)) {f : sm_St → Option β} {v : Int32} (h : sm_b (sm_sI σ k 3 v) f = some z) (kk : ∀ s, f s = some z → sm_V X Q nL s (pc + 3) lv st) : sm_V X Q nL σ pc lv (.int v :: .ref (sm_ad (sm_w X) k) :: st) := by
  obtain ⟨cA, e1, e2, e3, e4⟩ := hw
  exact sm_put C 3 (k := k) (σ' := sm_sI σ k 3 v) (by rw [e4]; exact xo_lt hk (by decide)) (by rw [e3]; exact xo_sh2 hk _ _ _) (by rw [e1]; rfl) ixo_Reader kxo_Reader nxo_Reader (by decide) hl rfl rfl rfl rfl (Nat.le_of_ble_eq_true rfl) (by rw [e3, xo_sh2 hk, sm_sIk.1]; rfl) sm_sIo hd (kk _ h)
theorem xr_Reader_next (C : sm_Cx X cc nL own fr lo ret) (hw : xo_is (sm_w X)) {index k : Nat} (hk : xo_tag k = 2) (hl : Cond.fieldLink own index "SmokeGoesTo$Reader" "next" "I" ∈ sm_G) (hd : decode cc pc = .ok (.getfield index, 3)) {f : Int32 → Option β} (h : sm_b (σ.1 k 4) f = some z) (kk : ∀ v, f v = some z → sm_V X Q nL σ (pc + 3) lv (.int v :: st)) : sm_V X Q nL σ pc lv (.ref (sm_ad (sm_w X) k) :: st) := by
  obtain ⟨cA, e1, e2, e3, e4⟩ := hw
  exact sm_get C 4 (k := k) (by rw [e4]; exact xo_lt hk (by decide)) (by rw [e3]; exact xo_sh2 hk _ _ _) (by rw [e1]; rfl) ixo_Reader (by decide) hl rfl hd (kk _ h)
theorem xp_Reader_next (C : sm_Cx X cc nL own fr lo ret) (hw : xo_is (sm_w X)) {index k : Nat} (hk : xo_tag k = 2) (hl : Cond.fieldLink own index "SmokeGoesTo$Reader" "next" "I" ∈ sm_G) (hd : decode cc pc = .ok (.putfield index, 3)) {f : sm_St → Option β} {v : Int32} (h : sm_b (sm_sI σ k 4 v) f = some z) (kk : ∀ s, f s = some z → sm_V X Q nL s (pc + 3) lv st) : sm_V X Q nL σ pc lv (.int v :: .ref (sm_ad (sm_w X) k) :: st) := by
  obtain ⟨cA, e1, e2, e3, e4⟩ := hw
  exact sm_put C 4 (k := k) (σ' := sm_sI σ k 4 v) (by rw [e4]; exact xo_lt hk (by decide)) (by rw [e3]; exact xo_sh2 hk _ _ _) (by rw [e1]; rfl) ixo_Reader kxo_Reader nxo_Reader (by decide) hl rfl rfl rfl rfl (Nat.le_of_ble_eq_true rfl) (by rw [e3, xo_sh2 hk, sm_sIk.1]; rfl) sm_sIo hd (kk _ h)
theorem xr_Reader_number (C : sm_Cx X cc nL own fr lo ret) (hw : xo_is (sm_w X)) {index k : Nat} (hk : xo_tag k = 2) (hl : Cond.fieldLink own index "SmokeGoesTo$Reader" "number" "I" ∈ sm_G) (hd : decode cc pc = .ok (.getfield index, 3)) {f : Int32 → Option β} (h : sm_b (σ.1 k 5) f = some z) (kk : ∀ v, f v = some z → sm_V X Q nL σ (pc + 3) lv (.int v :: st)) : sm_V X Q nL σ pc lv (.ref (sm_ad (sm_w X) k) :: st) := by
  obtain ⟨cA, e1, e2, e3, e4⟩ := hw
  exact sm_get C 5 (k := k) (by rw [e4]; exact xo_lt hk (by decide)) (by rw [e3]; exact xo_sh2 hk _ _ _) (by rw [e1]; rfl) ixo_Reader (by decide) hl rfl hd (kk _ h)
theorem xp_Reader_number (C : sm_Cx X cc nL own fr lo ret) (hw : xo_is (sm_w X)) {index k : Nat} (hk : xo_tag k = 2) (hl : Cond.fieldLink own index "SmokeGoesTo$Reader" "number" "I" ∈ sm_G) (hd : decode cc pc = .ok (.putfield index, 3)) {f : sm_St → Option β} {v : Int32} (h : sm_b (sm_sI σ k 5 v) f = some z) (kk : ∀ s, f s = some z → sm_V X Q nL s (pc + 3) lv st) : sm_V X Q nL σ pc lv (.int v :: .ref (sm_ad (sm_w X) k) :: st) := by
  obtain ⟨cA, e1, e2, e3, e4⟩ := hw
  exact sm_put C 5 (k := k) (σ' := sm_sI σ k 5 v) (by rw [e4]; exact xo_lt hk (by decide)) (by rw [e3]; exact xo_sh2 hk _ _ _) (by rw [e1]; rfl) ixo_Reader kxo_Reader nxo_Reader (by decide) hl rfl rfl rfl rfl (Nat.le_of_ble_eq_true rfl) (by rw [e3, xo_sh2 hk, sm_sIk.1]; rfl) sm_sIo hd (kk _ h)
theorem xr_Reader_out (C : sm_Cx X cc nL own fr lo ret) (hw : xo_is (sm_w X)) {index k : Nat} (hk : xo_tag k = 2) (hl : Cond.fieldLink own index "SmokeGoesTo$Reader" "out" "LSmokeGoesTo$Text;" ∈ sm_G) (hd : decode cc pc = .ok (.getfield index, 3)) {f : Option Nat → Option β} (h : sm_b (σ.2.2 k 6) f = some z) (kk : ∀ r, f r = some z → sm_V X Q nL σ (pc + 3) lv (va_rf (r.map (sm_ad (sm_w X))) :: st)) : sm_V X Q nL σ pc lv (.ref (sm_ad (sm_w X) k) :: st) := by
  obtain ⟨cA, e1, e2, e3, e4⟩ := hw
  exact sm_get C 6 (k := k) (by rw [e4]; exact xo_lt hk (by decide)) (by rw [e3]; exact xo_sh2 hk _ _ _) (by rw [e1]; rfl) ixo_Reader (by decide) hl rfl hd (kk _ h)
theorem xp_Reader_out (C : sm_Cx X cc nL own fr lo ret) (hw : xo_is (sm_w X)) {index k : Nat} (hk : xo_tag k = 2) (hl : Cond.fieldLink own index "SmokeGoesTo$Reader" "out" "LSmokeGoesTo$Text;" ∈ sm_G) (hd : decode cc pc = .ok (.putfield index, 3)) {f : sm_St → Option β} {r : Option Nat} (h : sm_b (sm_sR σ k 6 r) f = some z) (kk : ∀ s, f s = some z → sm_V X Q nL s (pc + 3) lv st) : sm_V X Q nL σ pc lv (va_rf (r.map (sm_ad (sm_w X))) :: .ref (sm_ad (sm_w X) k) :: st) := by
  obtain ⟨cA, e1, e2, e3, e4⟩ := hw
  exact sm_put C 6 (k := k) (σ' := sm_sR σ k 6 r) (by rw [e4]; exact xo_lt hk (by decide)) (by rw [e3]; exact xo_sh2 hk _ _ _) (by rw [e1]; rfl) ixo_Reader kxo_Reader nxo_Reader (by decide) hl rfl rfl (by cases r <;> rfl) (by cases r <;> rfl) (Nat.le_of_ble_eq_true rfl) (by rw [e3, xo_sh2 hk, sm_sRk.2.2]; rfl) sm_sRo hd (kk _ h)
theorem xob_Text {w : sm_WD} {k : Nat} (hw : xo_is w) (hk : xo_tag k = 3) : sm_Ob w k "SmokeGoesTo$Text" := by
  obtain ⟨cA, e1, e2, e3, e4⟩ := hw
  exact ⟨by rw [e4]; exact xo_lt hk (by decide), fun a b c => ⟨_, _, _, by rw [e3]; exact xo_sh3 hk a b c, by rw [e1]; rfl, rfl⟩⟩
theorem xr_Text_code (C : sm_Cx X cc nL own fr lo ret) (hw : xo_is (sm_w X)) {index k : Nat} (hk : xo_tag k = 3) (hl : Cond.fieldLink own index "SmokeGoesTo$Text" "code" "[I" ∈ sm_G) (hd : decode cc pc = .ok (.getfield index, 3)) (kk : sm_V X Q nL σ (pc + 3) lv (.ref (sm_ad (sm_w X) (k + 6)) :: st)) : sm_V X Q nL σ pc lv (.ref (sm_ad (sm_w X) k) :: st) := by
  obtain ⟨cA, e1, e2, e3, e4⟩ := hw
  exact sm_get C 0 (k := k) (by rw [e4]; exact xo_lt hk (by decide)) (by rw [e3]; exact xo_sh3 hk _ _ _) (by rw [e1]; rfl) ixo_Text (by decide) hl rfl hd (kk)
theorem xr_Text_ends (C : sm_Cx X cc nL own fr lo ret) (hw : xo_is (sm_w X)) {index k : Nat} (hk : xo_tag k = 3) (hl : Cond.fieldLink own index "SmokeGoesTo$Text" "ends" "[I" ∈ sm_G) (hd : decode cc pc = .ok (.getfield index, 3)) (kk : sm_V X Q nL σ (pc + 3) lv (.ref (sm_ad (sm_w X) (k + 12)) :: st)) : sm_V X Q nL σ pc lv (.ref (sm_ad (sm_w X) k) :: st) := by
  obtain ⟨cA, e1, e2, e3, e4⟩ := hw
  exact sm_get C 1 (k := k) (by rw [e4]; exact xo_lt hk (by decide)) (by rw [e3]; exact xo_sh3 hk _ _ _) (by rw [e1]; rfl) ixo_Text (by decide) hl rfl hd (kk)
theorem xr_Text_size (C : sm_Cx X cc nL own fr lo ret) (hw : xo_is (sm_w X)) {index k : Nat} (hk : xo_tag k = 3) (hl : Cond.fieldLink own index "SmokeGoesTo$Text" "size" "I" ∈ sm_G) (hd : decode cc pc = .ok (.getfield index, 3)) {f : Int32 → Option β} (h : sm_b (σ.1 k 2) f = some z) (kk : ∀ v, f v = some z → sm_V X Q nL σ (pc + 3) lv (.int v :: st)) : sm_V X Q nL σ pc lv (.ref (sm_ad (sm_w X) k) :: st) := by
  obtain ⟨cA, e1, e2, e3, e4⟩ := hw
  exact sm_get C 2 (k := k) (by rw [e4]; exact xo_lt hk (by decide)) (by rw [e3]; exact xo_sh3 hk _ _ _) (by rw [e1]; rfl) ixo_Text (by decide) hl rfl hd (kk _ h)
theorem xp_Text_size (C : sm_Cx X cc nL own fr lo ret) (hw : xo_is (sm_w X)) {index k : Nat} (hk : xo_tag k = 3) (hl : Cond.fieldLink own index "SmokeGoesTo$Text" "size" "I" ∈ sm_G) (hd : decode cc pc = .ok (.putfield index, 3)) {f : sm_St → Option β} {v : Int32} (h : sm_b (sm_sI σ k 2 v) f = some z) (kk : ∀ s, f s = some z → sm_V X Q nL s (pc + 3) lv st) : sm_V X Q nL σ pc lv (.int v :: .ref (sm_ad (sm_w X) k) :: st) := by
  obtain ⟨cA, e1, e2, e3, e4⟩ := hw
  exact sm_put C 2 (k := k) (σ' := sm_sI σ k 2 v) (by rw [e4]; exact xo_lt hk (by decide)) (by rw [e3]; exact xo_sh3 hk _ _ _) (by rw [e1]; rfl) ixo_Text kxo_Text nxo_Text (by decide) hl rfl rfl rfl rfl (Nat.le_of_ble_eq_true rfl) (by rw [e3, xo_sh3 hk, sm_sIk.1]; rfl) sm_sIo hd (kk _ h)
theorem xob_Sheet {w : sm_WD} {k : Nat} (hw : xo_is w) (hk : xo_tag k = 4) : sm_Ob w k "SmokeGoesTo$Sheet" := by
  obtain ⟨cA, e1, e2, e3, e4⟩ := hw
  exact ⟨by rw [e4]; exact xo_lt hk (by decide), fun a b c => ⟨_, _, _, by rw [e3]; exact xo_sh4 hk a b c, by rw [e1]; rfl, rfl⟩⟩
theorem xr_Sheet_sort (C : sm_Cx X cc nL own fr lo ret) (hw : xo_is (sm_w X)) {index k : Nat} (hk : xo_tag k = 4) (hl : Cond.fieldLink own index "SmokeGoesTo$Sheet" "sort" "I" ∈ sm_G) (hd : decode cc pc = .ok (.getfield index, 3)) {f : Int32 → Option β} (h : sm_b (σ.1 k 0) f = some z) (kk : ∀ v, f v = some z → sm_V X Q nL σ (pc + 3) lv (.int v :: st)) : sm_V X Q nL σ pc lv (.ref (sm_ad (sm_w X) k) :: st) := by
  obtain ⟨cA, e1, e2, e3, e4⟩ := hw
  exact sm_get C 0 (k := k) (by rw [e4]; exact xo_lt hk (by decide)) (by rw [e3]; exact xo_sh4 hk _ _ _) (by rw [e1]; rfl) ixo_Sheet (by decide) hl rfl hd (kk _ h)
theorem xp_Sheet_sort (C : sm_Cx X cc nL own fr lo ret) (hw : xo_is (sm_w X)) {index k : Nat} (hk : xo_tag k = 4) (hl : Cond.fieldLink own index "SmokeGoesTo$Sheet" "sort" "I" ∈ sm_G) (hd : decode cc pc = .ok (.putfield index, 3)) {f : sm_St → Option β} {v : Int32} (h : sm_b (sm_sI σ k 0 v) f = some z) (kk : ∀ s, f s = some z → sm_V X Q nL s (pc + 3) lv st) : sm_V X Q nL σ pc lv (.int v :: .ref (sm_ad (sm_w X) k) :: st) := by
  obtain ⟨cA, e1, e2, e3, e4⟩ := hw
  exact sm_put C 0 (k := k) (σ' := sm_sI σ k 0 v) (by rw [e4]; exact xo_lt hk (by decide)) (by rw [e3]; exact xo_sh4 hk _ _ _) (by rw [e1]; rfl) ixo_Sheet kxo_Sheet nxo_Sheet (by decide) hl rfl rfl rfl rfl (Nat.le_of_ble_eq_true rfl) (by rw [e3, xo_sh4 hk, sm_sIk.1]; rfl) sm_sIo hd (kk _ h)
theorem xr_Sheet_size (C : sm_Cx X cc nL own fr lo ret) (hw : xo_is (sm_w X)) {index k : Nat} (hk : xo_tag k = 4) (hl : Cond.fieldLink own index "SmokeGoesTo$Sheet" "size" "I" ∈ sm_G) (hd : decode cc pc = .ok (.getfield index, 3)) {f : Int32 → Option β} (h : sm_b (σ.1 k 1) f = some z) (kk : ∀ v, f v = some z → sm_V X Q nL σ (pc + 3) lv (.int v :: st)) : sm_V X Q nL σ pc lv (.ref (sm_ad (sm_w X) k) :: st) := by
  obtain ⟨cA, e1, e2, e3, e4⟩ := hw
  exact sm_get C 1 (k := k) (by rw [e4]; exact xo_lt hk (by decide)) (by rw [e3]; exact xo_sh4 hk _ _ _) (by rw [e1]; rfl) ixo_Sheet (by decide) hl rfl hd (kk _ h)
theorem xp_Sheet_size (C : sm_Cx X cc nL own fr lo ret) (hw : xo_is (sm_w X)) {index k : Nat} (hk : xo_tag k = 4) (hl : Cond.fieldLink own index "SmokeGoesTo$Sheet" "size" "I" ∈ sm_G) (hd : decode cc pc = .ok (.putfield index, 3)) {f : sm_St → Option β} {v : Int32} (h : sm_b (sm_sI σ k 1 v) f = some z) (kk : ∀ s, f s = some z → sm_V X Q nL s (pc + 3) lv st) : sm_V X Q nL σ pc lv (.int v :: .ref (sm_ad (sm_w X) k) :: st) := by
  obtain ⟨cA, e1, e2, e3, e4⟩ := hw
  exact sm_put C 1 (k := k) (σ' := sm_sI σ k 1 v) (by rw [e4]; exact xo_lt hk (by decide)) (by rw [e3]; exact xo_sh4 hk _ _ _) (by rw [e1]; rfl) ixo_Sheet kxo_Sheet nxo_Sheet (by decide) hl rfl rfl rfl rfl (Nat.le_of_ble_eq_true rfl) (by rw [e3, xo_sh4 hk, sm_sIk.1]; rfl) sm_sIo hd (kk _ h)
theorem xr_Sheet_items (C : sm_Cx X cc nL own fr lo ret) (hw : xo_is (sm_w X)) {index k : Nat} (hk : xo_tag k = 4) (hl : Cond.fieldLink own index "SmokeGoesTo$Sheet" "items" "[I" ∈ sm_G) (hd : decode cc pc = .ok (.getfield index, 3)) (kk : sm_V X Q nL σ (pc + 3) lv (.ref (sm_ad (sm_w X) (k + 4)) :: st)) : sm_V X Q nL σ pc lv (.ref (sm_ad (sm_w X) k) :: st) := by
  obtain ⟨cA, e1, e2, e3, e4⟩ := hw
  exact sm_get C 2 (k := k) (by rw [e4]; exact xo_lt hk (by decide)) (by rw [e3]; exact xo_sh4 hk _ _ _) (by rw [e1]; rfl) ixo_Sheet (by decide) hl rfl hd (kk)
theorem xob_Night {w : sm_WD} {k : Nat} (hw : xo_is w) (hk : xo_tag k = 5) : sm_Ob w k "SmokeGoesTo$Night" := by
  obtain ⟨cA, e1, e2, e3, e4⟩ := hw
  exact ⟨by rw [e4]; exact xo_lt hk (by decide), fun a b c => ⟨_, _, _, by rw [e3]; exact xo_sh5 hk a b c, by rw [e1]; rfl, rfl⟩⟩
theorem xr_Night_now (C : sm_Cx X cc nL own fr lo ret) (hw : xo_is (sm_w X)) {index k : Nat} (hk : xo_tag k = 5) (hl : Cond.fieldLink own index "SmokeGoesTo$Night" "now" "LSmokeGoesTo$Fire;" ∈ sm_G) (hd : decode cc pc = .ok (.getfield index, 3)) (kk : sm_V X Q nL σ (pc + 3) lv (.ref (sm_ad (sm_w X) 3) :: st)) : sm_V X Q nL σ pc lv (.ref (sm_ad (sm_w X) k) :: st) := by
  obtain ⟨cA, e1, e2, e3, e4⟩ := hw
  exact sm_get C 0 (k := k) (by rw [e4]; exact xo_lt hk (by decide)) (by rw [e3]; exact xo_sh5 hk _ _ _) (by rw [e1]; rfl) ixo_Night (by decide) hl rfl hd (kk)
theorem xr_Night_costs (C : sm_Cx X cc nL own fr lo ret) (hw : xo_is (sm_w X)) {index k : Nat} (hk : xo_tag k = 5) (hl : Cond.fieldLink own index "SmokeGoesTo$Night" "costs" "[I" ∈ sm_G) (hd : decode cc pc = .ok (.getfield index, 3)) (kk : sm_V X Q nL σ (pc + 3) lv (.ref (sm_ad (sm_w X) 44) :: st)) : sm_V X Q nL σ pc lv (.ref (sm_ad (sm_w X) k) :: st) := by
  obtain ⟨cA, e1, e2, e3, e4⟩ := hw
  exact sm_get C 1 (k := k) (by rw [e4]; exact xo_lt hk (by decide)) (by rw [e3]; exact xo_sh5 hk _ _ _) (by rw [e1]; rfl) ixo_Night (by decide) hl rfl hd (kk)
theorem xr_Night_smoked (C : sm_Cx X cc nL own fr lo ret) (hw : xo_is (sm_w X)) {index k : Nat} (hk : xo_tag k = 5) (hl : Cond.fieldLink own index "SmokeGoesTo$Night" "smoked" "[I" ∈ sm_G) (hd : decode cc pc = .ok (.getfield index, 3)) (kk : sm_V X Q nL σ (pc + 3) lv (.ref (sm_ad (sm_w X) 45) :: st)) : sm_V X Q nL σ pc lv (.ref (sm_ad (sm_w X) k) :: st) := by
  obtain ⟨cA, e1, e2, e3, e4⟩ := hw
  exact sm_get C 2 (k := k) (by rw [e4]; exact xo_lt hk (by decide)) (by rw [e3]; exact xo_sh5 hk _ _ _) (by rw [e1]; rfl) ixo_Night (by decide) hl rfl hd (kk)
theorem xr_Night_winds (C : sm_Cx X cc nL own fr lo ret) (hw : xo_is (sm_w X)) {index k : Nat} (hk : xo_tag k = 5) (hl : Cond.fieldLink own index "SmokeGoesTo$Night" "winds" "[I" ∈ sm_G) (hd : decode cc pc = .ok (.getfield index, 3)) (kk : sm_V X Q nL σ (pc + 3) lv (.ref (sm_ad (sm_w X) 46) :: st)) : sm_V X Q nL σ pc lv (.ref (sm_ad (sm_w X) k) :: st) := by
  obtain ⟨cA, e1, e2, e3, e4⟩ := hw
  exact sm_get C 3 (k := k) (by rw [e4]; exact xo_lt hk (by decide)) (by rw [e3]; exact xo_sh5 hk _ _ _) (by rw [e1]; rfl) ixo_Night (by decide) hl rfl hd (kk)
theorem xr_Night_longest (C : sm_Cx X cc nL own fr lo ret) (hw : xo_is (sm_w X)) {index k : Nat} (hk : xo_tag k = 5) (hl : Cond.fieldLink own index "SmokeGoesTo$Night" "longest" "[I" ∈ sm_G) (hd : decode cc pc = .ok (.getfield index, 3)) (kk : sm_V X Q nL σ (pc + 3) lv (.ref (sm_ad (sm_w X) 47) :: st)) : sm_V X Q nL σ pc lv (.ref (sm_ad (sm_w X) k) :: st) := by
  obtain ⟨cA, e1, e2, e3, e4⟩ := hw
  exact sm_get C 4 (k := k) (by rw [e4]; exact xo_lt hk (by decide)) (by rw [e3]; exact xo_sh5 hk _ _ _) (by rw [e1]; rfl) ixo_Night (by decide) hl rfl hd (kk)
theorem xr_Night_ups (C : sm_Cx X cc nL own fr lo ret) (hw : xo_is (sm_w X)) {index k : Nat} (hk : xo_tag k = 5) (hl : Cond.fieldLink own index "SmokeGoesTo$Night" "ups" "[I" ∈ sm_G) (hd : decode cc pc = .ok (.getfield index, 3)) (kk : sm_V X Q nL σ (pc + 3) lv (.ref (sm_ad (sm_w X) 48) :: st)) : sm_V X Q nL σ pc lv (.ref (sm_ad (sm_w X) k) :: st) := by
  obtain ⟨cA, e1, e2, e3, e4⟩ := hw
  exact sm_get C 5 (k := k) (by rw [e4]; exact xo_lt hk (by decide)) (by rw [e3]; exact xo_sh5 hk _ _ _) (by rw [e1]; rfl) ixo_Night (by decide) hl rfl hd (kk)
theorem xr_Night_longs (C : sm_Cx X cc nL own fr lo ret) (hw : xo_is (sm_w X)) {index k : Nat} (hk : xo_tag k = 5) (hl : Cond.fieldLink own index "SmokeGoesTo$Night" "longs" "[I" ∈ sm_G) (hd : decode cc pc = .ok (.getfield index, 3)) (kk : sm_V X Q nL σ (pc + 3) lv (.ref (sm_ad (sm_w X) 49) :: st)) : sm_V X Q nL σ pc lv (.ref (sm_ad (sm_w X) k) :: st) := by
  obtain ⟨cA, e1, e2, e3, e4⟩ := hw
  exact sm_get C 6 (k := k) (by rw [e4]; exact xo_lt hk (by decide)) (by rw [e3]; exact xo_sh5 hk _ _ _) (by rw [e1]; rfl) ixo_Night (by decide) hl rfl hd (kk)
theorem xr_Night_names (C : sm_Cx X cc nL own fr lo ret) (hw : xo_is (sm_w X)) {index k : Nat} (hk : xo_tag k = 5) (hl : Cond.fieldLink own index "SmokeGoesTo$Night" "names" "[I" ∈ sm_G) (hd : decode cc pc = .ok (.getfield index, 3)) (kk : sm_V X Q nL σ (pc + 3) lv (.ref (sm_ad (sm_w X) 50) :: st)) : sm_V X Q nL σ pc lv (.ref (sm_ad (sm_w X) k) :: st) := by
  obtain ⟨cA, e1, e2, e3, e4⟩ := hw
  exact sm_get C 7 (k := k) (by rw [e4]; exact xo_lt hk (by decide)) (by rw [e3]; exact xo_sh5 hk _ _ _) (by rw [e1]; rfl) ixo_Night (by decide) hl rfl hd (kk)
theorem xr_Night_stack (C : sm_Cx X cc nL own fr lo ret) (hw : xo_is (sm_w X)) {index k : Nat} (hk : xo_tag k = 5) (hl : Cond.fieldLink own index "SmokeGoesTo$Night" "stack" "[I" ∈ sm_G) (hd : decode cc pc = .ok (.getfield index, 3)) (kk : sm_V X Q nL σ (pc + 3) lv (.ref (sm_ad (sm_w X) 51) :: st)) : sm_V X Q nL σ pc lv (.ref (sm_ad (sm_w X) k) :: st) := by
  obtain ⟨cA, e1, e2, e3, e4⟩ := hw
  exact sm_get C 8 (k := k) (by rw [e4]; exact xo_lt hk (by decide)) (by rw [e3]; exact xo_sh5 hk _ _ _) (by rw [e1]; rfl) ixo_Night (by decide) hl rfl hd (kk)
theorem xr_Night_minutes (C : sm_Cx X cc nL own fr lo ret) (hw : xo_is (sm_w X)) {index k : Nat} (hk : xo_tag k = 5) (hl : Cond.fieldLink own index "SmokeGoesTo$Night" "minutes" "I" ∈ sm_G) (hd : decode cc pc = .ok (.getfield index, 3)) {f : Int32 → Option β} (h : sm_b (σ.1 k 9) f = some z) (kk : ∀ v, f v = some z → sm_V X Q nL σ (pc + 3) lv (.int v :: st)) : sm_V X Q nL σ pc lv (.ref (sm_ad (sm_w X) k) :: st) := by
  obtain ⟨cA, e1, e2, e3, e4⟩ := hw
  exact sm_get C 9 (k := k) (by rw [e4]; exact xo_lt hk (by decide)) (by rw [e3]; exact xo_sh5 hk _ _ _) (by rw [e1]; rfl) ixo_Night (by decide) hl rfl hd (kk _ h)
theorem xp_Night_minutes (C : sm_Cx X cc nL own fr lo ret) (hw : xo_is (sm_w X)) {index k : Nat} (hk : xo_tag k = 5) (hl : Cond.fieldLink own index "SmokeGoesTo$Night" "minutes" "I" ∈ sm_G) (hd : decode cc pc = .ok (.putfield index, 3)) {f : sm_St → Option β} {v : Int32} (h : sm_b (sm_sI σ k 9 v) f = some z) (kk : ∀ s, f s = some z → sm_V X Q nL s (pc + 3) lv st) : sm_V X Q nL σ pc lv (.int v :: .ref (sm_ad (sm_w X) k) :: st) := by
  obtain ⟨cA, e1, e2, e3, e4⟩ := hw
  exact sm_put C 9 (k := k) (σ' := sm_sI σ k 9 v) (by rw [e4]; exact xo_lt hk (by decide)) (by rw [e3]; exact xo_sh5 hk _ _ _) (by rw [e1]; rfl) ixo_Night kxo_Night nxo_Night (by decide) hl rfl rfl rfl rfl (Nat.le_of_ble_eq_true rfl) (by rw [e3, xo_sh5 hk, sm_sIk.1]; rfl) sm_sIo hd (kk _ h)
theorem xr_Night_needless (C : sm_Cx X cc nL own fr lo ret) (hw : xo_is (sm_w X)) {index k : Nat} (hk : xo_tag k = 5) (hl : Cond.fieldLink own index "SmokeGoesTo$Night" "needless" "I" ∈ sm_G) (hd : decode cc pc = .ok (.getfield index, 3)) {f : Int32 → Option β} (h : sm_b (σ.1 k 10) f = some z) (kk : ∀ v, f v = some z → sm_V X Q nL σ (pc + 3) lv (.int v :: st)) : sm_V X Q nL σ pc lv (.ref (sm_ad (sm_w X) k) :: st) := by
  obtain ⟨cA, e1, e2, e3, e4⟩ := hw
  exact sm_get C 10 (k := k) (by rw [e4]; exact xo_lt hk (by decide)) (by rw [e3]; exact xo_sh5 hk _ _ _) (by rw [e1]; rfl) ixo_Night (by decide) hl rfl hd (kk _ h)
theorem xp_Night_needless (C : sm_Cx X cc nL own fr lo ret) (hw : xo_is (sm_w X)) {index k : Nat} (hk : xo_tag k = 5) (hl : Cond.fieldLink own index "SmokeGoesTo$Night" "needless" "I" ∈ sm_G) (hd : decode cc pc = .ok (.putfield index, 3)) {f : sm_St → Option β} {v : Int32} (h : sm_b (sm_sI σ k 10 v) f = some z) (kk : ∀ s, f s = some z → sm_V X Q nL s (pc + 3) lv st) : sm_V X Q nL σ pc lv (.int v :: .ref (sm_ad (sm_w X) k) :: st) := by
  obtain ⟨cA, e1, e2, e3, e4⟩ := hw
  exact sm_put C 10 (k := k) (σ' := sm_sI σ k 10 v) (by rw [e4]; exact xo_lt hk (by decide)) (by rw [e3]; exact xo_sh5 hk _ _ _) (by rw [e1]; rfl) ixo_Night kxo_Night nxo_Night (by decide) hl rfl rfl rfl rfl (Nat.le_of_ble_eq_true rfl) (by rw [e3, xo_sh5 hk, sm_sIk.1]; rfl) sm_sIo hd (kk _ h)
theorem xr_Night_riser (C : sm_Cx X cc nL own fr lo ret) (hw : xo_is (sm_w X)) {index k : Nat} (hk : xo_tag k = 5) (hl : Cond.fieldLink own index "SmokeGoesTo$Night" "riser" "I" ∈ sm_G) (hd : decode cc pc = .ok (.getfield index, 3)) {f : Int32 → Option β} (h : sm_b (σ.1 k 11) f = some z) (kk : ∀ v, f v = some z → sm_V X Q nL σ (pc + 3) lv (.int v :: st)) : sm_V X Q nL σ pc lv (.ref (sm_ad (sm_w X) k) :: st) := by
  obtain ⟨cA, e1, e2, e3, e4⟩ := hw
  exact sm_get C 11 (k := k) (by rw [e4]; exact xo_lt hk (by decide)) (by rw [e3]; exact xo_sh5 hk _ _ _) (by rw [e1]; rfl) ixo_Night (by decide) hl rfl hd (kk _ h)
theorem xp_Night_riser (C : sm_Cx X cc nL own fr lo ret) (hw : xo_is (sm_w X)) {index k : Nat} (hk : xo_tag k = 5) (hl : Cond.fieldLink own index "SmokeGoesTo$Night" "riser" "I" ∈ sm_G) (hd : decode cc pc = .ok (.putfield index, 3)) {f : sm_St → Option β} {v : Int32} (h : sm_b (sm_sI σ k 11 v) f = some z) (kk : ∀ s, f s = some z → sm_V X Q nL s (pc + 3) lv st) : sm_V X Q nL σ pc lv (.int v :: .ref (sm_ad (sm_w X) k) :: st) := by
  obtain ⟨cA, e1, e2, e3, e4⟩ := hw
  exact sm_put C 11 (k := k) (σ' := sm_sI σ k 11 v) (by rw [e4]; exact xo_lt hk (by decide)) (by rw [e3]; exact xo_sh5 hk _ _ _) (by rw [e1]; rfl) ixo_Night kxo_Night nxo_Night (by decide) hl rfl rfl rfl rfl (Nat.le_of_ble_eq_true rfl) (by rw [e3, xo_sh5 hk, sm_sIk.1]; rfl) sm_sIo hd (kk _ h)
theorem xr_Night_leftPlace (C : sm_Cx X cc nL own fr lo ret) (hw : xo_is (sm_w X)) {index k : Nat} (hk : xo_tag k = 5) (hl : Cond.fieldLink own index "SmokeGoesTo$Night" "leftPlace" "I" ∈ sm_G) (hd : decode cc pc = .ok (.getfield index, 3)) {f : Int32 → Option β} (h : sm_b (σ.1 k 12) f = some z) (kk : ∀ v, f v = some z → sm_V X Q nL σ (pc + 3) lv (.int v :: st)) : sm_V X Q nL σ pc lv (.ref (sm_ad (sm_w X) k) :: st) := by
  obtain ⟨cA, e1, e2, e3, e4⟩ := hw
  exact sm_get C 12 (k := k) (by rw [e4]; exact xo_lt hk (by decide)) (by rw [e3]; exact xo_sh5 hk _ _ _) (by rw [e1]; rfl) ixo_Night (by decide) hl rfl hd (kk _ h)
theorem xp_Night_leftPlace (C : sm_Cx X cc nL own fr lo ret) (hw : xo_is (sm_w X)) {index k : Nat} (hk : xo_tag k = 5) (hl : Cond.fieldLink own index "SmokeGoesTo$Night" "leftPlace" "I" ∈ sm_G) (hd : decode cc pc = .ok (.putfield index, 3)) {f : sm_St → Option β} {v : Int32} (h : sm_b (sm_sI σ k 12 v) f = some z) (kk : ∀ s, f s = some z → sm_V X Q nL s (pc + 3) lv st) : sm_V X Q nL σ pc lv (.int v :: .ref (sm_ad (sm_w X) k) :: st) := by
  obtain ⟨cA, e1, e2, e3, e4⟩ := hw
  exact sm_put C 12 (k := k) (σ' := sm_sI σ k 12 v) (by rw [e4]; exact xo_lt hk (by decide)) (by rw [e3]; exact xo_sh5 hk _ _ _) (by rw [e1]; rfl) ixo_Night kxo_Night nxo_Night (by decide) hl rfl rfl rfl rfl (Nat.le_of_ble_eq_true rfl) (by rw [e3, xo_sh5 hk, sm_sIk.1]; rfl) sm_sIo hd (kk _ h)
theorem xr_Night_rule (C : sm_Cx X cc nL own fr lo ret) (hw : xo_is (sm_w X)) {index k : Nat} (hk : xo_tag k = 5) (hl : Cond.fieldLink own index "SmokeGoesTo$Night" "rule" "LSmokeGoesTo$Text;" ∈ sm_G) (hd : decode cc pc = .ok (.getfield index, 3)) {f : Option Nat → Option β} (h : sm_b (σ.2.2 k 13) f = some z) (kk : ∀ r, f r = some z → sm_V X Q nL σ (pc + 3) lv (va_rf (r.map (sm_ad (sm_w X))) :: st)) : sm_V X Q nL σ pc lv (.ref (sm_ad (sm_w X) k) :: st) := by
  obtain ⟨cA, e1, e2, e3, e4⟩ := hw
  exact sm_get C 13 (k := k) (by rw [e4]; exact xo_lt hk (by decide)) (by rw [e3]; exact xo_sh5 hk _ _ _) (by rw [e1]; rfl) ixo_Night (by decide) hl rfl hd (kk _ h)
theorem xp_Night_rule (C : sm_Cx X cc nL own fr lo ret) (hw : xo_is (sm_w X)) {index k : Nat} (hk : xo_tag k = 5) (hl : Cond.fieldLink own index "SmokeGoesTo$Night" "rule" "LSmokeGoesTo$Text;" ∈ sm_G) (hd : decode cc pc = .ok (.putfield index, 3)) {f : sm_St → Option β} {r : Option Nat} (h : sm_b (sm_sR σ k 13 r) f = some z) (kk : ∀ s, f s = some z → sm_V X Q nL s (pc + 3) lv st) : sm_V X Q nL σ pc lv (va_rf (r.map (sm_ad (sm_w X))) :: .ref (sm_ad (sm_w X) k) :: st) := by
  obtain ⟨cA, e1, e2, e3, e4⟩ := hw
  exact sm_put C 13 (k := k) (σ' := sm_sR σ k 13 r) (by rw [e4]; exact xo_lt hk (by decide)) (by rw [e3]; exact xo_sh5 hk _ _ _) (by rw [e1]; rfl) ixo_Night kxo_Night nxo_Night (by decide) hl rfl rfl (by cases r <;> rfl) (by cases r <;> rfl) (Nat.le_of_ble_eq_true rfl) (by rw [e3, xo_sh5 hk, sm_sRk.2.2]; rfl) sm_sRo hd (kk _ h)
theorem xob_Odds {w : sm_WD} {k : Nat} (hw : xo_is w) (hk : xo_tag k = 6) : sm_Ob w k "SmokeGoesTo$Odds" := by
  obtain ⟨cA, e1, e2, e3, e4⟩ := hw
  exact ⟨by rw [e4]; exact xo_lt hk (by decide), fun a b c => ⟨_, _, _, by rw [e3]; exact xo_sh6 hk a b c, by rw [e1]; rfl, rfl⟩⟩
theorem xr_Odds_at (C : sm_Cx X cc nL own fr lo ret) (hw : xo_is (sm_w X)) {index k : Nat} (hk : xo_tag k = 6) (hl : Cond.fieldLink own index "SmokeGoesTo$Odds" "at" "[J" ∈ sm_G) (hd : decode cc pc = .ok (.getfield index, 3)) (kk : sm_V X Q nL σ (pc + 3) lv (.ref (sm_ad (sm_w X) 53) :: st)) : sm_V X Q nL σ pc lv (.ref (sm_ad (sm_w X) k) :: st) := by
  obtain ⟨cA, e1, e2, e3, e4⟩ := hw
  exact sm_get C 0 (k := k) (by rw [e4]; exact xo_lt hk (by decide)) (by rw [e3]; exact xo_sh6 hk _ _ _) (by rw [e1]; rfl) ixo_Odds (by decide) hl rfl hd (kk)
theorem xr_Odds_together (C : sm_Cx X cc nL own fr lo ret) (hw : xo_is (sm_w X)) {index k : Nat} (hk : xo_tag k = 6) (hl : Cond.fieldLink own index "SmokeGoesTo$Odds" "together" "[J" ∈ sm_G) (hd : decode cc pc = .ok (.getfield index, 3)) (kk : sm_V X Q nL σ (pc + 3) lv (.ref (sm_ad (sm_w X) 54) :: st)) : sm_V X Q nL σ pc lv (.ref (sm_ad (sm_w X) k) :: st) := by
  obtain ⟨cA, e1, e2, e3, e4⟩ := hw
  exact sm_get C 1 (k := k) (by rw [e4]; exact xo_lt hk (by decide)) (by rw [e3]; exact xo_sh6 hk _ _ _) (by rw [e1]; rfl) ixo_Odds (by decide) hl rfl hd (kk)
theorem xr_Odds_below (C : sm_Cx X cc nL own fr lo ret) (hw : xo_is (sm_w X)) {index k : Nat} (hk : xo_tag k = 6) (hl : Cond.fieldLink own index "SmokeGoesTo$Odds" "below" "J" ∈ sm_G) (hd : decode cc pc = .ok (.getfield index, 3)) {f : Int64 → Option β} (h : sm_b (σ.2.1 k 2) f = some z) (kk : ∀ v, f v = some z → sm_V X Q nL σ (pc + 3) lv (.long v :: st)) : sm_V X Q nL σ pc lv (.ref (sm_ad (sm_w X) k) :: st) := by
  obtain ⟨cA, e1, e2, e3, e4⟩ := hw
  exact sm_get C 2 (k := k) (by rw [e4]; exact xo_lt hk (by decide)) (by rw [e3]; exact xo_sh6 hk _ _ _) (by rw [e1]; rfl) ixo_Odds (by decide) hl rfl hd (kk _ h)
theorem xp_Odds_below (C : sm_Cx X cc nL own fr lo ret) (hw : xo_is (sm_w X)) {index k : Nat} (hk : xo_tag k = 6) (hl : Cond.fieldLink own index "SmokeGoesTo$Odds" "below" "J" ∈ sm_G) (hd : decode cc pc = .ok (.putfield index, 3)) {f : sm_St → Option β} {v : Int64} (h : sm_b (sm_sL σ k 2 v) f = some z) (kk : ∀ s, f s = some z → sm_V X Q nL s (pc + 3) lv st) : sm_V X Q nL σ pc lv (.long v :: .ref (sm_ad (sm_w X) k) :: st) := by
  obtain ⟨cA, e1, e2, e3, e4⟩ := hw
  exact sm_put C 2 (k := k) (σ' := sm_sL σ k 2 v) (by rw [e4]; exact xo_lt hk (by decide)) (by rw [e3]; exact xo_sh6 hk _ _ _) (by rw [e1]; rfl) ixo_Odds kxo_Odds nxo_Odds (by decide) hl rfl rfl rfl rfl (Nat.le_of_ble_eq_true rfl) (by rw [e3, xo_sh6 hk, sm_sLk.2.1]; rfl) sm_sLo hd (kk _ h)
theorem xr_Odds_ahead (C : sm_Cx X cc nL own fr lo ret) (hw : xo_is (sm_w X)) {index k : Nat} (hk : xo_tag k = 6) (hl : Cond.fieldLink own index "SmokeGoesTo$Odds" "ahead" "[J" ∈ sm_G) (hd : decode cc pc = .ok (.getfield index, 3)) (kk : sm_V X Q nL σ (pc + 3) lv (.ref (sm_ad (sm_w X) 55) :: st)) : sm_V X Q nL σ pc lv (.ref (sm_ad (sm_w X) k) :: st) := by
  obtain ⟨cA, e1, e2, e3, e4⟩ := hw
  exact sm_get C 3 (k := k) (by rw [e4]; exact xo_lt hk (by decide)) (by rw [e3]; exact xo_sh6 hk _ _ _) (by rw [e1]; rfl) ixo_Odds (by decide) hl rfl hd (kk)
theorem xa_iald (C : sm_Cx X cc nL own fr lo ret) (hw : xo_is (sm_w X)) {k n : Nat} (hk : xo_tag k = 10) (hn : xo_len k = n) {i : Int32} {f : Int32 → Option β} (hd : decode cc pc = .ok (.iaload, 1)) (h : sm_g (sm_in i n) (sm_b (σ.1 k i.toNatClampNeg) f) = some z) (kk : ∀ v, f v = some z → sm_V X Q nL σ (pc + 1) lv (.int v :: st)) : sm_V X Q nL σ pc lv (.int i :: .ref (sm_ad (sm_w X) k) :: st) := by
  obtain ⟨cA, e1, e2, e3, e4⟩ := hw
  subst hn
  exact sm_iald C (t0 := 0) (by rw [e4]; exact xo_lt hk (by decide)) (by rw [e3]; exact xo_sh10 hk _ _ _) (by rw [e2]; rfl) hd h kk
theorem xa_lald (C : sm_Cx X cc nL own fr lo ret) (hw : xo_is (sm_w X)) {k n : Nat} (hk : xo_tag k = 11) (hn : xo_len k = n) {i : Int32} {f : Int64 → Option β} (hd : decode cc pc = .ok (.laload, 1)) (h : sm_g (sm_in i n) (sm_b (σ.2.1 k i.toNatClampNeg) f) = some z) (kk : ∀ v, f v = some z → sm_V X Q nL σ (pc + 1) lv (.long v :: st)) : sm_V X Q nL σ pc lv (.int i :: .ref (sm_ad (sm_w X) k) :: st) := by
  obtain ⟨cA, e1, e2, e3, e4⟩ := hw
  subst hn
  exact sm_lald C (t0 := 1) (by rw [e4]; exact xo_lt hk (by decide)) (by rw [e3]; exact xo_sh11 hk _ _ _) (by rw [e2]; rfl) hd h kk
theorem xa_iast (C : sm_Cx X cc nL own fr lo ret) (hw : xo_is (sm_w X)) {k n : Nat} (hk : xo_tag k = 10) (hn : xo_len k = n) {i : Int32} {x : Int32} {f : sm_St → Option β} (hd : decode cc pc = .ok (.iastore, 1)) (h : sm_g (sm_in i n) (sm_b (sm_sI σ k i.toNatClampNeg x) f) = some z) (kk : ∀ s, f s = some z → sm_V X Q nL s (pc + 1) lv st) : sm_V X Q nL σ pc lv (.int x :: .int i :: .ref (sm_ad (sm_w X) k) :: st) := by
  obtain ⟨cA, e1, e2, e3, e4⟩ := hw
  subst hn
  exact sm_iast C (t0 := 0) (by rw [e4]; exact xo_lt hk (by decide)) (fun a b c => by rw [e3]; exact xo_sh10 hk a b c) (by rw [e2]; rfl) hd h kk
theorem xa_last (C : sm_Cx X cc nL own fr lo ret) (hw : xo_is (sm_w X)) {k n : Nat} (hk : xo_tag k = 11) (hn : xo_len k = n) {i : Int32} {x : Int64} {f : sm_St → Option β} (hd : decode cc pc = .ok (.lastore, 1)) (h : sm_g (sm_in i n) (sm_b (sm_sL σ k i.toNatClampNeg x) f) = some z) (kk : ∀ s, f s = some z → sm_V X Q nL s (pc + 1) lv st) : sm_V X Q nL σ pc lv (.long x :: .int i :: .ref (sm_ad (sm_w X) k) :: st) := by
  obtain ⟨cA, e1, e2, e3, e4⟩ := hw
  subst hn
  exact sm_last C (t0 := 1) (by rw [e4]; exact xo_lt hk (by decide)) (fun a b c => by rw [e3]; exact xo_sh11 hk a b c) (by rw [e2]; rfl) hd h kk
theorem xa_alenI (C : sm_Cx X cc nL own fr lo ret) (hw : xo_is (sm_w X)) {k n : Nat} (hk : xo_tag k = 10) (hn : xo_len k = n) {f : Int32 → Option β} (hd : decode cc pc = .ok (.arraylength, 1)) (h : sm_b (Int32.ofNat n) f = some z) (kk : ∀ v, f v = some z → sm_V X Q nL σ (pc + 1) lv (.int v :: st)) : sm_V X Q nL σ pc lv (.ref (sm_ad (sm_w X) k) :: st) := by
  obtain ⟨cA, e1, e2, e3, e4⟩ := hw
  subst hn
  exact sm_alen C (t0 := 0) (by rw [e4]; exact xo_lt hk (by decide)) (by rw [e3]; exact xo_sh10 hk _ _ _) (by rw [e2]; rfl) rfl hd (kk _ h)
theorem xa_alenL (C : sm_Cx X cc nL own fr lo ret) (hw : xo_is (sm_w X)) {k n : Nat} (hk : xo_tag k = 11) (hn : xo_len k = n) {f : Int32 → Option β} (hd : decode cc pc = .ok (.arraylength, 1)) (h : sm_b (Int32.ofNat n) f = some z) (kk : ∀ v, f v = some z → sm_V X Q nL σ (pc + 1) lv (.int v :: st)) : sm_V X Q nL σ pc lv (.ref (sm_ad (sm_w X) k) :: st) := by
  obtain ⟨cA, e1, e2, e3, e4⟩ := hw
  subst hn
  exact sm_alen C (t0 := 1) (by rw [e4]; exact xo_lt hk (by decide)) (by rw [e3]; exact xo_sh11 hk _ _ _) (by rw [e2]; rfl) rfl hd (kk _ h)
theorem xa_aaldText (C : sm_Cx X cc nL own fr lo ret) (hw : xo_is (sm_w X)) {k : Nat} (hk : xo_tag k = 12) {i : Int32} {x : Option β} (hd : decode cc pc = .ok (.aaload, 1)) (h : sm_g (sm_in i 6) x = some z) (kk : sm_in i 6 = true → x = some z → sm_V X Q nL σ (pc + 1) lv (.ref (sm_ad (sm_w X) (16 + i.toNatClampNeg)) :: st)) : sm_V X Q nL σ pc lv (.int i :: .ref (sm_ad (sm_w X) k) :: st) := by
  obtain ⟨cA, e1, e2, e3, e4⟩ := hw
  exact sm_aldq C (t0 := 2) (by rw [e4]; exact xo_lt hk (by decide)) (by rw [e3]; exact xo_sh12 hk _ _ _) (by rw [e2]; rfl) hd h kk
theorem xa_aaldSheet (C : sm_Cx X cc nL own fr lo ret) (hw : xo_is (sm_w X)) {k : Nat} (hk : xo_tag k = 13) {i : Int32} {x : Option β} (hd : decode cc pc = .ok (.aaload, 1)) (h : sm_g (sm_in i 4) x = some z) (kk : sm_in i 4 = true → x = some z → sm_V X Q nL σ (pc + 1) lv (.ref (sm_ad (sm_w X) (35 + i.toNatClampNeg)) :: st)) : sm_V X Q nL σ pc lv (.int i :: .ref (sm_ad (sm_w X) k) :: st) := by
  obtain ⟨cA, e1, e2, e3, e4⟩ := hw
  exact sm_aldq C (t0 := 3) (by rw [e4]; exact xo_lt hk (by decide)) (by rw [e3]; exact xo_sh13 hk _ _ _) (by rw [e2]; rfl) hd h kk
theorem xa_copyi (C : sm_Cx X cc nL own fr lo ret) (hw : xo_is (sm_w X)) {k k1 n n1 index : Nat} (hk : xo_tag k = 10) (hn : xo_len k = n) (hk1 : xo_tag k1 = 10) (hn1 : xo_len k1 = n1) {sp dp m : Int32} {f : sm_St → Option β} (hl : Cond.methodLink own index arraycopyName ∈ sm_G) (h5 : 1 ≤ fr) (h6 : (st.map fun v => v.category).sum + (nativeFrameWords "java/lang/System" "arraycopy" 5 + 11) ≤ lo) (hd : decode cc pc = .ok (.invokestatic index, 3)) (h : sm_g (sm_cpyok sp dp m n n1) (sm_b (sm_cI σ k k1 sp.toNatClampNeg dp.toNatClampNeg m.toNatClampNeg) f) = some z) (kk : ∀ s, f s = some z → sm_V X Q nL s (pc + 3) lv st) : sm_V X Q nL σ pc lv (.int m :: .int dp :: .ref (sm_ad (sm_w X) k1) :: .int sp :: .ref (sm_ad (sm_w X) k) :: st) := by
  obtain ⟨cA, e1, e2, e3, e4⟩ := hw
  subst hn
  subst hn1
  exact sm_copyi C (t0 := 0) (by rw [e4]; exact xo_lt hk (by decide)) (by rw [e4]; exact xo_lt hk1 (by decide)) (fun a b c => by rw [e3]; exact xo_sh10 hk a b c) (fun a b c => by rw [e3]; exact xo_sh10 hk1 a b c) (by rw [e2]; rfl) hl gq_copy gs_copy gn_Sys h5 h6 hd h kk
theorem xa_copyl (C : sm_Cx X cc nL own fr lo ret) (hw : xo_is (sm_w X)) {k k1 n n1 index : Nat} (hk : xo_tag k = 11) (hn : xo_len k = n) (hk1 : xo_tag k1 = 11) (hn1 : xo_len k1 = n1) {sp dp m : Int32} {f : sm_St → Option β} (hl : Cond.methodLink own index arraycopyName ∈ sm_G) (h5 : 1 ≤ fr) (h6 : (st.map fun v => v.category).sum + (nativeFrameWords "java/lang/System" "arraycopy" 5 + 11) ≤ lo) (hd : decode cc pc = .ok (.invokestatic index, 3)) (h : sm_g (sm_cpyok sp dp m n n1) (sm_b (sm_cL σ k k1 sp.toNatClampNeg dp.toNatClampNeg m.toNatClampNeg) f) = some z) (kk : ∀ s, f s = some z → sm_V X Q nL s (pc + 3) lv st) : sm_V X Q nL σ pc lv (.int m :: .int dp :: .ref (sm_ad (sm_w X) k1) :: .int sp :: .ref (sm_ad (sm_w X) k) :: st) := by
  obtain ⟨cA, e1, e2, e3, e4⟩ := hw
  subst hn
  subst hn1
  exact sm_copyl C (t0 := 1) (by rw [e4]; exact xo_lt hk (by decide)) (by rw [e4]; exact xo_lt hk1 (by decide)) (fun a b c => by rw [e3]; exact xo_sh11 hk a b c) (fun a b c => by rw [e3]; exact xo_sh11 hk1 a b c) (by rw [e2]; rfl) hl gq_copy gs_copy gn_Sys h5 h6 hd h kk
end
def mo_tag (k : Nat) : Nat := ([0, 10, 10, 10, 10, 10, 10, 10, 10, 10, 10, 10, 10, 10, 11, 11, 11, 10, 10, 10, 14, 10, 10, 10] : List Nat).getD k 99
def mo_len (k : Nat) : Nat := ([0, 960, 6, 160, 5, 5, 5, 5, 5, 5, 5, 5, 5, 6, 8, 8, 8, 5, 5, 15, 4, 4, 4, 160] : List Nat).getD k 0
theorem mo_lt {k t : Nat} (h : mo_tag k = t) (ht : t ≠ 99) : k < 24 := by
  rcases Nat.lt_or_ge k 24 with q | q
  · exact q
  · exfalso
    apply ht
    rw [← h]
    unfold mo_tag
    rw [List.getD_eq_getElem?_getD, List.getElem?_eq_none (by simpa using q)]
    rfl
def Rmo_M : u_T := fun k => match k with
  | 0 => ("SmokeGoesToModel", "thrown", "I", false)
  | 1 => ("SmokeGoesToModel", "texts", "[I", true)
  | 2 => ("SmokeGoesToModel", "textSize", "[I", true)
  | 3 => ("SmokeGoesToModel", "textCount", "I", false)
  | 4 => ("SmokeGoesToModel", "rule", "I", false)
  | 5 => ("SmokeGoesToModel", "tape", "[I", true)
  | 6 => ("SmokeGoesToModel", "taped", "I", false)
  | 7 => ("SmokeGoesToModel", "smoke", "I", false)
  | 8 => ("SmokeGoesToModel", "left", "I", false)
  | 9 => ("SmokeGoesToModel", "right", "I", false)
  | 10 => ("SmokeGoesToModel", "tents", "I", false)
  | 11 => ("SmokeGoesToModel", "eddy", "I", false)
  | 12 => ("SmokeGoesToModel", "kinds", "[I", true)
  | 13 => ("SmokeGoesToModel", "numbers", "[I", true)
  | 14 => ("SmokeGoesToModel", "places", "[I", true)
  | 15 => ("SmokeGoesToModel", "sitterMany", "I", false)
  | 16 => ("SmokeGoesToModel", "ofPlace", "I", false)
  | 17 => ("SmokeGoesToModel", "ofSmoke", "I", false)
  | 18 => ("SmokeGoesToModel", "ofMinute", "I", false)
  | 19 => ("SmokeGoesToModel", "ofLong", "I", false)
  | 20 => ("SmokeGoesToModel", "ofNumber", "I", false)
  | 21 => ("SmokeGoesToModel", "ofSitter", "I", false)
  | 22 => ("SmokeGoesToModel", "from", "I", false)
  | 23 => ("SmokeGoesToModel", "size", "I", false)
  | 24 => ("SmokeGoesToModel", "here", "I", false)
  | 25 => ("SmokeGoesToModel", "token", "I", false)
  | 26 => ("SmokeGoesToModel", "tokenAt", "I", false)
  | 27 => ("SmokeGoesToModel", "tokenWorth", "J", false)
  | 28 => ("SmokeGoesToModel", "open", "I", false)
  | 29 => ("SmokeGoesToModel", "bad", "Z", false)
  | 30 => ("SmokeGoesToModel", "fault", "I", false)
  | 31 => ("SmokeGoesToModel", "longNow", "[I", true)
  | 32 => ("SmokeGoesToModel", "costs", "[I", true)
  | 33 => ("SmokeGoesToModel", "smoked", "[I", true)
  | 34 => ("SmokeGoesToModel", "longest", "[I", true)
  | 35 => ("SmokeGoesToModel", "risen", "[I", true)
  | 36 => ("SmokeGoesToModel", "leftPlace", "[I", true)
  | 37 => ("SmokeGoesToModel", "upNow", "I", false)
  | 38 => ("SmokeGoesToModel", "needless", "I", false)
  | 39 => ("SmokeGoesToModel", "aside", "[I", true)
  | 40 => ("SmokeGoesToModel", "parts", "[J", true)
  | 41 => ("SmokeGoesToModel", "then", "[J", true)
  | 42 => ("SmokeGoesToModel", "means", "[J", true)
  | 43 => ("SmokeGoesToModel", "below", "J", false)
  | 44 => ("SmokeGoesToModel", "seats", "[I", true)
  | 45 => ("SmokeGoesToModel", "bestSeats", "[I", true)
  | 46 => ("SmokeGoesToModel", "bestSum", "J", false)
  | 47 => ("SmokeGoesToModel", "isFound", "Z", false)
  | 48 => ("SmokeGoesToModel", "rowsMany", "I", false)
  | 49 => ("SmokeGoesToModel", "rowsFirst", "I", false)
  | 50 => ("SmokeGoesToModel", "kept", "[I", true)
  | 51 => ("SmokeGoesToModel", "manyKept", "I", false)
  | 52 => ("SmokeGoesToModel", "ruleKept", "I", false)
  | 53 => ("SmokeGoesToModel", "isThere", "[Z", true)
  | 54 => ("SmokeGoesToModel", "sorts", "[I", true)
  | 55 => ("SmokeGoesToModel", "sheetSize", "[I", true)
  | _ => ("SmokeGoesToModel", "items", "[I", true)
def ymo_M : Nat → FieldType := fun k => match k with
  | 0 => .int
  | 1 => .array .int
  | 2 => .array .int
  | 3 => .int
  | 4 => .int
  | 5 => .array .int
  | 6 => .int
  | 7 => .int
  | 8 => .int
  | 9 => .int
  | 10 => .int
  | 11 => .int
  | 12 => .array .int
  | 13 => .array .int
  | 14 => .array .int
  | 15 => .int
  | 16 => .int
  | 17 => .int
  | 18 => .int
  | 19 => .int
  | 20 => .int
  | 21 => .int
  | 22 => .int
  | 23 => .int
  | 24 => .int
  | 25 => .int
  | 26 => .int
  | 27 => .long
  | 28 => .int
  | 29 => .boolean
  | 30 => .int
  | 31 => .array .int
  | 32 => .array .int
  | 33 => .array .int
  | 34 => .array .int
  | 35 => .array .int
  | 36 => .array .int
  | 37 => .int
  | 38 => .int
  | 39 => .array .int
  | 40 => .array .long
  | 41 => .array .long
  | 42 => .array .long
  | 43 => .long
  | 44 => .array .int
  | 45 => .array .int
  | 46 => .long
  | 47 => .boolean
  | 48 => .int
  | 49 => .int
  | 50 => .array .int
  | 51 => .int
  | 52 => .int
  | 53 => .array .boolean
  | 54 => .array .int
  | 55 => .array .int
  | _ => .array .int
theorem nmo_M : ∀ a, a < 57 → ∀ b, b < 57 → a ≠ b → (Rmo_M a).2.1 ≠ (Rmo_M b).2.1 := by decide +kernel
theorem kmo_M : ∀ k, k < 57 → parseFieldDescriptor (Rmo_M k).2.2.1 = some (ymo_M k) := by decide +kernel
theorem imo_M : ∀ w ∈ u_ws "SmokeGoesToModel" Rmo_M 57, w ∈ sm_G := by
  have h : ∀ w ∈ u_ws "SmokeGoesToModel" Rmo_M 57, w ∈ lw_tbl ∧ goodWord w = true := by decide +kernel
  exact fun w hw => sm_gin (h w hw).1 (h w hw).2
def mo_cl : List vw_C := [("SmokeGoesToModel", Rmo_M, 57)]
def mo_ty (cA : Nat → ClassId) : List (ClassId × FieldType) := [(cA 0, .int), (cA 1, .long), (cA 2, .boolean)]
def mo_sh (cA : Nat → ClassId) (ad : Nat → Nat) : sm_Sh := fun k a b c => match mo_tag k with
  | 0 => .inr (0, [.int (a 0), .ref (ad 1), .ref (ad 2), .int (a 3), .int (a 4), .ref (ad 3), .int (a 6), .int (a 7), .int (a 8), .int (a 9), .int (a 10), .int (a 11), .ref (ad 4), .ref (ad 5), .ref (ad 6), .int (a 15), .int (a 16), .int (a 17), .int (a 18), .int (a 19), .int (a 20), .int (a 21), .int (a 22), .int (a 23), .int (a 24), .int (a 25), .int (a 26), .long (b 27), .int (a 28), .int (a 29), .int (a 30), .ref (ad 7), .ref (ad 8), .ref (ad 9), .ref (ad 10), .ref (ad 11), .ref (ad 12), .int (a 37), .int (a 38), .ref (ad 13), .ref (ad 14), .ref (ad 15), .ref (ad 16), .long (b 43), .ref (ad 17), .ref (ad 18), .long (b 46), .int (a 47), .int (a 48), .int (a 49), .ref (ad 19), .int (a 51), .int (a 52), .ref (ad 20), .ref (ad 21), .ref (ad 22), .ref (ad 23)])
  | 10 => .inl (cA 0, mo_len k, .inl a)
  | 11 => .inl (cA 1, mo_len k, .inr (.inl b))
  | 14 => .inl (cA 2, mo_len k, .inl a)
  | _ => .inr (99, [])
theorem mo_sh0 {cA : Nat → ClassId} {ad : Nat → Nat} {k : Nat} (h : mo_tag k = 0) (a : Nat → Int32) (b : Nat → Int64) (c : Nat → Option Nat) : mo_sh cA ad k a b c = .inr (0, [.int (a 0), .ref (ad 1), .ref (ad 2), .int (a 3), .int (a 4), .ref (ad 3), .int (a 6), .int (a 7), .int (a 8), .int (a 9), .int (a 10), .int (a 11), .ref (ad 4), .ref (ad 5), .ref (ad 6), .int (a 15), .int (a 16), .int (a 17), .int (a 18), .int (a 19), .int (a 20), .int (a 21), .int (a 22), .int (a 23), .int (a 24), .int (a 25), .int (a 26), .long (b 27), .int (a 28), .int (a 29), .int (a 30), .ref (ad 7), .ref (ad 8), .ref (ad 9), .ref (ad 10), .ref (ad 11), .ref (ad 12), .int (a 37), .int (a 38), .ref (ad 13), .ref (ad 14), .ref (ad 15), .ref (ad 16), .long (b 43), .ref (ad 17), .ref (ad 18), .long (b 46), .int (a 47), .int (a 48), .int (a 49), .ref (ad 19), .int (a 51), .int (a 52), .ref (ad 20), .ref (ad 21), .ref (ad 22), .ref (ad 23)]) := by
  unfold mo_sh
  rw [h]
  rfl
theorem mo_sh10 {cA : Nat → ClassId} {ad : Nat → Nat} {k : Nat} (h : mo_tag k = 10) (a : Nat → Int32) (b : Nat → Int64) (c : Nat → Option Nat) : mo_sh cA ad k a b c = .inl (cA 0, mo_len k, .inl a) := by
  unfold mo_sh
  rw [h]
  rfl
theorem mo_sh11 {cA : Nat → ClassId} {ad : Nat → Nat} {k : Nat} (h : mo_tag k = 11) (a : Nat → Int32) (b : Nat → Int64) (c : Nat → Option Nat) : mo_sh cA ad k a b c = .inl (cA 1, mo_len k, .inr (.inl b)) := by
  unfold mo_sh
  rw [h]
  rfl
theorem mo_sh14 {cA : Nat → ClassId} {ad : Nat → Nat} {k : Nat} (h : mo_tag k = 14) (a : Nat → Int32) (b : Nat → Int64) (c : Nat → Option Nat) : mo_sh cA ad k a b c = .inl (cA 2, mo_len k, .inl a) := by
  unfold mo_sh
  rw [h]
  rfl
def mo_is (w : sm_WD) : Prop := ∃ cA : Nat → ClassId, sm_cl w = mo_cl ∧ sm_ty w = mo_ty cA ∧ sm_sh w = mo_sh cA (sm_ad w) ∧ sm_N w = 24
section
variable {X : sm_VC} {cc : ByteArray} {nL : Nat} {own : String} {fr lo : Nat} {ret : Option FieldType} {Q : State → Prop} {σ : sm_St} {pc : Nat} {lv : List (Nat × Value)} {st : List Value} {β : Type} {z : β}
theorem mob_M {w : sm_WD} {k : Nat} (hw : mo_is w) (hk : mo_tag k = 0) : sm_Ob w k "SmokeGoesToModel" := by
  obtain ⟨cA, e1, e2, e3, e4⟩ := hw
  exact ⟨by rw [e4]; exact mo_lt hk (by decide), fun a b c => ⟨_, _, _, by rw [e3]; exact mo_sh0 hk a b c, by rw [e1]; rfl, rfl⟩⟩
theorem mr_M_thrown (C : sm_Cx X cc nL own fr lo ret) (hw : mo_is (sm_w X)) {index k : Nat} (hk : mo_tag k = 0) (hl : Cond.fieldLink own index "SmokeGoesToModel" "thrown" "I" ∈ sm_G) (hd : decode cc pc = .ok (.getfield index, 3)) {f : Int32 → Option β} (h : sm_b (σ.1 k 0) f = some z) (kk : ∀ v, f v = some z → sm_V X Q nL σ (pc + 3) lv (.int v :: st)) : sm_V X Q nL σ pc lv (.ref (sm_ad (sm_w X) k) :: st) := by
  obtain ⟨cA, e1, e2, e3, e4⟩ := hw
  exact sm_get C 0 (k := k) (by rw [e4]; exact mo_lt hk (by decide)) (by rw [e3]; exact mo_sh0 hk _ _ _) (by rw [e1]; rfl) imo_M (by decide) hl rfl hd (kk _ h)
theorem mp_M_thrown (C : sm_Cx X cc nL own fr lo ret) (hw : mo_is (sm_w X)) {index k : Nat} (hk : mo_tag k = 0) (hl : Cond.fieldLink own index "SmokeGoesToModel" "thrown" "I" ∈ sm_G) (hd : decode cc pc = .ok (.putfield index, 3)) {f : sm_St → Option β} {v : Int32} (h : sm_b (sm_sI σ k 0 v) f = some z) (kk : ∀ s, f s = some z → sm_V X Q nL s (pc + 3) lv st) : sm_V X Q nL σ pc lv (.int v :: .ref (sm_ad (sm_w X) k) :: st) := by
  obtain ⟨cA, e1, e2, e3, e4⟩ := hw
  exact sm_put C 0 (k := k) (σ' := sm_sI σ k 0 v) (by rw [e4]; exact mo_lt hk (by decide)) (by rw [e3]; exact mo_sh0 hk _ _ _) (by rw [e1]; rfl) imo_M kmo_M nmo_M (by decide) hl rfl rfl rfl rfl (Nat.le_of_ble_eq_true rfl) (by rw [e3, mo_sh0 hk, sm_sIk.1]; rfl) sm_sIo hd (kk _ h)
theorem mr_M_texts (C : sm_Cx X cc nL own fr lo ret) (hw : mo_is (sm_w X)) {index k : Nat} (hk : mo_tag k = 0) (hl : Cond.fieldLink own index "SmokeGoesToModel" "texts" "[I" ∈ sm_G) (hd : decode cc pc = .ok (.getfield index, 3)) (kk : sm_V X Q nL σ (pc + 3) lv (.ref (sm_ad (sm_w X) 1) :: st)) : sm_V X Q nL σ pc lv (.ref (sm_ad (sm_w X) k) :: st) := by
  obtain ⟨cA, e1, e2, e3, e4⟩ := hw
  exact sm_get C 1 (k := k) (by rw [e4]; exact mo_lt hk (by decide)) (by rw [e3]; exact mo_sh0 hk _ _ _) (by rw [e1]; rfl) imo_M (by decide) hl rfl hd (kk)
theorem mr_M_textSize (C : sm_Cx X cc nL own fr lo ret) (hw : mo_is (sm_w X)) {index k : Nat} (hk : mo_tag k = 0) (hl : Cond.fieldLink own index "SmokeGoesToModel" "textSize" "[I" ∈ sm_G) (hd : decode cc pc = .ok (.getfield index, 3)) (kk : sm_V X Q nL σ (pc + 3) lv (.ref (sm_ad (sm_w X) 2) :: st)) : sm_V X Q nL σ pc lv (.ref (sm_ad (sm_w X) k) :: st) := by
  obtain ⟨cA, e1, e2, e3, e4⟩ := hw
  exact sm_get C 2 (k := k) (by rw [e4]; exact mo_lt hk (by decide)) (by rw [e3]; exact mo_sh0 hk _ _ _) (by rw [e1]; rfl) imo_M (by decide) hl rfl hd (kk)
theorem mr_M_textCount (C : sm_Cx X cc nL own fr lo ret) (hw : mo_is (sm_w X)) {index k : Nat} (hk : mo_tag k = 0) (hl : Cond.fieldLink own index "SmokeGoesToModel" "textCount" "I" ∈ sm_G) (hd : decode cc pc = .ok (.getfield index, 3)) {f : Int32 → Option β} (h : sm_b (σ.1 k 3) f = some z) (kk : ∀ v, f v = some z → sm_V X Q nL σ (pc + 3) lv (.int v :: st)) : sm_V X Q nL σ pc lv (.ref (sm_ad (sm_w X) k) :: st) := by
  obtain ⟨cA, e1, e2, e3, e4⟩ := hw
  exact sm_get C 3 (k := k) (by rw [e4]; exact mo_lt hk (by decide)) (by rw [e3]; exact mo_sh0 hk _ _ _) (by rw [e1]; rfl) imo_M (by decide) hl rfl hd (kk _ h)
theorem mp_M_textCount (C : sm_Cx X cc nL own fr lo ret) (hw : mo_is (sm_w X)) {index k : Nat} (hk : mo_tag k = 0) (hl : Cond.fieldLink own index "SmokeGoesToModel" "textCount" "I" ∈ sm_G) (hd : decode cc pc = .ok (.putfield index, 3)) {f : sm_St → Option β} {v : Int32} (h : sm_b (sm_sI σ k 3 v) f = some z) (kk : ∀ s, f s = some z → sm_V X Q nL s (pc + 3) lv st) : sm_V X Q nL σ pc lv (.int v :: .ref (sm_ad (sm_w X) k) :: st) := by
  obtain ⟨cA, e1, e2, e3, e4⟩ := hw
  exact sm_put C 3 (k := k) (σ' := sm_sI σ k 3 v) (by rw [e4]; exact mo_lt hk (by decide)) (by rw [e3]; exact mo_sh0 hk _ _ _) (by rw [e1]; rfl) imo_M kmo_M nmo_M (by decide) hl rfl rfl rfl rfl (Nat.le_of_ble_eq_true rfl) (by rw [e3, mo_sh0 hk, sm_sIk.1]; rfl) sm_sIo hd (kk _ h)
theorem mr_M_rule (C : sm_Cx X cc nL own fr lo ret) (hw : mo_is (sm_w X)) {index k : Nat} (hk : mo_tag k = 0) (hl : Cond.fieldLink own index "SmokeGoesToModel" "rule" "I" ∈ sm_G) (hd : decode cc pc = .ok (.getfield index, 3)) {f : Int32 → Option β} (h : sm_b (σ.1 k 4) f = some z) (kk : ∀ v, f v = some z → sm_V X Q nL σ (pc + 3) lv (.int v :: st)) : sm_V X Q nL σ pc lv (.ref (sm_ad (sm_w X) k) :: st) := by
  obtain ⟨cA, e1, e2, e3, e4⟩ := hw
  exact sm_get C 4 (k := k) (by rw [e4]; exact mo_lt hk (by decide)) (by rw [e3]; exact mo_sh0 hk _ _ _) (by rw [e1]; rfl) imo_M (by decide) hl rfl hd (kk _ h)
theorem mp_M_rule (C : sm_Cx X cc nL own fr lo ret) (hw : mo_is (sm_w X)) {index k : Nat} (hk : mo_tag k = 0) (hl : Cond.fieldLink own index "SmokeGoesToModel" "rule" "I" ∈ sm_G) (hd : decode cc pc = .ok (.putfield index, 3)) {f : sm_St → Option β} {v : Int32} (h : sm_b (sm_sI σ k 4 v) f = some z) (kk : ∀ s, f s = some z → sm_V X Q nL s (pc + 3) lv st) : sm_V X Q nL σ pc lv (.int v :: .ref (sm_ad (sm_w X) k) :: st) := by
  obtain ⟨cA, e1, e2, e3, e4⟩ := hw
  exact sm_put C 4 (k := k) (σ' := sm_sI σ k 4 v) (by rw [e4]; exact mo_lt hk (by decide)) (by rw [e3]; exact mo_sh0 hk _ _ _) (by rw [e1]; rfl) imo_M kmo_M nmo_M (by decide) hl rfl rfl rfl rfl (Nat.le_of_ble_eq_true rfl) (by rw [e3, mo_sh0 hk, sm_sIk.1]; rfl) sm_sIo hd (kk _ h)
theorem mr_M_tape (C : sm_Cx X cc nL own fr lo ret) (hw : mo_is (sm_w X)) {index k : Nat} (hk : mo_tag k = 0) (hl : Cond.fieldLink own index "SmokeGoesToModel" "tape" "[I" ∈ sm_G) (hd : decode cc pc = .ok (.getfield index, 3)) (kk : sm_V X Q nL σ (pc + 3) lv (.ref (sm_ad (sm_w X) 3) :: st)) : sm_V X Q nL σ pc lv (.ref (sm_ad (sm_w X) k) :: st) := by
  obtain ⟨cA, e1, e2, e3, e4⟩ := hw
  exact sm_get C 5 (k := k) (by rw [e4]; exact mo_lt hk (by decide)) (by rw [e3]; exact mo_sh0 hk _ _ _) (by rw [e1]; rfl) imo_M (by decide) hl rfl hd (kk)
theorem mr_M_taped (C : sm_Cx X cc nL own fr lo ret) (hw : mo_is (sm_w X)) {index k : Nat} (hk : mo_tag k = 0) (hl : Cond.fieldLink own index "SmokeGoesToModel" "taped" "I" ∈ sm_G) (hd : decode cc pc = .ok (.getfield index, 3)) {f : Int32 → Option β} (h : sm_b (σ.1 k 6) f = some z) (kk : ∀ v, f v = some z → sm_V X Q nL σ (pc + 3) lv (.int v :: st)) : sm_V X Q nL σ pc lv (.ref (sm_ad (sm_w X) k) :: st) := by
  obtain ⟨cA, e1, e2, e3, e4⟩ := hw
  exact sm_get C 6 (k := k) (by rw [e4]; exact mo_lt hk (by decide)) (by rw [e3]; exact mo_sh0 hk _ _ _) (by rw [e1]; rfl) imo_M (by decide) hl rfl hd (kk _ h)
theorem mp_M_taped (C : sm_Cx X cc nL own fr lo ret) (hw : mo_is (sm_w X)) {index k : Nat} (hk : mo_tag k = 0) (hl : Cond.fieldLink own index "SmokeGoesToModel" "taped" "I" ∈ sm_G) (hd : decode cc pc = .ok (.putfield index, 3)) {f : sm_St → Option β} {v : Int32} (h : sm_b (sm_sI σ k 6 v) f = some z) (kk : ∀ s, f s = some z → sm_V X Q nL s (pc + 3) lv st) : sm_V X Q nL σ pc lv (.int v :: .ref (sm_ad (sm_w X) k) :: st) := by
  obtain ⟨cA, e1, e2, e3, e4⟩ := hw
  exact sm_put C 6 (k := k) (σ' := sm_sI σ k 6 v) (by rw [e4]; exact mo_lt hk (by decide)) (by rw [e3]; exact mo_sh0 hk _ _ _) (by rw [e1]; rfl) imo_M kmo_M nmo_M (by decide) hl rfl rfl rfl rfl (Nat.le_of_ble_eq_true rfl) (by rw [e3, mo_sh0 hk, sm_sIk.1]; rfl) sm_sIo hd (kk _ h)
theorem mr_M_smoke (C : sm_Cx X cc nL own fr lo ret) (hw : mo_is (sm_w X)) {index k : Nat} (hk : mo_tag k = 0) (hl : Cond.fieldLink own index "SmokeGoesToModel" "smoke" "I" ∈ sm_G) (hd : decode cc pc = .ok (.getfield index, 3)) {f : Int32 → Option β} (h : sm_b (σ.1 k 7) f = some z) (kk : ∀ v, f v = some z → sm_V X Q nL σ (pc + 3) lv (.int v :: st)) : sm_V X Q nL σ pc lv (.ref (sm_ad (sm_w X) k) :: st) := by
  obtain ⟨cA, e1, e2, e3, e4⟩ := hw
  exact sm_get C 7 (k := k) (by rw [e4]; exact mo_lt hk (by decide)) (by rw [e3]; exact mo_sh0 hk _ _ _) (by rw [e1]; rfl) imo_M (by decide) hl rfl hd (kk _ h)
theorem mp_M_smoke (C : sm_Cx X cc nL own fr lo ret) (hw : mo_is (sm_w X)) {index k : Nat} (hk : mo_tag k = 0) (hl : Cond.fieldLink own index "SmokeGoesToModel" "smoke" "I" ∈ sm_G) (hd : decode cc pc = .ok (.putfield index, 3)) {f : sm_St → Option β} {v : Int32} (h : sm_b (sm_sI σ k 7 v) f = some z) (kk : ∀ s, f s = some z → sm_V X Q nL s (pc + 3) lv st) : sm_V X Q nL σ pc lv (.int v :: .ref (sm_ad (sm_w X) k) :: st) := by
  obtain ⟨cA, e1, e2, e3, e4⟩ := hw
  exact sm_put C 7 (k := k) (σ' := sm_sI σ k 7 v) (by rw [e4]; exact mo_lt hk (by decide)) (by rw [e3]; exact mo_sh0 hk _ _ _) (by rw [e1]; rfl) imo_M kmo_M nmo_M (by decide) hl rfl rfl rfl rfl (Nat.le_of_ble_eq_true rfl) (by rw [e3, mo_sh0 hk, sm_sIk.1]; rfl) sm_sIo hd (kk _ h)
theorem mr_M_left (C : sm_Cx X cc nL own fr lo ret) (hw : mo_is (sm_w X)) {index k : Nat} (hk : mo_tag k = 0) (hl : Cond.fieldLink own index "SmokeGoesToModel" "left" "I" ∈ sm_G) (hd : decode cc pc = .ok (.getfield index, 3)) {f : Int32 → Option β} (h : sm_b (σ.1 k 8) f = some z) (kk : ∀ v, f v = some z → sm_V X Q nL σ (pc + 3) lv (.int v :: st)) : sm_V X Q nL σ pc lv (.ref (sm_ad (sm_w X) k) :: st) := by
  obtain ⟨cA, e1, e2, e3, e4⟩ := hw
  exact sm_get C 8 (k := k) (by rw [e4]; exact mo_lt hk (by decide)) (by rw [e3]; exact mo_sh0 hk _ _ _) (by rw [e1]; rfl) imo_M (by decide) hl rfl hd (kk _ h)
theorem mp_M_left (C : sm_Cx X cc nL own fr lo ret) (hw : mo_is (sm_w X)) {index k : Nat} (hk : mo_tag k = 0) (hl : Cond.fieldLink own index "SmokeGoesToModel" "left" "I" ∈ sm_G) (hd : decode cc pc = .ok (.putfield index, 3)) {f : sm_St → Option β} {v : Int32} (h : sm_b (sm_sI σ k 8 v) f = some z) (kk : ∀ s, f s = some z → sm_V X Q nL s (pc + 3) lv st) : sm_V X Q nL σ pc lv (.int v :: .ref (sm_ad (sm_w X) k) :: st) := by
  obtain ⟨cA, e1, e2, e3, e4⟩ := hw
  exact sm_put C 8 (k := k) (σ' := sm_sI σ k 8 v) (by rw [e4]; exact mo_lt hk (by decide)) (by rw [e3]; exact mo_sh0 hk _ _ _) (by rw [e1]; rfl) imo_M kmo_M nmo_M (by decide) hl rfl rfl rfl rfl (Nat.le_of_ble_eq_true rfl) (by rw [e3, mo_sh0 hk, sm_sIk.1]; rfl) sm_sIo hd (kk _ h)
theorem mr_M_right (C : sm_Cx X cc nL own fr lo ret) (hw : mo_is (sm_w X)) {index k : Nat} (hk : mo_tag k = 0) (hl : Cond.fieldLink own index "SmokeGoesToModel" "right" "I" ∈ sm_G) (hd : decode cc pc = .ok (.getfield index, 3)) {f : Int32 → Option β} (h : sm_b (σ.1 k 9) f = some z) (kk : ∀ v, f v = some z → sm_V X Q nL σ (pc + 3) lv (.int v :: st)) : sm_V X Q nL σ pc lv (.ref (sm_ad (sm_w X) k) :: st) := by
  obtain ⟨cA, e1, e2, e3, e4⟩ := hw
  exact sm_get C 9 (k := k) (by rw [e4]; exact mo_lt hk (by decide)) (by rw [e3]; exact mo_sh0 hk _ _ _) (by rw [e1]; rfl) imo_M (by decide) hl rfl hd (kk _ h)
theorem mp_M_right (C : sm_Cx X cc nL own fr lo ret) (hw : mo_is (sm_w X)) {index k : Nat} (hk : mo_tag k = 0) (hl : Cond.fieldLink own index "SmokeGoesToModel" "right" "I" ∈ sm_G) (hd : decode cc pc = .ok (.putfield index, 3)) {f : sm_St → Option β} {v : Int32} (h : sm_b (sm_sI σ k 9 v) f = some z) (kk : ∀ s, f s = some z → sm_V X Q nL s (pc + 3) lv st) : sm_V X Q nL σ pc lv (.int v :: .ref (sm_ad (sm_w X) k) :: st) := by
  obtain ⟨cA, e1, e2, e3, e4⟩ := hw
  exact sm_put C 9 (k := k) (σ' := sm_sI σ k 9 v) (by rw [e4]; exact mo_lt hk (by decide)) (by rw [e3]; exact mo_sh0 hk _ _ _) (by rw [e1]; rfl) imo_M kmo_M nmo_M (by decide) hl rfl rfl rfl rfl (Nat.le_of_ble_eq_true rfl) (by rw [e3, mo_sh0 hk, sm_sIk.1]; rfl) sm_sIo hd (kk _ h)
theorem mr_M_tents (C : sm_Cx X cc nL own fr lo ret) (hw : mo_is (sm_w X)) {index k : Nat} (hk : mo_tag k = 0) (hl : Cond.fieldLink own index "SmokeGoesToModel" "tents" "I" ∈ sm_G) (hd : decode cc pc = .ok (.getfield index, 3)) {f : Int32 → Option β} (h : sm_b (σ.1 k 10) f = some z) (kk : ∀ v, f v = some z → sm_V X Q nL σ (pc + 3) lv (.int v :: st)) : sm_V X Q nL σ pc lv (.ref (sm_ad (sm_w X) k) :: st) := by
  obtain ⟨cA, e1, e2, e3, e4⟩ := hw
  exact sm_get C 10 (k := k) (by rw [e4]; exact mo_lt hk (by decide)) (by rw [e3]; exact mo_sh0 hk _ _ _) (by rw [e1]; rfl) imo_M (by decide) hl rfl hd (kk _ h)
theorem mp_M_tents (C : sm_Cx X cc nL own fr lo ret) (hw : mo_is (sm_w X)) {index k : Nat} (hk : mo_tag k = 0) (hl : Cond.fieldLink own index "SmokeGoesToModel" "tents" "I" ∈ sm_G) (hd : decode cc pc = .ok (.putfield index, 3)) {f : sm_St → Option β} {v : Int32} (h : sm_b (sm_sI σ k 10 v) f = some z) (kk : ∀ s, f s = some z → sm_V X Q nL s (pc + 3) lv st) : sm_V X Q nL σ pc lv (.int v :: .ref (sm_ad (sm_w X) k) :: st) := by
  obtain ⟨cA, e1, e2, e3, e4⟩ := hw
  exact sm_put C 10 (k := k) (σ' := sm_sI σ k 10 v) (by rw [e4]; exact mo_lt hk (by decide)) (by rw [e3]; exact mo_sh0 hk _ _ _) (by rw [e1]; rfl) imo_M kmo_M nmo_M (by decide) hl rfl rfl rfl rfl (Nat.le_of_ble_eq_true rfl) (by rw [e3, mo_sh0 hk, sm_sIk.1]; rfl) sm_sIo hd (kk _ h)
theorem mr_M_eddy (C : sm_Cx X cc nL own fr lo ret) (hw : mo_is (sm_w X)) {index k : Nat} (hk : mo_tag k = 0) (hl : Cond.fieldLink own index "SmokeGoesToModel" "eddy" "I" ∈ sm_G) (hd : decode cc pc = .ok (.getfield index, 3)) {f : Int32 → Option β} (h : sm_b (σ.1 k 11) f = some z) (kk : ∀ v, f v = some z → sm_V X Q nL σ (pc + 3) lv (.int v :: st)) : sm_V X Q nL σ pc lv (.ref (sm_ad (sm_w X) k) :: st) := by
  obtain ⟨cA, e1, e2, e3, e4⟩ := hw
  exact sm_get C 11 (k := k) (by rw [e4]; exact mo_lt hk (by decide)) (by rw [e3]; exact mo_sh0 hk _ _ _) (by rw [e1]; rfl) imo_M (by decide) hl rfl hd (kk _ h)
theorem mp_M_eddy (C : sm_Cx X cc nL own fr lo ret) (hw : mo_is (sm_w X)) {index k : Nat} (hk : mo_tag k = 0) (hl : Cond.fieldLink own index "SmokeGoesToModel" "eddy" "I" ∈ sm_G) (hd : decode cc pc = .ok (.putfield index, 3)) {f : sm_St → Option β} {v : Int32} (h : sm_b (sm_sI σ k 11 v) f = some z) (kk : ∀ s, f s = some z → sm_V X Q nL s (pc + 3) lv st) : sm_V X Q nL σ pc lv (.int v :: .ref (sm_ad (sm_w X) k) :: st) := by
  obtain ⟨cA, e1, e2, e3, e4⟩ := hw
  exact sm_put C 11 (k := k) (σ' := sm_sI σ k 11 v) (by rw [e4]; exact mo_lt hk (by decide)) (by rw [e3]; exact mo_sh0 hk _ _ _) (by rw [e1]; rfl) imo_M kmo_M nmo_M (by decide) hl rfl rfl rfl rfl (Nat.le_of_ble_eq_true rfl) (by rw [e3, mo_sh0 hk, sm_sIk.1]; rfl) sm_sIo hd (kk _ h)
theorem mr_M_kinds (C : sm_Cx X cc nL own fr lo ret) (hw : mo_is (sm_w X)) {index k : Nat} (hk : mo_tag k = 0) (hl : Cond.fieldLink own index "SmokeGoesToModel" "kinds" "[I" ∈ sm_G) (hd : decode cc pc = .ok (.getfield index, 3)) (kk : sm_V X Q nL σ (pc + 3) lv (.ref (sm_ad (sm_w X) 4) :: st)) : sm_V X Q nL σ pc lv (.ref (sm_ad (sm_w X) k) :: st) := by
  obtain ⟨cA, e1, e2, e3, e4⟩ := hw
  exact sm_get C 12 (k := k) (by rw [e4]; exact mo_lt hk (by decide)) (by rw [e3]; exact mo_sh0 hk _ _ _) (by rw [e1]; rfl) imo_M (by decide) hl rfl hd (kk)
theorem mr_M_numbers (C : sm_Cx X cc nL own fr lo ret) (hw : mo_is (sm_w X)) {index k : Nat} (hk : mo_tag k = 0) (hl : Cond.fieldLink own index "SmokeGoesToModel" "numbers" "[I" ∈ sm_G) (hd : decode cc pc = .ok (.getfield index, 3)) (kk : sm_V X Q nL σ (pc + 3) lv (.ref (sm_ad (sm_w X) 5) :: st)) : sm_V X Q nL σ pc lv (.ref (sm_ad (sm_w X) k) :: st) := by
  obtain ⟨cA, e1, e2, e3, e4⟩ := hw
  exact sm_get C 13 (k := k) (by rw [e4]; exact mo_lt hk (by decide)) (by rw [e3]; exact mo_sh0 hk _ _ _) (by rw [e1]; rfl) imo_M (by decide) hl rfl hd (kk)
theorem mr_M_places (C : sm_Cx X cc nL own fr lo ret) (hw : mo_is (sm_w X)) {index k : Nat} (hk : mo_tag k = 0) (hl : Cond.fieldLink own index "SmokeGoesToModel" "places" "[I" ∈ sm_G) (hd : decode cc pc = .ok (.getfield index, 3)) (kk : sm_V X Q nL σ (pc + 3) lv (.ref (sm_ad (sm_w X) 6) :: st)) : sm_V X Q nL σ pc lv (.ref (sm_ad (sm_w X) k) :: st) := by
  obtain ⟨cA, e1, e2, e3, e4⟩ := hw
  exact sm_get C 14 (k := k) (by rw [e4]; exact mo_lt hk (by decide)) (by rw [e3]; exact mo_sh0 hk _ _ _) (by rw [e1]; rfl) imo_M (by decide) hl rfl hd (kk)
theorem mr_M_sitterMany (C : sm_Cx X cc nL own fr lo ret) (hw : mo_is (sm_w X)) {index k : Nat} (hk : mo_tag k = 0) (hl : Cond.fieldLink own index "SmokeGoesToModel" "sitterMany" "I" ∈ sm_G) (hd : decode cc pc = .ok (.getfield index, 3)) {f : Int32 → Option β} (h : sm_b (σ.1 k 15) f = some z) (kk : ∀ v, f v = some z → sm_V X Q nL σ (pc + 3) lv (.int v :: st)) : sm_V X Q nL σ pc lv (.ref (sm_ad (sm_w X) k) :: st) := by
  obtain ⟨cA, e1, e2, e3, e4⟩ := hw
  exact sm_get C 15 (k := k) (by rw [e4]; exact mo_lt hk (by decide)) (by rw [e3]; exact mo_sh0 hk _ _ _) (by rw [e1]; rfl) imo_M (by decide) hl rfl hd (kk _ h)
theorem mp_M_sitterMany (C : sm_Cx X cc nL own fr lo ret) (hw : mo_is (sm_w X)) {index k : Nat} (hk : mo_tag k = 0) (hl : Cond.fieldLink own index "SmokeGoesToModel" "sitterMany" "I" ∈ sm_G) (hd : decode cc pc = .ok (.putfield index, 3)) {f : sm_St → Option β} {v : Int32} (h : sm_b (sm_sI σ k 15 v) f = some z) (kk : ∀ s, f s = some z → sm_V X Q nL s (pc + 3) lv st) : sm_V X Q nL σ pc lv (.int v :: .ref (sm_ad (sm_w X) k) :: st) := by
  obtain ⟨cA, e1, e2, e3, e4⟩ := hw
  exact sm_put C 15 (k := k) (σ' := sm_sI σ k 15 v) (by rw [e4]; exact mo_lt hk (by decide)) (by rw [e3]; exact mo_sh0 hk _ _ _) (by rw [e1]; rfl) imo_M kmo_M nmo_M (by decide) hl rfl rfl rfl rfl (Nat.le_of_ble_eq_true rfl) (by rw [e3, mo_sh0 hk, sm_sIk.1]; rfl) sm_sIo hd (kk _ h)
theorem mr_M_ofPlace (C : sm_Cx X cc nL own fr lo ret) (hw : mo_is (sm_w X)) {index k : Nat} (hk : mo_tag k = 0) (hl : Cond.fieldLink own index "SmokeGoesToModel" "ofPlace" "I" ∈ sm_G) (hd : decode cc pc = .ok (.getfield index, 3)) {f : Int32 → Option β} (h : sm_b (σ.1 k 16) f = some z) (kk : ∀ v, f v = some z → sm_V X Q nL σ (pc + 3) lv (.int v :: st)) : sm_V X Q nL σ pc lv (.ref (sm_ad (sm_w X) k) :: st) := by
  obtain ⟨cA, e1, e2, e3, e4⟩ := hw
  exact sm_get C 16 (k := k) (by rw [e4]; exact mo_lt hk (by decide)) (by rw [e3]; exact mo_sh0 hk _ _ _) (by rw [e1]; rfl) imo_M (by decide) hl rfl hd (kk _ h)
theorem mp_M_ofPlace (C : sm_Cx X cc nL own fr lo ret) (hw : mo_is (sm_w X)) {index k : Nat} (hk : mo_tag k = 0) (hl : Cond.fieldLink own index "SmokeGoesToModel" "ofPlace" "I" ∈ sm_G) (hd : decode cc pc = .ok (.putfield index, 3)) {f : sm_St → Option β} {v : Int32} (h : sm_b (sm_sI σ k 16 v) f = some z) (kk : ∀ s, f s = some z → sm_V X Q nL s (pc + 3) lv st) : sm_V X Q nL σ pc lv (.int v :: .ref (sm_ad (sm_w X) k) :: st) := by
  obtain ⟨cA, e1, e2, e3, e4⟩ := hw
  exact sm_put C 16 (k := k) (σ' := sm_sI σ k 16 v) (by rw [e4]; exact mo_lt hk (by decide)) (by rw [e3]; exact mo_sh0 hk _ _ _) (by rw [e1]; rfl) imo_M kmo_M nmo_M (by decide) hl rfl rfl rfl rfl (Nat.le_of_ble_eq_true rfl) (by rw [e3, mo_sh0 hk, sm_sIk.1]; rfl) sm_sIo hd (kk _ h)
theorem mr_M_ofSmoke (C : sm_Cx X cc nL own fr lo ret) (hw : mo_is (sm_w X)) {index k : Nat} (hk : mo_tag k = 0) (hl : Cond.fieldLink own index "SmokeGoesToModel" "ofSmoke" "I" ∈ sm_G) (hd : decode cc pc = .ok (.getfield index, 3)) {f : Int32 → Option β} (h : sm_b (σ.1 k 17) f = some z) (kk : ∀ v, f v = some z → sm_V X Q nL σ (pc + 3) lv (.int v :: st)) : sm_V X Q nL σ pc lv (.ref (sm_ad (sm_w X) k) :: st) := by
  obtain ⟨cA, e1, e2, e3, e4⟩ := hw
  exact sm_get C 17 (k := k) (by rw [e4]; exact mo_lt hk (by decide)) (by rw [e3]; exact mo_sh0 hk _ _ _) (by rw [e1]; rfl) imo_M (by decide) hl rfl hd (kk _ h)
theorem mp_M_ofSmoke (C : sm_Cx X cc nL own fr lo ret) (hw : mo_is (sm_w X)) {index k : Nat} (hk : mo_tag k = 0) (hl : Cond.fieldLink own index "SmokeGoesToModel" "ofSmoke" "I" ∈ sm_G) (hd : decode cc pc = .ok (.putfield index, 3)) {f : sm_St → Option β} {v : Int32} (h : sm_b (sm_sI σ k 17 v) f = some z) (kk : ∀ s, f s = some z → sm_V X Q nL s (pc + 3) lv st) : sm_V X Q nL σ pc lv (.int v :: .ref (sm_ad (sm_w X) k) :: st) := by
  obtain ⟨cA, e1, e2, e3, e4⟩ := hw
  exact sm_put C 17 (k := k) (σ' := sm_sI σ k 17 v) (by rw [e4]; exact mo_lt hk (by decide)) (by rw [e3]; exact mo_sh0 hk _ _ _) (by rw [e1]; rfl) imo_M kmo_M nmo_M (by decide) hl rfl rfl rfl rfl (Nat.le_of_ble_eq_true rfl) (by rw [e3, mo_sh0 hk, sm_sIk.1]; rfl) sm_sIo hd (kk _ h)
theorem mr_M_ofMinute (C : sm_Cx X cc nL own fr lo ret) (hw : mo_is (sm_w X)) {index k : Nat} (hk : mo_tag k = 0) (hl : Cond.fieldLink own index "SmokeGoesToModel" "ofMinute" "I" ∈ sm_G) (hd : decode cc pc = .ok (.getfield index, 3)) {f : Int32 → Option β} (h : sm_b (σ.1 k 18) f = some z) (kk : ∀ v, f v = some z → sm_V X Q nL σ (pc + 3) lv (.int v :: st)) : sm_V X Q nL σ pc lv (.ref (sm_ad (sm_w X) k) :: st) := by
  obtain ⟨cA, e1, e2, e3, e4⟩ := hw
  exact sm_get C 18 (k := k) (by rw [e4]; exact mo_lt hk (by decide)) (by rw [e3]; exact mo_sh0 hk _ _ _) (by rw [e1]; rfl) imo_M (by decide) hl rfl hd (kk _ h)
theorem mp_M_ofMinute (C : sm_Cx X cc nL own fr lo ret) (hw : mo_is (sm_w X)) {index k : Nat} (hk : mo_tag k = 0) (hl : Cond.fieldLink own index "SmokeGoesToModel" "ofMinute" "I" ∈ sm_G) (hd : decode cc pc = .ok (.putfield index, 3)) {f : sm_St → Option β} {v : Int32} (h : sm_b (sm_sI σ k 18 v) f = some z) (kk : ∀ s, f s = some z → sm_V X Q nL s (pc + 3) lv st) : sm_V X Q nL σ pc lv (.int v :: .ref (sm_ad (sm_w X) k) :: st) := by
  obtain ⟨cA, e1, e2, e3, e4⟩ := hw
  exact sm_put C 18 (k := k) (σ' := sm_sI σ k 18 v) (by rw [e4]; exact mo_lt hk (by decide)) (by rw [e3]; exact mo_sh0 hk _ _ _) (by rw [e1]; rfl) imo_M kmo_M nmo_M (by decide) hl rfl rfl rfl rfl (Nat.le_of_ble_eq_true rfl) (by rw [e3, mo_sh0 hk, sm_sIk.1]; rfl) sm_sIo hd (kk _ h)
theorem mr_M_ofLong (C : sm_Cx X cc nL own fr lo ret) (hw : mo_is (sm_w X)) {index k : Nat} (hk : mo_tag k = 0) (hl : Cond.fieldLink own index "SmokeGoesToModel" "ofLong" "I" ∈ sm_G) (hd : decode cc pc = .ok (.getfield index, 3)) {f : Int32 → Option β} (h : sm_b (σ.1 k 19) f = some z) (kk : ∀ v, f v = some z → sm_V X Q nL σ (pc + 3) lv (.int v :: st)) : sm_V X Q nL σ pc lv (.ref (sm_ad (sm_w X) k) :: st) := by
  obtain ⟨cA, e1, e2, e3, e4⟩ := hw
  exact sm_get C 19 (k := k) (by rw [e4]; exact mo_lt hk (by decide)) (by rw [e3]; exact mo_sh0 hk _ _ _) (by rw [e1]; rfl) imo_M (by decide) hl rfl hd (kk _ h)
theorem mp_M_ofLong (C : sm_Cx X cc nL own fr lo ret) (hw : mo_is (sm_w X)) {index k : Nat} (hk : mo_tag k = 0) (hl : Cond.fieldLink own index "SmokeGoesToModel" "ofLong" "I" ∈ sm_G) (hd : decode cc pc = .ok (.putfield index, 3)) {f : sm_St → Option β} {v : Int32} (h : sm_b (sm_sI σ k 19 v) f = some z) (kk : ∀ s, f s = some z → sm_V X Q nL s (pc + 3) lv st) : sm_V X Q nL σ pc lv (.int v :: .ref (sm_ad (sm_w X) k) :: st) := by
  obtain ⟨cA, e1, e2, e3, e4⟩ := hw
  exact sm_put C 19 (k := k) (σ' := sm_sI σ k 19 v) (by rw [e4]; exact mo_lt hk (by decide)) (by rw [e3]; exact mo_sh0 hk _ _ _) (by rw [e1]; rfl) imo_M kmo_M nmo_M (by decide) hl rfl rfl rfl rfl (Nat.le_of_ble_eq_true rfl) (by rw [e3, mo_sh0 hk, sm_sIk.1]; rfl) sm_sIo hd (kk _ h)
theorem mr_M_ofNumber (C : sm_Cx X cc nL own fr lo ret) (hw : mo_is (sm_w X)) {index k : Nat} (hk : mo_tag k = 0) (hl : Cond.fieldLink own index "SmokeGoesToModel" "ofNumber" "I" ∈ sm_G) (hd : decode cc pc = .ok (.getfield index, 3)) {f : Int32 → Option β} (h : sm_b (σ.1 k 20) f = some z) (kk : ∀ v, f v = some z → sm_V X Q nL σ (pc + 3) lv (.int v :: st)) : sm_V X Q nL σ pc lv (.ref (sm_ad (sm_w X) k) :: st) := by
  obtain ⟨cA, e1, e2, e3, e4⟩ := hw
  exact sm_get C 20 (k := k) (by rw [e4]; exact mo_lt hk (by decide)) (by rw [e3]; exact mo_sh0 hk _ _ _) (by rw [e1]; rfl) imo_M (by decide) hl rfl hd (kk _ h)
theorem mp_M_ofNumber (C : sm_Cx X cc nL own fr lo ret) (hw : mo_is (sm_w X)) {index k : Nat} (hk : mo_tag k = 0) (hl : Cond.fieldLink own index "SmokeGoesToModel" "ofNumber" "I" ∈ sm_G) (hd : decode cc pc = .ok (.putfield index, 3)) {f : sm_St → Option β} {v : Int32} (h : sm_b (sm_sI σ k 20 v) f = some z) (kk : ∀ s, f s = some z → sm_V X Q nL s (pc + 3) lv st) : sm_V X Q nL σ pc lv (.int v :: .ref (sm_ad (sm_w X) k) :: st) := by
  obtain ⟨cA, e1, e2, e3, e4⟩ := hw
  exact sm_put C 20 (k := k) (σ' := sm_sI σ k 20 v) (by rw [e4]; exact mo_lt hk (by decide)) (by rw [e3]; exact mo_sh0 hk _ _ _) (by rw [e1]; rfl) imo_M kmo_M nmo_M (by decide) hl rfl rfl rfl rfl (Nat.le_of_ble_eq_true rfl) (by rw [e3, mo_sh0 hk, sm_sIk.1]; rfl) sm_sIo hd (kk _ h)
theorem mr_M_ofSitter (C : sm_Cx X cc nL own fr lo ret) (hw : mo_is (sm_w X)) {index k : Nat} (hk : mo_tag k = 0) (hl : Cond.fieldLink own index "SmokeGoesToModel" "ofSitter" "I" ∈ sm_G) (hd : decode cc pc = .ok (.getfield index, 3)) {f : Int32 → Option β} (h : sm_b (σ.1 k 21) f = some z) (kk : ∀ v, f v = some z → sm_V X Q nL σ (pc + 3) lv (.int v :: st)) : sm_V X Q nL σ pc lv (.ref (sm_ad (sm_w X) k) :: st) := by
  obtain ⟨cA, e1, e2, e3, e4⟩ := hw
  exact sm_get C 21 (k := k) (by rw [e4]; exact mo_lt hk (by decide)) (by rw [e3]; exact mo_sh0 hk _ _ _) (by rw [e1]; rfl) imo_M (by decide) hl rfl hd (kk _ h)
theorem mp_M_ofSitter (C : sm_Cx X cc nL own fr lo ret) (hw : mo_is (sm_w X)) {index k : Nat} (hk : mo_tag k = 0) (hl : Cond.fieldLink own index "SmokeGoesToModel" "ofSitter" "I" ∈ sm_G) (hd : decode cc pc = .ok (.putfield index, 3)) {f : sm_St → Option β} {v : Int32} (h : sm_b (sm_sI σ k 21 v) f = some z) (kk : ∀ s, f s = some z → sm_V X Q nL s (pc + 3) lv st) : sm_V X Q nL σ pc lv (.int v :: .ref (sm_ad (sm_w X) k) :: st) := by
  obtain ⟨cA, e1, e2, e3, e4⟩ := hw
  exact sm_put C 21 (k := k) (σ' := sm_sI σ k 21 v) (by rw [e4]; exact mo_lt hk (by decide)) (by rw [e3]; exact mo_sh0 hk _ _ _) (by rw [e1]; rfl) imo_M kmo_M nmo_M (by decide) hl rfl rfl rfl rfl (Nat.le_of_ble_eq_true rfl) (by rw [e3, mo_sh0 hk, sm_sIk.1]; rfl) sm_sIo hd (kk _ h)
theorem mr_M_from (C : sm_Cx X cc nL own fr lo ret) (hw : mo_is (sm_w X)) {index k : Nat} (hk : mo_tag k = 0) (hl : Cond.fieldLink own index "SmokeGoesToModel" "from" "I" ∈ sm_G) (hd : decode cc pc = .ok (.getfield index, 3)) {f : Int32 → Option β} (h : sm_b (σ.1 k 22) f = some z) (kk : ∀ v, f v = some z → sm_V X Q nL σ (pc + 3) lv (.int v :: st)) : sm_V X Q nL σ pc lv (.ref (sm_ad (sm_w X) k) :: st) := by
  obtain ⟨cA, e1, e2, e3, e4⟩ := hw
  exact sm_get C 22 (k := k) (by rw [e4]; exact mo_lt hk (by decide)) (by rw [e3]; exact mo_sh0 hk _ _ _) (by rw [e1]; rfl) imo_M (by decide) hl rfl hd (kk _ h)
theorem mp_M_from (C : sm_Cx X cc nL own fr lo ret) (hw : mo_is (sm_w X)) {index k : Nat} (hk : mo_tag k = 0) (hl : Cond.fieldLink own index "SmokeGoesToModel" "from" "I" ∈ sm_G) (hd : decode cc pc = .ok (.putfield index, 3)) {f : sm_St → Option β} {v : Int32} (h : sm_b (sm_sI σ k 22 v) f = some z) (kk : ∀ s, f s = some z → sm_V X Q nL s (pc + 3) lv st) : sm_V X Q nL σ pc lv (.int v :: .ref (sm_ad (sm_w X) k) :: st) := by
  obtain ⟨cA, e1, e2, e3, e4⟩ := hw
  exact sm_put C 22 (k := k) (σ' := sm_sI σ k 22 v) (by rw [e4]; exact mo_lt hk (by decide)) (by rw [e3]; exact mo_sh0 hk _ _ _) (by rw [e1]; rfl) imo_M kmo_M nmo_M (by decide) hl rfl rfl rfl rfl (Nat.le_of_ble_eq_true rfl) (by rw [e3, mo_sh0 hk, sm_sIk.1]; rfl) sm_sIo hd (kk _ h)
theorem mr_M_size (C : sm_Cx X cc nL own fr lo ret) (hw : mo_is (sm_w X)) {index k : Nat} (hk : mo_tag k = 0) (hl : Cond.fieldLink own index "SmokeGoesToModel" "size" "I" ∈ sm_G) (hd : decode cc pc = .ok (.getfield index, 3)) {f : Int32 → Option β} (h : sm_b (σ.1 k 23) f = some z) (kk : ∀ v, f v = some z → sm_V X Q nL σ (pc + 3) lv (.int v :: st)) : sm_V X Q nL σ pc lv (.ref (sm_ad (sm_w X) k) :: st) := by
  obtain ⟨cA, e1, e2, e3, e4⟩ := hw
  exact sm_get C 23 (k := k) (by rw [e4]; exact mo_lt hk (by decide)) (by rw [e3]; exact mo_sh0 hk _ _ _) (by rw [e1]; rfl) imo_M (by decide) hl rfl hd (kk _ h)
theorem mp_M_size (C : sm_Cx X cc nL own fr lo ret) (hw : mo_is (sm_w X)) {index k : Nat} (hk : mo_tag k = 0) (hl : Cond.fieldLink own index "SmokeGoesToModel" "size" "I" ∈ sm_G) (hd : decode cc pc = .ok (.putfield index, 3)) {f : sm_St → Option β} {v : Int32} (h : sm_b (sm_sI σ k 23 v) f = some z) (kk : ∀ s, f s = some z → sm_V X Q nL s (pc + 3) lv st) : sm_V X Q nL σ pc lv (.int v :: .ref (sm_ad (sm_w X) k) :: st) := by
  obtain ⟨cA, e1, e2, e3, e4⟩ := hw
  exact sm_put C 23 (k := k) (σ' := sm_sI σ k 23 v) (by rw [e4]; exact mo_lt hk (by decide)) (by rw [e3]; exact mo_sh0 hk _ _ _) (by rw [e1]; rfl) imo_M kmo_M nmo_M (by decide) hl rfl rfl rfl rfl (Nat.le_of_ble_eq_true rfl) (by rw [e3, mo_sh0 hk, sm_sIk.1]; rfl) sm_sIo hd (kk _ h)
theorem mr_M_here (C : sm_Cx X cc nL own fr lo ret) (hw : mo_is (sm_w X)) {index k : Nat} (hk : mo_tag k = 0) (hl : Cond.fieldLink own index "SmokeGoesToModel" "here" "I" ∈ sm_G) (hd : decode cc pc = .ok (.getfield index, 3)) {f : Int32 → Option β} (h : sm_b (σ.1 k 24) f = some z) (kk : ∀ v, f v = some z → sm_V X Q nL σ (pc + 3) lv (.int v :: st)) : sm_V X Q nL σ pc lv (.ref (sm_ad (sm_w X) k) :: st) := by
  obtain ⟨cA, e1, e2, e3, e4⟩ := hw
  exact sm_get C 24 (k := k) (by rw [e4]; exact mo_lt hk (by decide)) (by rw [e3]; exact mo_sh0 hk _ _ _) (by rw [e1]; rfl) imo_M (by decide) hl rfl hd (kk _ h)
theorem mp_M_here (C : sm_Cx X cc nL own fr lo ret) (hw : mo_is (sm_w X)) {index k : Nat} (hk : mo_tag k = 0) (hl : Cond.fieldLink own index "SmokeGoesToModel" "here" "I" ∈ sm_G) (hd : decode cc pc = .ok (.putfield index, 3)) {f : sm_St → Option β} {v : Int32} (h : sm_b (sm_sI σ k 24 v) f = some z) (kk : ∀ s, f s = some z → sm_V X Q nL s (pc + 3) lv st) : sm_V X Q nL σ pc lv (.int v :: .ref (sm_ad (sm_w X) k) :: st) := by
  obtain ⟨cA, e1, e2, e3, e4⟩ := hw
  exact sm_put C 24 (k := k) (σ' := sm_sI σ k 24 v) (by rw [e4]; exact mo_lt hk (by decide)) (by rw [e3]; exact mo_sh0 hk _ _ _) (by rw [e1]; rfl) imo_M kmo_M nmo_M (by decide) hl rfl rfl rfl rfl (Nat.le_of_ble_eq_true rfl) (by rw [e3, mo_sh0 hk, sm_sIk.1]; rfl) sm_sIo hd (kk _ h)
theorem mr_M_token (C : sm_Cx X cc nL own fr lo ret) (hw : mo_is (sm_w X)) {index k : Nat} (hk : mo_tag k = 0) (hl : Cond.fieldLink own index "SmokeGoesToModel" "token" "I" ∈ sm_G) (hd : decode cc pc = .ok (.getfield index, 3)) {f : Int32 → Option β} (h : sm_b (σ.1 k 25) f = some z) (kk : ∀ v, f v = some z → sm_V X Q nL σ (pc + 3) lv (.int v :: st)) : sm_V X Q nL σ pc lv (.ref (sm_ad (sm_w X) k) :: st) := by
  obtain ⟨cA, e1, e2, e3, e4⟩ := hw
  exact sm_get C 25 (k := k) (by rw [e4]; exact mo_lt hk (by decide)) (by rw [e3]; exact mo_sh0 hk _ _ _) (by rw [e1]; rfl) imo_M (by decide) hl rfl hd (kk _ h)
theorem mp_M_token (C : sm_Cx X cc nL own fr lo ret) (hw : mo_is (sm_w X)) {index k : Nat} (hk : mo_tag k = 0) (hl : Cond.fieldLink own index "SmokeGoesToModel" "token" "I" ∈ sm_G) (hd : decode cc pc = .ok (.putfield index, 3)) {f : sm_St → Option β} {v : Int32} (h : sm_b (sm_sI σ k 25 v) f = some z) (kk : ∀ s, f s = some z → sm_V X Q nL s (pc + 3) lv st) : sm_V X Q nL σ pc lv (.int v :: .ref (sm_ad (sm_w X) k) :: st) := by
  obtain ⟨cA, e1, e2, e3, e4⟩ := hw
  exact sm_put C 25 (k := k) (σ' := sm_sI σ k 25 v) (by rw [e4]; exact mo_lt hk (by decide)) (by rw [e3]; exact mo_sh0 hk _ _ _) (by rw [e1]; rfl) imo_M kmo_M nmo_M (by decide) hl rfl rfl rfl rfl (Nat.le_of_ble_eq_true rfl) (by rw [e3, mo_sh0 hk, sm_sIk.1]; rfl) sm_sIo hd (kk _ h)
theorem mr_M_tokenAt (C : sm_Cx X cc nL own fr lo ret) (hw : mo_is (sm_w X)) {index k : Nat} (hk : mo_tag k = 0) (hl : Cond.fieldLink own index "SmokeGoesToModel" "tokenAt" "I" ∈ sm_G) (hd : decode cc pc = .ok (.getfield index, 3)) {f : Int32 → Option β} (h : sm_b (σ.1 k 26) f = some z) (kk : ∀ v, f v = some z → sm_V X Q nL σ (pc + 3) lv (.int v :: st)) : sm_V X Q nL σ pc lv (.ref (sm_ad (sm_w X) k) :: st) := by
  obtain ⟨cA, e1, e2, e3, e4⟩ := hw
  exact sm_get C 26 (k := k) (by rw [e4]; exact mo_lt hk (by decide)) (by rw [e3]; exact mo_sh0 hk _ _ _) (by rw [e1]; rfl) imo_M (by decide) hl rfl hd (kk _ h)
theorem mp_M_tokenAt (C : sm_Cx X cc nL own fr lo ret) (hw : mo_is (sm_w X)) {index k : Nat} (hk : mo_tag k = 0) (hl : Cond.fieldLink own index "SmokeGoesToModel" "tokenAt" "I" ∈ sm_G) (hd : decode cc pc = .ok (.putfield index, 3)) {f : sm_St → Option β} {v : Int32} (h : sm_b (sm_sI σ k 26 v) f = some z) (kk : ∀ s, f s = some z → sm_V X Q nL s (pc + 3) lv st) : sm_V X Q nL σ pc lv (.int v :: .ref (sm_ad (sm_w X) k) :: st) := by
  obtain ⟨cA, e1, e2, e3, e4⟩ := hw
  exact sm_put C 26 (k := k) (σ' := sm_sI σ k 26 v) (by rw [e4]; exact mo_lt hk (by decide)) (by rw [e3]; exact mo_sh0 hk _ _ _) (by rw [e1]; rfl) imo_M kmo_M nmo_M (by decide) hl rfl rfl rfl rfl (Nat.le_of_ble_eq_true rfl) (by rw [e3, mo_sh0 hk, sm_sIk.1]; rfl) sm_sIo hd (kk _ h)
theorem mr_M_tokenWorth (C : sm_Cx X cc nL own fr lo ret) (hw : mo_is (sm_w X)) {index k : Nat} (hk : mo_tag k = 0) (hl : Cond.fieldLink own index "SmokeGoesToModel" "tokenWorth" "J" ∈ sm_G) (hd : decode cc pc = .ok (.getfield index, 3)) {f : Int64 → Option β} (h : sm_b (σ.2.1 k 27) f = some z) (kk : ∀ v, f v = some z → sm_V X Q nL σ (pc + 3) lv (.long v :: st)) : sm_V X Q nL σ pc lv (.ref (sm_ad (sm_w X) k) :: st) := by
  obtain ⟨cA, e1, e2, e3, e4⟩ := hw
  exact sm_get C 27 (k := k) (by rw [e4]; exact mo_lt hk (by decide)) (by rw [e3]; exact mo_sh0 hk _ _ _) (by rw [e1]; rfl) imo_M (by decide) hl rfl hd (kk _ h)
theorem mp_M_tokenWorth (C : sm_Cx X cc nL own fr lo ret) (hw : mo_is (sm_w X)) {index k : Nat} (hk : mo_tag k = 0) (hl : Cond.fieldLink own index "SmokeGoesToModel" "tokenWorth" "J" ∈ sm_G) (hd : decode cc pc = .ok (.putfield index, 3)) {f : sm_St → Option β} {v : Int64} (h : sm_b (sm_sL σ k 27 v) f = some z) (kk : ∀ s, f s = some z → sm_V X Q nL s (pc + 3) lv st) : sm_V X Q nL σ pc lv (.long v :: .ref (sm_ad (sm_w X) k) :: st) := by
  obtain ⟨cA, e1, e2, e3, e4⟩ := hw
  exact sm_put C 27 (k := k) (σ' := sm_sL σ k 27 v) (by rw [e4]; exact mo_lt hk (by decide)) (by rw [e3]; exact mo_sh0 hk _ _ _) (by rw [e1]; rfl) imo_M kmo_M nmo_M (by decide) hl rfl rfl rfl rfl (Nat.le_of_ble_eq_true rfl) (by rw [e3, mo_sh0 hk, sm_sLk.2.1]; rfl) sm_sLo hd (kk _ h)
theorem mr_M_open (C : sm_Cx X cc nL own fr lo ret) (hw : mo_is (sm_w X)) {index k : Nat} (hk : mo_tag k = 0) (hl : Cond.fieldLink own index "SmokeGoesToModel" "open" "I" ∈ sm_G) (hd : decode cc pc = .ok (.getfield index, 3)) {f : Int32 → Option β} (h : sm_b (σ.1 k 28) f = some z) (kk : ∀ v, f v = some z → sm_V X Q nL σ (pc + 3) lv (.int v :: st)) : sm_V X Q nL σ pc lv (.ref (sm_ad (sm_w X) k) :: st) := by
  obtain ⟨cA, e1, e2, e3, e4⟩ := hw
  exact sm_get C 28 (k := k) (by rw [e4]; exact mo_lt hk (by decide)) (by rw [e3]; exact mo_sh0 hk _ _ _) (by rw [e1]; rfl) imo_M (by decide) hl rfl hd (kk _ h)
theorem mp_M_open (C : sm_Cx X cc nL own fr lo ret) (hw : mo_is (sm_w X)) {index k : Nat} (hk : mo_tag k = 0) (hl : Cond.fieldLink own index "SmokeGoesToModel" "open" "I" ∈ sm_G) (hd : decode cc pc = .ok (.putfield index, 3)) {f : sm_St → Option β} {v : Int32} (h : sm_b (sm_sI σ k 28 v) f = some z) (kk : ∀ s, f s = some z → sm_V X Q nL s (pc + 3) lv st) : sm_V X Q nL σ pc lv (.int v :: .ref (sm_ad (sm_w X) k) :: st) := by
  obtain ⟨cA, e1, e2, e3, e4⟩ := hw
  exact sm_put C 28 (k := k) (σ' := sm_sI σ k 28 v) (by rw [e4]; exact mo_lt hk (by decide)) (by rw [e3]; exact mo_sh0 hk _ _ _) (by rw [e1]; rfl) imo_M kmo_M nmo_M (by decide) hl rfl rfl rfl rfl (Nat.le_of_ble_eq_true rfl) (by rw [e3, mo_sh0 hk, sm_sIk.1]; rfl) sm_sIo hd (kk _ h)
theorem mr_M_bad (C : sm_Cx X cc nL own fr lo ret) (hw : mo_is (sm_w X)) {index k : Nat} (hk : mo_tag k = 0) (hl : Cond.fieldLink own index "SmokeGoesToModel" "bad" "Z" ∈ sm_G) (hd : decode cc pc = .ok (.getfield index, 3)) {f : Int32 → Option β} (h : sm_b (σ.1 k 29) f = some z) (kk : ∀ v, f v = some z → sm_V X Q nL σ (pc + 3) lv (.int v :: st)) : sm_V X Q nL σ pc lv (.ref (sm_ad (sm_w X) k) :: st) := by
  obtain ⟨cA, e1, e2, e3, e4⟩ := hw
  exact sm_get C 29 (k := k) (by rw [e4]; exact mo_lt hk (by decide)) (by rw [e3]; exact mo_sh0 hk _ _ _) (by rw [e1]; rfl) imo_M (by decide) hl rfl hd (kk _ h)
theorem mp_M_bad (C : sm_Cx X cc nL own fr lo ret) (hw : mo_is (sm_w X)) {index k : Nat} (hk : mo_tag k = 0) (hl : Cond.fieldLink own index "SmokeGoesToModel" "bad" "Z" ∈ sm_G) (hd : decode cc pc = .ok (.putfield index, 3)) {f : sm_St → Option β} {v : Int32} (hv : v = 0 ∨ v = 1) (h : sm_b (sm_sI σ k 29 v) f = some z) (kk : ∀ s, f s = some z → sm_V X Q nL s (pc + 3) lv st) : sm_V X Q nL σ pc lv (.int v :: .ref (sm_ad (sm_w X) k) :: st) := by
  obtain ⟨cA, e1, e2, e3, e4⟩ := hw
  exact sm_put C 29 (k := k) (σ' := sm_sI σ k 29 v) (by rw [e4]; exact mo_lt hk (by decide)) (by rw [e3]; exact mo_sh0 hk _ _ _) (by rw [e1]; rfl) imo_M kmo_M nmo_M (by decide) hl rfl rfl (by rcases hv with rfl | rfl <;> rfl) (by rcases hv with rfl | rfl <;> rfl) (Nat.le_of_ble_eq_true rfl) (by rw [e3, mo_sh0 hk, sm_sIk.1]; rfl) sm_sIo hd (kk _ h)
theorem mr_M_fault (C : sm_Cx X cc nL own fr lo ret) (hw : mo_is (sm_w X)) {index k : Nat} (hk : mo_tag k = 0) (hl : Cond.fieldLink own index "SmokeGoesToModel" "fault" "I" ∈ sm_G) (hd : decode cc pc = .ok (.getfield index, 3)) {f : Int32 → Option β} (h : sm_b (σ.1 k 30) f = some z) (kk : ∀ v, f v = some z → sm_V X Q nL σ (pc + 3) lv (.int v :: st)) : sm_V X Q nL σ pc lv (.ref (sm_ad (sm_w X) k) :: st) := by
  obtain ⟨cA, e1, e2, e3, e4⟩ := hw
  exact sm_get C 30 (k := k) (by rw [e4]; exact mo_lt hk (by decide)) (by rw [e3]; exact mo_sh0 hk _ _ _) (by rw [e1]; rfl) imo_M (by decide) hl rfl hd (kk _ h)
theorem mp_M_fault (C : sm_Cx X cc nL own fr lo ret) (hw : mo_is (sm_w X)) {index k : Nat} (hk : mo_tag k = 0) (hl : Cond.fieldLink own index "SmokeGoesToModel" "fault" "I" ∈ sm_G) (hd : decode cc pc = .ok (.putfield index, 3)) {f : sm_St → Option β} {v : Int32} (h : sm_b (sm_sI σ k 30 v) f = some z) (kk : ∀ s, f s = some z → sm_V X Q nL s (pc + 3) lv st) : sm_V X Q nL σ pc lv (.int v :: .ref (sm_ad (sm_w X) k) :: st) := by
  obtain ⟨cA, e1, e2, e3, e4⟩ := hw
  exact sm_put C 30 (k := k) (σ' := sm_sI σ k 30 v) (by rw [e4]; exact mo_lt hk (by decide)) (by rw [e3]; exact mo_sh0 hk _ _ _) (by rw [e1]; rfl) imo_M kmo_M nmo_M (by decide) hl rfl rfl rfl rfl (Nat.le_of_ble_eq_true rfl) (by rw [e3, mo_sh0 hk, sm_sIk.1]; rfl) sm_sIo hd (kk _ h)
theorem mr_M_longNow (C : sm_Cx X cc nL own fr lo ret) (hw : mo_is (sm_w X)) {index k : Nat} (hk : mo_tag k = 0) (hl : Cond.fieldLink own index "SmokeGoesToModel" "longNow" "[I" ∈ sm_G) (hd : decode cc pc = .ok (.getfield index, 3)) (kk : sm_V X Q nL σ (pc + 3) lv (.ref (sm_ad (sm_w X) 7) :: st)) : sm_V X Q nL σ pc lv (.ref (sm_ad (sm_w X) k) :: st) := by
  obtain ⟨cA, e1, e2, e3, e4⟩ := hw
  exact sm_get C 31 (k := k) (by rw [e4]; exact mo_lt hk (by decide)) (by rw [e3]; exact mo_sh0 hk _ _ _) (by rw [e1]; rfl) imo_M (by decide) hl rfl hd (kk)
theorem mr_M_costs (C : sm_Cx X cc nL own fr lo ret) (hw : mo_is (sm_w X)) {index k : Nat} (hk : mo_tag k = 0) (hl : Cond.fieldLink own index "SmokeGoesToModel" "costs" "[I" ∈ sm_G) (hd : decode cc pc = .ok (.getfield index, 3)) (kk : sm_V X Q nL σ (pc + 3) lv (.ref (sm_ad (sm_w X) 8) :: st)) : sm_V X Q nL σ pc lv (.ref (sm_ad (sm_w X) k) :: st) := by
  obtain ⟨cA, e1, e2, e3, e4⟩ := hw
  exact sm_get C 32 (k := k) (by rw [e4]; exact mo_lt hk (by decide)) (by rw [e3]; exact mo_sh0 hk _ _ _) (by rw [e1]; rfl) imo_M (by decide) hl rfl hd (kk)
theorem mr_M_smoked (C : sm_Cx X cc nL own fr lo ret) (hw : mo_is (sm_w X)) {index k : Nat} (hk : mo_tag k = 0) (hl : Cond.fieldLink own index "SmokeGoesToModel" "smoked" "[I" ∈ sm_G) (hd : decode cc pc = .ok (.getfield index, 3)) (kk : sm_V X Q nL σ (pc + 3) lv (.ref (sm_ad (sm_w X) 9) :: st)) : sm_V X Q nL σ pc lv (.ref (sm_ad (sm_w X) k) :: st) := by
  obtain ⟨cA, e1, e2, e3, e4⟩ := hw
  exact sm_get C 33 (k := k) (by rw [e4]; exact mo_lt hk (by decide)) (by rw [e3]; exact mo_sh0 hk _ _ _) (by rw [e1]; rfl) imo_M (by decide) hl rfl hd (kk)
theorem mr_M_longest (C : sm_Cx X cc nL own fr lo ret) (hw : mo_is (sm_w X)) {index k : Nat} (hk : mo_tag k = 0) (hl : Cond.fieldLink own index "SmokeGoesToModel" "longest" "[I" ∈ sm_G) (hd : decode cc pc = .ok (.getfield index, 3)) (kk : sm_V X Q nL σ (pc + 3) lv (.ref (sm_ad (sm_w X) 10) :: st)) : sm_V X Q nL σ pc lv (.ref (sm_ad (sm_w X) k) :: st) := by
  obtain ⟨cA, e1, e2, e3, e4⟩ := hw
  exact sm_get C 34 (k := k) (by rw [e4]; exact mo_lt hk (by decide)) (by rw [e3]; exact mo_sh0 hk _ _ _) (by rw [e1]; rfl) imo_M (by decide) hl rfl hd (kk)
theorem mr_M_risen (C : sm_Cx X cc nL own fr lo ret) (hw : mo_is (sm_w X)) {index k : Nat} (hk : mo_tag k = 0) (hl : Cond.fieldLink own index "SmokeGoesToModel" "risen" "[I" ∈ sm_G) (hd : decode cc pc = .ok (.getfield index, 3)) (kk : sm_V X Q nL σ (pc + 3) lv (.ref (sm_ad (sm_w X) 11) :: st)) : sm_V X Q nL σ pc lv (.ref (sm_ad (sm_w X) k) :: st) := by
  obtain ⟨cA, e1, e2, e3, e4⟩ := hw
  exact sm_get C 35 (k := k) (by rw [e4]; exact mo_lt hk (by decide)) (by rw [e3]; exact mo_sh0 hk _ _ _) (by rw [e1]; rfl) imo_M (by decide) hl rfl hd (kk)
theorem mr_M_leftPlace (C : sm_Cx X cc nL own fr lo ret) (hw : mo_is (sm_w X)) {index k : Nat} (hk : mo_tag k = 0) (hl : Cond.fieldLink own index "SmokeGoesToModel" "leftPlace" "[I" ∈ sm_G) (hd : decode cc pc = .ok (.getfield index, 3)) (kk : sm_V X Q nL σ (pc + 3) lv (.ref (sm_ad (sm_w X) 12) :: st)) : sm_V X Q nL σ pc lv (.ref (sm_ad (sm_w X) k) :: st) := by
  obtain ⟨cA, e1, e2, e3, e4⟩ := hw
  exact sm_get C 36 (k := k) (by rw [e4]; exact mo_lt hk (by decide)) (by rw [e3]; exact mo_sh0 hk _ _ _) (by rw [e1]; rfl) imo_M (by decide) hl rfl hd (kk)
theorem mr_M_upNow (C : sm_Cx X cc nL own fr lo ret) (hw : mo_is (sm_w X)) {index k : Nat} (hk : mo_tag k = 0) (hl : Cond.fieldLink own index "SmokeGoesToModel" "upNow" "I" ∈ sm_G) (hd : decode cc pc = .ok (.getfield index, 3)) {f : Int32 → Option β} (h : sm_b (σ.1 k 37) f = some z) (kk : ∀ v, f v = some z → sm_V X Q nL σ (pc + 3) lv (.int v :: st)) : sm_V X Q nL σ pc lv (.ref (sm_ad (sm_w X) k) :: st) := by
  obtain ⟨cA, e1, e2, e3, e4⟩ := hw
  exact sm_get C 37 (k := k) (by rw [e4]; exact mo_lt hk (by decide)) (by rw [e3]; exact mo_sh0 hk _ _ _) (by rw [e1]; rfl) imo_M (by decide) hl rfl hd (kk _ h)
theorem mp_M_upNow (C : sm_Cx X cc nL own fr lo ret) (hw : mo_is (sm_w X)) {index k : Nat} (hk : mo_tag k = 0) (hl : Cond.fieldLink own index "SmokeGoesToModel" "upNow" "I" ∈ sm_G) (hd : decode cc pc = .ok (.putfield index, 3)) {f : sm_St → Option β} {v : Int32} (h : sm_b (sm_sI σ k 37 v) f = some z) (kk : ∀ s, f s = some z → sm_V X Q nL s (pc + 3) lv st) : sm_V X Q nL σ pc lv (.int v :: .ref (sm_ad (sm_w X) k) :: st) := by
  obtain ⟨cA, e1, e2, e3, e4⟩ := hw
  exact sm_put C 37 (k := k) (σ' := sm_sI σ k 37 v) (by rw [e4]; exact mo_lt hk (by decide)) (by rw [e3]; exact mo_sh0 hk _ _ _) (by rw [e1]; rfl) imo_M kmo_M nmo_M (by decide) hl rfl rfl rfl rfl (Nat.le_of_ble_eq_true rfl) (by rw [e3, mo_sh0 hk, sm_sIk.1]; rfl) sm_sIo hd (kk _ h)
theorem mr_M_needless (C : sm_Cx X cc nL own fr lo ret) (hw : mo_is (sm_w X)) {index k : Nat} (hk : mo_tag k = 0) (hl : Cond.fieldLink own index "SmokeGoesToModel" "needless" "I" ∈ sm_G) (hd : decode cc pc = .ok (.getfield index, 3)) {f : Int32 → Option β} (h : sm_b (σ.1 k 38) f = some z) (kk : ∀ v, f v = some z → sm_V X Q nL σ (pc + 3) lv (.int v :: st)) : sm_V X Q nL σ pc lv (.ref (sm_ad (sm_w X) k) :: st) := by
  obtain ⟨cA, e1, e2, e3, e4⟩ := hw
  exact sm_get C 38 (k := k) (by rw [e4]; exact mo_lt hk (by decide)) (by rw [e3]; exact mo_sh0 hk _ _ _) (by rw [e1]; rfl) imo_M (by decide) hl rfl hd (kk _ h)
theorem mp_M_needless (C : sm_Cx X cc nL own fr lo ret) (hw : mo_is (sm_w X)) {index k : Nat} (hk : mo_tag k = 0) (hl : Cond.fieldLink own index "SmokeGoesToModel" "needless" "I" ∈ sm_G) (hd : decode cc pc = .ok (.putfield index, 3)) {f : sm_St → Option β} {v : Int32} (h : sm_b (sm_sI σ k 38 v) f = some z) (kk : ∀ s, f s = some z → sm_V X Q nL s (pc + 3) lv st) : sm_V X Q nL σ pc lv (.int v :: .ref (sm_ad (sm_w X) k) :: st) := by
  obtain ⟨cA, e1, e2, e3, e4⟩ := hw
  exact sm_put C 38 (k := k) (σ' := sm_sI σ k 38 v) (by rw [e4]; exact mo_lt hk (by decide)) (by rw [e3]; exact mo_sh0 hk _ _ _) (by rw [e1]; rfl) imo_M kmo_M nmo_M (by decide) hl rfl rfl rfl rfl (Nat.le_of_ble_eq_true rfl) (by rw [e3, mo_sh0 hk, sm_sIk.1]; rfl) sm_sIo hd (kk _ h)
theorem mr_M_aside (C : sm_Cx X cc nL own fr lo ret) (hw : mo_is (sm_w X)) {index k : Nat} (hk : mo_tag k = 0) (hl : Cond.fieldLink own index "SmokeGoesToModel" "aside" "[I" ∈ sm_G) (hd : decode cc pc = .ok (.getfield index, 3)) (kk : sm_V X Q nL σ (pc + 3) lv (.ref (sm_ad (sm_w X) 13) :: st)) : sm_V X Q nL σ pc lv (.ref (sm_ad (sm_w X) k) :: st) := by
  obtain ⟨cA, e1, e2, e3, e4⟩ := hw
  exact sm_get C 39 (k := k) (by rw [e4]; exact mo_lt hk (by decide)) (by rw [e3]; exact mo_sh0 hk _ _ _) (by rw [e1]; rfl) imo_M (by decide) hl rfl hd (kk)
theorem mr_M_parts (C : sm_Cx X cc nL own fr lo ret) (hw : mo_is (sm_w X)) {index k : Nat} (hk : mo_tag k = 0) (hl : Cond.fieldLink own index "SmokeGoesToModel" "parts" "[J" ∈ sm_G) (hd : decode cc pc = .ok (.getfield index, 3)) (kk : sm_V X Q nL σ (pc + 3) lv (.ref (sm_ad (sm_w X) 14) :: st)) : sm_V X Q nL σ pc lv (.ref (sm_ad (sm_w X) k) :: st) := by
  obtain ⟨cA, e1, e2, e3, e4⟩ := hw
  exact sm_get C 40 (k := k) (by rw [e4]; exact mo_lt hk (by decide)) (by rw [e3]; exact mo_sh0 hk _ _ _) (by rw [e1]; rfl) imo_M (by decide) hl rfl hd (kk)
theorem mr_M_then (C : sm_Cx X cc nL own fr lo ret) (hw : mo_is (sm_w X)) {index k : Nat} (hk : mo_tag k = 0) (hl : Cond.fieldLink own index "SmokeGoesToModel" "then" "[J" ∈ sm_G) (hd : decode cc pc = .ok (.getfield index, 3)) (kk : sm_V X Q nL σ (pc + 3) lv (.ref (sm_ad (sm_w X) 15) :: st)) : sm_V X Q nL σ pc lv (.ref (sm_ad (sm_w X) k) :: st) := by
  obtain ⟨cA, e1, e2, e3, e4⟩ := hw
  exact sm_get C 41 (k := k) (by rw [e4]; exact mo_lt hk (by decide)) (by rw [e3]; exact mo_sh0 hk _ _ _) (by rw [e1]; rfl) imo_M (by decide) hl rfl hd (kk)
theorem mr_M_means (C : sm_Cx X cc nL own fr lo ret) (hw : mo_is (sm_w X)) {index k : Nat} (hk : mo_tag k = 0) (hl : Cond.fieldLink own index "SmokeGoesToModel" "means" "[J" ∈ sm_G) (hd : decode cc pc = .ok (.getfield index, 3)) (kk : sm_V X Q nL σ (pc + 3) lv (.ref (sm_ad (sm_w X) 16) :: st)) : sm_V X Q nL σ pc lv (.ref (sm_ad (sm_w X) k) :: st) := by
  obtain ⟨cA, e1, e2, e3, e4⟩ := hw
  exact sm_get C 42 (k := k) (by rw [e4]; exact mo_lt hk (by decide)) (by rw [e3]; exact mo_sh0 hk _ _ _) (by rw [e1]; rfl) imo_M (by decide) hl rfl hd (kk)
theorem mr_M_below (C : sm_Cx X cc nL own fr lo ret) (hw : mo_is (sm_w X)) {index k : Nat} (hk : mo_tag k = 0) (hl : Cond.fieldLink own index "SmokeGoesToModel" "below" "J" ∈ sm_G) (hd : decode cc pc = .ok (.getfield index, 3)) {f : Int64 → Option β} (h : sm_b (σ.2.1 k 43) f = some z) (kk : ∀ v, f v = some z → sm_V X Q nL σ (pc + 3) lv (.long v :: st)) : sm_V X Q nL σ pc lv (.ref (sm_ad (sm_w X) k) :: st) := by
  obtain ⟨cA, e1, e2, e3, e4⟩ := hw
  exact sm_get C 43 (k := k) (by rw [e4]; exact mo_lt hk (by decide)) (by rw [e3]; exact mo_sh0 hk _ _ _) (by rw [e1]; rfl) imo_M (by decide) hl rfl hd (kk _ h)
theorem mp_M_below (C : sm_Cx X cc nL own fr lo ret) (hw : mo_is (sm_w X)) {index k : Nat} (hk : mo_tag k = 0) (hl : Cond.fieldLink own index "SmokeGoesToModel" "below" "J" ∈ sm_G) (hd : decode cc pc = .ok (.putfield index, 3)) {f : sm_St → Option β} {v : Int64} (h : sm_b (sm_sL σ k 43 v) f = some z) (kk : ∀ s, f s = some z → sm_V X Q nL s (pc + 3) lv st) : sm_V X Q nL σ pc lv (.long v :: .ref (sm_ad (sm_w X) k) :: st) := by
  obtain ⟨cA, e1, e2, e3, e4⟩ := hw
  exact sm_put C 43 (k := k) (σ' := sm_sL σ k 43 v) (by rw [e4]; exact mo_lt hk (by decide)) (by rw [e3]; exact mo_sh0 hk _ _ _) (by rw [e1]; rfl) imo_M kmo_M nmo_M (by decide) hl rfl rfl rfl rfl (Nat.le_of_ble_eq_true rfl) (by rw [e3, mo_sh0 hk, sm_sLk.2.1]; rfl) sm_sLo hd (kk _ h)
theorem mr_M_seats (C : sm_Cx X cc nL own fr lo ret) (hw : mo_is (sm_w X)) {index k : Nat} (hk : mo_tag k = 0) (hl : Cond.fieldLink own index "SmokeGoesToModel" "seats" "[I" ∈ sm_G) (hd : decode cc pc = .ok (.getfield index, 3)) (kk : sm_V X Q nL σ (pc + 3) lv (.ref (sm_ad (sm_w X) 17) :: st)) : sm_V X Q nL σ pc lv (.ref (sm_ad (sm_w X) k) :: st) := by
  obtain ⟨cA, e1, e2, e3, e4⟩ := hw
  exact sm_get C 44 (k := k) (by rw [e4]; exact mo_lt hk (by decide)) (by rw [e3]; exact mo_sh0 hk _ _ _) (by rw [e1]; rfl) imo_M (by decide) hl rfl hd (kk)
theorem mr_M_bestSeats (C : sm_Cx X cc nL own fr lo ret) (hw : mo_is (sm_w X)) {index k : Nat} (hk : mo_tag k = 0) (hl : Cond.fieldLink own index "SmokeGoesToModel" "bestSeats" "[I" ∈ sm_G) (hd : decode cc pc = .ok (.getfield index, 3)) (kk : sm_V X Q nL σ (pc + 3) lv (.ref (sm_ad (sm_w X) 18) :: st)) : sm_V X Q nL σ pc lv (.ref (sm_ad (sm_w X) k) :: st) := by
  obtain ⟨cA, e1, e2, e3, e4⟩ := hw
  exact sm_get C 45 (k := k) (by rw [e4]; exact mo_lt hk (by decide)) (by rw [e3]; exact mo_sh0 hk _ _ _) (by rw [e1]; rfl) imo_M (by decide) hl rfl hd (kk)
theorem mr_M_bestSum (C : sm_Cx X cc nL own fr lo ret) (hw : mo_is (sm_w X)) {index k : Nat} (hk : mo_tag k = 0) (hl : Cond.fieldLink own index "SmokeGoesToModel" "bestSum" "J" ∈ sm_G) (hd : decode cc pc = .ok (.getfield index, 3)) {f : Int64 → Option β} (h : sm_b (σ.2.1 k 46) f = some z) (kk : ∀ v, f v = some z → sm_V X Q nL σ (pc + 3) lv (.long v :: st)) : sm_V X Q nL σ pc lv (.ref (sm_ad (sm_w X) k) :: st) := by
  obtain ⟨cA, e1, e2, e3, e4⟩ := hw
  exact sm_get C 46 (k := k) (by rw [e4]; exact mo_lt hk (by decide)) (by rw [e3]; exact mo_sh0 hk _ _ _) (by rw [e1]; rfl) imo_M (by decide) hl rfl hd (kk _ h)
theorem mp_M_bestSum (C : sm_Cx X cc nL own fr lo ret) (hw : mo_is (sm_w X)) {index k : Nat} (hk : mo_tag k = 0) (hl : Cond.fieldLink own index "SmokeGoesToModel" "bestSum" "J" ∈ sm_G) (hd : decode cc pc = .ok (.putfield index, 3)) {f : sm_St → Option β} {v : Int64} (h : sm_b (sm_sL σ k 46 v) f = some z) (kk : ∀ s, f s = some z → sm_V X Q nL s (pc + 3) lv st) : sm_V X Q nL σ pc lv (.long v :: .ref (sm_ad (sm_w X) k) :: st) := by
  obtain ⟨cA, e1, e2, e3, e4⟩ := hw
  exact sm_put C 46 (k := k) (σ' := sm_sL σ k 46 v) (by rw [e4]; exact mo_lt hk (by decide)) (by rw [e3]; exact mo_sh0 hk _ _ _) (by rw [e1]; rfl) imo_M kmo_M nmo_M (by decide) hl rfl rfl rfl rfl (Nat.le_of_ble_eq_true rfl) (by rw [e3, mo_sh0 hk, sm_sLk.2.1]; rfl) sm_sLo hd (kk _ h)
theorem mr_M_isFound (C : sm_Cx X cc nL own fr lo ret) (hw : mo_is (sm_w X)) {index k : Nat} (hk : mo_tag k = 0) (hl : Cond.fieldLink own index "SmokeGoesToModel" "isFound" "Z" ∈ sm_G) (hd : decode cc pc = .ok (.getfield index, 3)) {f : Int32 → Option β} (h : sm_b (σ.1 k 47) f = some z) (kk : ∀ v, f v = some z → sm_V X Q nL σ (pc + 3) lv (.int v :: st)) : sm_V X Q nL σ pc lv (.ref (sm_ad (sm_w X) k) :: st) := by
  obtain ⟨cA, e1, e2, e3, e4⟩ := hw
  exact sm_get C 47 (k := k) (by rw [e4]; exact mo_lt hk (by decide)) (by rw [e3]; exact mo_sh0 hk _ _ _) (by rw [e1]; rfl) imo_M (by decide) hl rfl hd (kk _ h)
theorem mp_M_isFound (C : sm_Cx X cc nL own fr lo ret) (hw : mo_is (sm_w X)) {index k : Nat} (hk : mo_tag k = 0) (hl : Cond.fieldLink own index "SmokeGoesToModel" "isFound" "Z" ∈ sm_G) (hd : decode cc pc = .ok (.putfield index, 3)) {f : sm_St → Option β} {v : Int32} (hv : v = 0 ∨ v = 1) (h : sm_b (sm_sI σ k 47 v) f = some z) (kk : ∀ s, f s = some z → sm_V X Q nL s (pc + 3) lv st) : sm_V X Q nL σ pc lv (.int v :: .ref (sm_ad (sm_w X) k) :: st) := by
  obtain ⟨cA, e1, e2, e3, e4⟩ := hw
  exact sm_put C 47 (k := k) (σ' := sm_sI σ k 47 v) (by rw [e4]; exact mo_lt hk (by decide)) (by rw [e3]; exact mo_sh0 hk _ _ _) (by rw [e1]; rfl) imo_M kmo_M nmo_M (by decide) hl rfl rfl (by rcases hv with rfl | rfl <;> rfl) (by rcases hv with rfl | rfl <;> rfl) (Nat.le_of_ble_eq_true rfl) (by rw [e3, mo_sh0 hk, sm_sIk.1]; rfl) sm_sIo hd (kk _ h)
theorem mr_M_rowsMany (C : sm_Cx X cc nL own fr lo ret) (hw : mo_is (sm_w X)) {index k : Nat} (hk : mo_tag k = 0) (hl : Cond.fieldLink own index "SmokeGoesToModel" "rowsMany" "I" ∈ sm_G) (hd : decode cc pc = .ok (.getfield index, 3)) {f : Int32 → Option β} (h : sm_b (σ.1 k 48) f = some z) (kk : ∀ v, f v = some z → sm_V X Q nL σ (pc + 3) lv (.int v :: st)) : sm_V X Q nL σ pc lv (.ref (sm_ad (sm_w X) k) :: st) := by
  obtain ⟨cA, e1, e2, e3, e4⟩ := hw
  exact sm_get C 48 (k := k) (by rw [e4]; exact mo_lt hk (by decide)) (by rw [e3]; exact mo_sh0 hk _ _ _) (by rw [e1]; rfl) imo_M (by decide) hl rfl hd (kk _ h)
theorem mp_M_rowsMany (C : sm_Cx X cc nL own fr lo ret) (hw : mo_is (sm_w X)) {index k : Nat} (hk : mo_tag k = 0) (hl : Cond.fieldLink own index "SmokeGoesToModel" "rowsMany" "I" ∈ sm_G) (hd : decode cc pc = .ok (.putfield index, 3)) {f : sm_St → Option β} {v : Int32} (h : sm_b (sm_sI σ k 48 v) f = some z) (kk : ∀ s, f s = some z → sm_V X Q nL s (pc + 3) lv st) : sm_V X Q nL σ pc lv (.int v :: .ref (sm_ad (sm_w X) k) :: st) := by
  obtain ⟨cA, e1, e2, e3, e4⟩ := hw
  exact sm_put C 48 (k := k) (σ' := sm_sI σ k 48 v) (by rw [e4]; exact mo_lt hk (by decide)) (by rw [e3]; exact mo_sh0 hk _ _ _) (by rw [e1]; rfl) imo_M kmo_M nmo_M (by decide) hl rfl rfl rfl rfl (Nat.le_of_ble_eq_true rfl) (by rw [e3, mo_sh0 hk, sm_sIk.1]; rfl) sm_sIo hd (kk _ h)
theorem mr_M_rowsFirst (C : sm_Cx X cc nL own fr lo ret) (hw : mo_is (sm_w X)) {index k : Nat} (hk : mo_tag k = 0) (hl : Cond.fieldLink own index "SmokeGoesToModel" "rowsFirst" "I" ∈ sm_G) (hd : decode cc pc = .ok (.getfield index, 3)) {f : Int32 → Option β} (h : sm_b (σ.1 k 49) f = some z) (kk : ∀ v, f v = some z → sm_V X Q nL σ (pc + 3) lv (.int v :: st)) : sm_V X Q nL σ pc lv (.ref (sm_ad (sm_w X) k) :: st) := by
  obtain ⟨cA, e1, e2, e3, e4⟩ := hw
  exact sm_get C 49 (k := k) (by rw [e4]; exact mo_lt hk (by decide)) (by rw [e3]; exact mo_sh0 hk _ _ _) (by rw [e1]; rfl) imo_M (by decide) hl rfl hd (kk _ h)
theorem mp_M_rowsFirst (C : sm_Cx X cc nL own fr lo ret) (hw : mo_is (sm_w X)) {index k : Nat} (hk : mo_tag k = 0) (hl : Cond.fieldLink own index "SmokeGoesToModel" "rowsFirst" "I" ∈ sm_G) (hd : decode cc pc = .ok (.putfield index, 3)) {f : sm_St → Option β} {v : Int32} (h : sm_b (sm_sI σ k 49 v) f = some z) (kk : ∀ s, f s = some z → sm_V X Q nL s (pc + 3) lv st) : sm_V X Q nL σ pc lv (.int v :: .ref (sm_ad (sm_w X) k) :: st) := by
  obtain ⟨cA, e1, e2, e3, e4⟩ := hw
  exact sm_put C 49 (k := k) (σ' := sm_sI σ k 49 v) (by rw [e4]; exact mo_lt hk (by decide)) (by rw [e3]; exact mo_sh0 hk _ _ _) (by rw [e1]; rfl) imo_M kmo_M nmo_M (by decide) hl rfl rfl rfl rfl (Nat.le_of_ble_eq_true rfl) (by rw [e3, mo_sh0 hk, sm_sIk.1]; rfl) sm_sIo hd (kk _ h)
theorem mr_M_kept (C : sm_Cx X cc nL own fr lo ret) (hw : mo_is (sm_w X)) {index k : Nat} (hk : mo_tag k = 0) (hl : Cond.fieldLink own index "SmokeGoesToModel" "kept" "[I" ∈ sm_G) (hd : decode cc pc = .ok (.getfield index, 3)) (kk : sm_V X Q nL σ (pc + 3) lv (.ref (sm_ad (sm_w X) 19) :: st)) : sm_V X Q nL σ pc lv (.ref (sm_ad (sm_w X) k) :: st) := by
  obtain ⟨cA, e1, e2, e3, e4⟩ := hw
  exact sm_get C 50 (k := k) (by rw [e4]; exact mo_lt hk (by decide)) (by rw [e3]; exact mo_sh0 hk _ _ _) (by rw [e1]; rfl) imo_M (by decide) hl rfl hd (kk)
theorem mr_M_manyKept (C : sm_Cx X cc nL own fr lo ret) (hw : mo_is (sm_w X)) {index k : Nat} (hk : mo_tag k = 0) (hl : Cond.fieldLink own index "SmokeGoesToModel" "manyKept" "I" ∈ sm_G) (hd : decode cc pc = .ok (.getfield index, 3)) {f : Int32 → Option β} (h : sm_b (σ.1 k 51) f = some z) (kk : ∀ v, f v = some z → sm_V X Q nL σ (pc + 3) lv (.int v :: st)) : sm_V X Q nL σ pc lv (.ref (sm_ad (sm_w X) k) :: st) := by
  obtain ⟨cA, e1, e2, e3, e4⟩ := hw
  exact sm_get C 51 (k := k) (by rw [e4]; exact mo_lt hk (by decide)) (by rw [e3]; exact mo_sh0 hk _ _ _) (by rw [e1]; rfl) imo_M (by decide) hl rfl hd (kk _ h)
theorem mp_M_manyKept (C : sm_Cx X cc nL own fr lo ret) (hw : mo_is (sm_w X)) {index k : Nat} (hk : mo_tag k = 0) (hl : Cond.fieldLink own index "SmokeGoesToModel" "manyKept" "I" ∈ sm_G) (hd : decode cc pc = .ok (.putfield index, 3)) {f : sm_St → Option β} {v : Int32} (h : sm_b (sm_sI σ k 51 v) f = some z) (kk : ∀ s, f s = some z → sm_V X Q nL s (pc + 3) lv st) : sm_V X Q nL σ pc lv (.int v :: .ref (sm_ad (sm_w X) k) :: st) := by
  obtain ⟨cA, e1, e2, e3, e4⟩ := hw
  exact sm_put C 51 (k := k) (σ' := sm_sI σ k 51 v) (by rw [e4]; exact mo_lt hk (by decide)) (by rw [e3]; exact mo_sh0 hk _ _ _) (by rw [e1]; rfl) imo_M kmo_M nmo_M (by decide) hl rfl rfl rfl rfl (Nat.le_of_ble_eq_true rfl) (by rw [e3, mo_sh0 hk, sm_sIk.1]; rfl) sm_sIo hd (kk _ h)
theorem mr_M_ruleKept (C : sm_Cx X cc nL own fr lo ret) (hw : mo_is (sm_w X)) {index k : Nat} (hk : mo_tag k = 0) (hl : Cond.fieldLink own index "SmokeGoesToModel" "ruleKept" "I" ∈ sm_G) (hd : decode cc pc = .ok (.getfield index, 3)) {f : Int32 → Option β} (h : sm_b (σ.1 k 52) f = some z) (kk : ∀ v, f v = some z → sm_V X Q nL σ (pc + 3) lv (.int v :: st)) : sm_V X Q nL σ pc lv (.ref (sm_ad (sm_w X) k) :: st) := by
  obtain ⟨cA, e1, e2, e3, e4⟩ := hw
  exact sm_get C 52 (k := k) (by rw [e4]; exact mo_lt hk (by decide)) (by rw [e3]; exact mo_sh0 hk _ _ _) (by rw [e1]; rfl) imo_M (by decide) hl rfl hd (kk _ h)
theorem mp_M_ruleKept (C : sm_Cx X cc nL own fr lo ret) (hw : mo_is (sm_w X)) {index k : Nat} (hk : mo_tag k = 0) (hl : Cond.fieldLink own index "SmokeGoesToModel" "ruleKept" "I" ∈ sm_G) (hd : decode cc pc = .ok (.putfield index, 3)) {f : sm_St → Option β} {v : Int32} (h : sm_b (sm_sI σ k 52 v) f = some z) (kk : ∀ s, f s = some z → sm_V X Q nL s (pc + 3) lv st) : sm_V X Q nL σ pc lv (.int v :: .ref (sm_ad (sm_w X) k) :: st) := by
  obtain ⟨cA, e1, e2, e3, e4⟩ := hw
  exact sm_put C 52 (k := k) (σ' := sm_sI σ k 52 v) (by rw [e4]; exact mo_lt hk (by decide)) (by rw [e3]; exact mo_sh0 hk _ _ _) (by rw [e1]; rfl) imo_M kmo_M nmo_M (by decide) hl rfl rfl rfl rfl (Nat.le_of_ble_eq_true rfl) (by rw [e3, mo_sh0 hk, sm_sIk.1]; rfl) sm_sIo hd (kk _ h)
theorem mr_M_isThere (C : sm_Cx X cc nL own fr lo ret) (hw : mo_is (sm_w X)) {index k : Nat} (hk : mo_tag k = 0) (hl : Cond.fieldLink own index "SmokeGoesToModel" "isThere" "[Z" ∈ sm_G) (hd : decode cc pc = .ok (.getfield index, 3)) (kk : sm_V X Q nL σ (pc + 3) lv (.ref (sm_ad (sm_w X) 20) :: st)) : sm_V X Q nL σ pc lv (.ref (sm_ad (sm_w X) k) :: st) := by
  obtain ⟨cA, e1, e2, e3, e4⟩ := hw
  exact sm_get C 53 (k := k) (by rw [e4]; exact mo_lt hk (by decide)) (by rw [e3]; exact mo_sh0 hk _ _ _) (by rw [e1]; rfl) imo_M (by decide) hl rfl hd (kk)
theorem mr_M_sorts (C : sm_Cx X cc nL own fr lo ret) (hw : mo_is (sm_w X)) {index k : Nat} (hk : mo_tag k = 0) (hl : Cond.fieldLink own index "SmokeGoesToModel" "sorts" "[I" ∈ sm_G) (hd : decode cc pc = .ok (.getfield index, 3)) (kk : sm_V X Q nL σ (pc + 3) lv (.ref (sm_ad (sm_w X) 21) :: st)) : sm_V X Q nL σ pc lv (.ref (sm_ad (sm_w X) k) :: st) := by
  obtain ⟨cA, e1, e2, e3, e4⟩ := hw
  exact sm_get C 54 (k := k) (by rw [e4]; exact mo_lt hk (by decide)) (by rw [e3]; exact mo_sh0 hk _ _ _) (by rw [e1]; rfl) imo_M (by decide) hl rfl hd (kk)
theorem mr_M_sheetSize (C : sm_Cx X cc nL own fr lo ret) (hw : mo_is (sm_w X)) {index k : Nat} (hk : mo_tag k = 0) (hl : Cond.fieldLink own index "SmokeGoesToModel" "sheetSize" "[I" ∈ sm_G) (hd : decode cc pc = .ok (.getfield index, 3)) (kk : sm_V X Q nL σ (pc + 3) lv (.ref (sm_ad (sm_w X) 22) :: st)) : sm_V X Q nL σ pc lv (.ref (sm_ad (sm_w X) k) :: st) := by
  obtain ⟨cA, e1, e2, e3, e4⟩ := hw
  exact sm_get C 55 (k := k) (by rw [e4]; exact mo_lt hk (by decide)) (by rw [e3]; exact mo_sh0 hk _ _ _) (by rw [e1]; rfl) imo_M (by decide) hl rfl hd (kk)
theorem mr_M_items (C : sm_Cx X cc nL own fr lo ret) (hw : mo_is (sm_w X)) {index k : Nat} (hk : mo_tag k = 0) (hl : Cond.fieldLink own index "SmokeGoesToModel" "items" "[I" ∈ sm_G) (hd : decode cc pc = .ok (.getfield index, 3)) (kk : sm_V X Q nL σ (pc + 3) lv (.ref (sm_ad (sm_w X) 23) :: st)) : sm_V X Q nL σ pc lv (.ref (sm_ad (sm_w X) k) :: st) := by
  obtain ⟨cA, e1, e2, e3, e4⟩ := hw
  exact sm_get C 56 (k := k) (by rw [e4]; exact mo_lt hk (by decide)) (by rw [e3]; exact mo_sh0 hk _ _ _) (by rw [e1]; rfl) imo_M (by decide) hl rfl hd (kk)
theorem ma_iald (C : sm_Cx X cc nL own fr lo ret) (hw : mo_is (sm_w X)) {k n : Nat} (hk : mo_tag k = 10) (hn : mo_len k = n) {i : Int32} {f : Int32 → Option β} (hd : decode cc pc = .ok (.iaload, 1)) (h : sm_g (sm_in i n) (sm_b (σ.1 k i.toNatClampNeg) f) = some z) (kk : ∀ v, f v = some z → sm_V X Q nL σ (pc + 1) lv (.int v :: st)) : sm_V X Q nL σ pc lv (.int i :: .ref (sm_ad (sm_w X) k) :: st) := by
  obtain ⟨cA, e1, e2, e3, e4⟩ := hw
  subst hn
  exact sm_iald C (t0 := 0) (by rw [e4]; exact mo_lt hk (by decide)) (by rw [e3]; exact mo_sh10 hk _ _ _) (by rw [e2]; rfl) hd h kk
theorem ma_lald (C : sm_Cx X cc nL own fr lo ret) (hw : mo_is (sm_w X)) {k n : Nat} (hk : mo_tag k = 11) (hn : mo_len k = n) {i : Int32} {f : Int64 → Option β} (hd : decode cc pc = .ok (.laload, 1)) (h : sm_g (sm_in i n) (sm_b (σ.2.1 k i.toNatClampNeg) f) = some z) (kk : ∀ v, f v = some z → sm_V X Q nL σ (pc + 1) lv (.long v :: st)) : sm_V X Q nL σ pc lv (.int i :: .ref (sm_ad (sm_w X) k) :: st) := by
  obtain ⟨cA, e1, e2, e3, e4⟩ := hw
  subst hn
  exact sm_lald C (t0 := 1) (by rw [e4]; exact mo_lt hk (by decide)) (by rw [e3]; exact mo_sh11 hk _ _ _) (by rw [e2]; rfl) hd h kk
theorem ma_zald (C : sm_Cx X cc nL own fr lo ret) (hw : mo_is (sm_w X)) {k n : Nat} (hk : mo_tag k = 14) (hn : mo_len k = n) {i : Int32} {f : Int32 → Option β} (hd : decode cc pc = .ok (.baload, 1)) (h : sm_g (sm_in i n) (sm_b (σ.1 k i.toNatClampNeg) f) = some z) (kk : ∀ v, f v = some z → sm_V X Q nL σ (pc + 1) lv (.int v :: st)) : sm_V X Q nL σ pc lv (.int i :: .ref (sm_ad (sm_w X) k) :: st) := by
  obtain ⟨cA, e1, e2, e3, e4⟩ := hw
  subst hn
  exact sm_zald C (t0 := 2) (by rw [e4]; exact mo_lt hk (by decide)) (by rw [e3]; exact mo_sh14 hk _ _ _) (by rw [e2]; rfl) hd h kk
theorem ma_iast (C : sm_Cx X cc nL own fr lo ret) (hw : mo_is (sm_w X)) {k n : Nat} (hk : mo_tag k = 10) (hn : mo_len k = n) {i : Int32} {x : Int32} {f : sm_St → Option β} (hd : decode cc pc = .ok (.iastore, 1)) (h : sm_g (sm_in i n) (sm_b (sm_sI σ k i.toNatClampNeg x) f) = some z) (kk : ∀ s, f s = some z → sm_V X Q nL s (pc + 1) lv st) : sm_V X Q nL σ pc lv (.int x :: .int i :: .ref (sm_ad (sm_w X) k) :: st) := by
  obtain ⟨cA, e1, e2, e3, e4⟩ := hw
  subst hn
  exact sm_iast C (t0 := 0) (by rw [e4]; exact mo_lt hk (by decide)) (fun a b c => by rw [e3]; exact mo_sh10 hk a b c) (by rw [e2]; rfl) hd h kk
theorem ma_last (C : sm_Cx X cc nL own fr lo ret) (hw : mo_is (sm_w X)) {k n : Nat} (hk : mo_tag k = 11) (hn : mo_len k = n) {i : Int32} {x : Int64} {f : sm_St → Option β} (hd : decode cc pc = .ok (.lastore, 1)) (h : sm_g (sm_in i n) (sm_b (sm_sL σ k i.toNatClampNeg x) f) = some z) (kk : ∀ s, f s = some z → sm_V X Q nL s (pc + 1) lv st) : sm_V X Q nL σ pc lv (.long x :: .int i :: .ref (sm_ad (sm_w X) k) :: st) := by
  obtain ⟨cA, e1, e2, e3, e4⟩ := hw
  subst hn
  exact sm_last C (t0 := 1) (by rw [e4]; exact mo_lt hk (by decide)) (fun a b c => by rw [e3]; exact mo_sh11 hk a b c) (by rw [e2]; rfl) hd h kk
theorem ma_zast (C : sm_Cx X cc nL own fr lo ret) (hw : mo_is (sm_w X)) {k n : Nat} (hk : mo_tag k = 14) (hn : mo_len k = n) {i : Int32} {x : Int32} {f : sm_St → Option β} (hd : decode cc pc = .ok (.bastore, 1)) (h : sm_g (sm_in i n) (sm_b (sm_sI σ k i.toNatClampNeg (vp_nar .boolean x)) f) = some z) (kk : ∀ s, f s = some z → sm_V X Q nL s (pc + 1) lv st) : sm_V X Q nL σ pc lv (.int x :: .int i :: .ref (sm_ad (sm_w X) k) :: st) := by
  obtain ⟨cA, e1, e2, e3, e4⟩ := hw
  subst hn
  exact sm_zast C (t0 := 2) (by rw [e4]; exact mo_lt hk (by decide)) (fun a b c => by rw [e3]; exact mo_sh14 hk a b c) (by rw [e2]; rfl) hd h kk
theorem ma_alenI (C : sm_Cx X cc nL own fr lo ret) (hw : mo_is (sm_w X)) {k n : Nat} (hk : mo_tag k = 10) (hn : mo_len k = n) {f : Int32 → Option β} (hd : decode cc pc = .ok (.arraylength, 1)) (h : sm_b (Int32.ofNat n) f = some z) (kk : ∀ v, f v = some z → sm_V X Q nL σ (pc + 1) lv (.int v :: st)) : sm_V X Q nL σ pc lv (.ref (sm_ad (sm_w X) k) :: st) := by
  obtain ⟨cA, e1, e2, e3, e4⟩ := hw
  subst hn
  exact sm_alen C (t0 := 0) (by rw [e4]; exact mo_lt hk (by decide)) (by rw [e3]; exact mo_sh10 hk _ _ _) (by rw [e2]; rfl) rfl hd (kk _ h)
theorem ma_alenL (C : sm_Cx X cc nL own fr lo ret) (hw : mo_is (sm_w X)) {k n : Nat} (hk : mo_tag k = 11) (hn : mo_len k = n) {f : Int32 → Option β} (hd : decode cc pc = .ok (.arraylength, 1)) (h : sm_b (Int32.ofNat n) f = some z) (kk : ∀ v, f v = some z → sm_V X Q nL σ (pc + 1) lv (.int v :: st)) : sm_V X Q nL σ pc lv (.ref (sm_ad (sm_w X) k) :: st) := by
  obtain ⟨cA, e1, e2, e3, e4⟩ := hw
  subst hn
  exact sm_alen C (t0 := 1) (by rw [e4]; exact mo_lt hk (by decide)) (by rw [e3]; exact mo_sh11 hk _ _ _) (by rw [e2]; rfl) rfl hd (kk _ h)
end
