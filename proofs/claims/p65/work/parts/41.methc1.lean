/-! decompiled: X12_appendText, X12_columnCount, X12_rowCount, X12_packedBits, X12_conditionCount, X12_undoableCount, X12_checkLength, X12_checkColumn, X12_checkRow, X12_checkCode, X12_checkCondition, X12_checkValue, X12_checkAnySeen, X12_wordsOf, X12_value, X12_code, X12_dictionarySize, X12_dictionaryValue, X12_findCode, X12_frequency, X12_commonestCode, X12_bitWidth, X12_wordCount, X12_packedWord, X12_runCount, X12_longestRun, X12_isSorted, X12_conditionColumn, X12_conditionValue, X12_conditionDirection, X12_lowerCode, X12_upperCode, X12_matches, X12_strictestCondition, X12_isSelected, X12_selectedCount, X12_selectedRow, X12_rejectedBy, X12_bitWidthWith, X12_saveSnapshot -/
section MC1
variable {p : Program} {l : Launch} {e : Env} {R : Room} {s : State} {m : MethodId} {args : Array Value} {below : List Frame} {meth : Method} {c : Code} {H : Heap} {locs : List Loc} {cells slots : Nat} {Q : State → Prop} {E : gE} {D : va_G} {A : Nat → Prop}
def X12_appendText (E : gE) (l0 : Nat) (l1 : Int32) (l2 : Int32) (l3 : Int32) (l4 : Int32) (l5 : Int32) (σ : gS) : Option (Int32 × gS) :=
  ob (gfR σ l0 10 4) fun x1 =>
  ob (gcl σ x1 5) fun _ =>
  ob (X6_size_f E σ x1) fun x3 =>
  if (x3 + (20 : Int32)) ≤ (700 : Int32) then
    ob (gfR σ l0 10 4) fun x6 =>
    ob (gcl σ x6 5) fun _ =>
    ob (X6_append_f E x6 l1 σ) fun x8 =>
    ob (gfR x8 l0 10 4) fun x11 =>
    ob (gcl x8 x11 5) fun _ =>
    ob (X6_append_f E x11 l2 x8) fun x13 =>
    ob (gfR x13 l0 10 4) fun x16 =>
    ob (gcl x13 x16 5) fun _ =>
    ob (X6_append_f E x16 l3 x13) fun x18 =>
    ob (gfR x18 l0 10 4) fun x21 =>
    ob (gcl x18 x21 5) fun _ =>
    ob (X6_append_f E x21 l4 x18) fun x23 =>
    ob (gfR x23 l0 10 4) fun x26 =>
    ob (gcl x23 x26 5) fun _ =>
    ob (X6_append_f E x26 l5 x23) fun x28 =>
    ob (gfR x28 l0 10 4) fun x31 =>
    ob (gcl x28 x31 5) fun _ =>
    ob (X6_size_f E x28 x31) fun x33 =>
    some (x33, x28)
  else
    some ((-1 : Int32), σ)
set_option maxHeartbeats 4000000 in
set_option maxRecDepth 100000 in
theorem X12_appendText_W {σ : gS} {l0 : Nat} {l1 : Int32} {l2 : Int32} {l3 : Int32} {l4 : Int32} {l5 : Int32} {res : (Int32 × gS)} {ls : Array Slot} (hC : gC E D A p R s m args meth c cX12_appendText 6 RX12 "appendText" 1 22) (hQ : gQI E D A p l e R s m args below meth c Q cX12_appendText FieldType.int res) (hf : X12_appendText E l0 l1 l2 l3 l4 l5 σ = some res) (hw : gW E D A s σ H locs) (hl : lv_has ls 6 [(0, .ref l0), (1, .int l1), (2, .int l2), (3, .int l3), (4, .int l4), (5, .int l5)]) : W p l e R s m args below meth c H locs cells slots Q (F0 m 0 ls []) := by
  have hC0 := hC
  obtain ⟨hx, hb, hml, hown, hts, -⟩ := hC0
  unfold X12_appendText at hf
  refine lv_aload_n hx hb dX12_appendText_0 rfl (lv_at hl 0 rfl) ?_
  obtain ⟨x1, h2, hf⟩ := ob_some hf
  refine rR_fl_X12_29 hC hw h2 dX12_appendText_1 ?_
  obtain ⟨_, h5, hf⟩ := ob_some hf
  obtain ⟨x3, h4, hf⟩ := ob_some hf
  refine gg_cVI (As := []) hC hw (X6_size_M l E D A h4) h5 rfl g_ml_X12_75 hd_X6_size (Nat.le_of_ble_eq_true rfl) (Nat.le_of_ble_eq_true rfl) hl.1 rfl (Nat.le_of_ble_eq_true rfl) dX12_appendText_4 (fun H locs cells slots hw => ?_)
  refine lv_bipush (v := 20) hx hb dX12_appendText_7 (by decide) ?_
  refine lv_iadd hx hb dX12_appendText_9 ?_
  refine lv_sipush (v := 700) hx hb dX12_appendText_10 (by decide) ?_
  refine lv_icmp_le (tgt := 18) hx hb dX12_appendText_13 (by decide) (fun c36 => ?_) (fun c36 => ?_)
  · replace hf := (if_pos c36).symm.trans hf
    refine lv_aload_n hx hb dX12_appendText_18 rfl (lv_at hl 0 rfl) ?_
    obtain ⟨x6, h7, hf⟩ := ob_some hf
    refine rR_fl_X12_29 hC hw h7 dX12_appendText_19 ?_
    refine lv_iload_n hx hb dX12_appendText_22 rfl (lv_at hl 1 rfl) ?_
    obtain ⟨_, h10, hf⟩ := ob_some hf
    obtain ⟨x8, h9, hf⟩ := ob_some hf
    refine gg_cVV (As := [.int l1]) hC hw (X6_append_M l E D A h9) h10 rfl g_ml_X12_79 hd_X6_append (Nat.le_of_ble_eq_true rfl) (Nat.le_of_ble_eq_true rfl) hl.1 rfl (Nat.le_of_ble_eq_true rfl) dX12_appendText_23 (fun H locs cells slots hw => ?_)
    refine lv_aload_n hx hb dX12_appendText_26 rfl (lv_at hl 0 rfl) ?_
    obtain ⟨x11, h12, hf⟩ := ob_some hf
    refine rR_fl_X12_29 hC hw h12 dX12_appendText_27 ?_
    refine lv_iload_n hx hb dX12_appendText_30 rfl (lv_at hl 2 rfl) ?_
    obtain ⟨_, h15, hf⟩ := ob_some hf
    obtain ⟨x13, h14, hf⟩ := ob_some hf
    refine gg_cVV (As := [.int l2]) hC hw (X6_append_M l E D A h14) h15 rfl g_ml_X12_79 hd_X6_append (Nat.le_of_ble_eq_true rfl) (Nat.le_of_ble_eq_true rfl) hl.1 rfl (Nat.le_of_ble_eq_true rfl) dX12_appendText_31 (fun H locs cells slots hw => ?_)
    refine lv_aload_n hx hb dX12_appendText_34 rfl (lv_at hl 0 rfl) ?_
    obtain ⟨x16, h17, hf⟩ := ob_some hf
    refine rR_fl_X12_29 hC hw h17 dX12_appendText_35 ?_
    refine lv_iload_n hx hb dX12_appendText_38 rfl (lv_at hl 3 rfl) ?_
    obtain ⟨_, h20, hf⟩ := ob_some hf
    obtain ⟨x18, h19, hf⟩ := ob_some hf
    refine gg_cVV (As := [.int l3]) hC hw (X6_append_M l E D A h19) h20 rfl g_ml_X12_79 hd_X6_append (Nat.le_of_ble_eq_true rfl) (Nat.le_of_ble_eq_true rfl) hl.1 rfl (Nat.le_of_ble_eq_true rfl) dX12_appendText_39 (fun H locs cells slots hw => ?_)
    refine lv_aload_n hx hb dX12_appendText_42 rfl (lv_at hl 0 rfl) ?_
    obtain ⟨x21, h22, hf⟩ := ob_some hf
    refine rR_fl_X12_29 hC hw h22 dX12_appendText_43 ?_
    refine lv_iload hx hb dX12_appendText_46 (lv_at hl 4 rfl) ?_
    obtain ⟨_, h25, hf⟩ := ob_some hf
    obtain ⟨x23, h24, hf⟩ := ob_some hf
    refine gg_cVV (As := [.int l4]) hC hw (X6_append_M l E D A h24) h25 rfl g_ml_X12_79 hd_X6_append (Nat.le_of_ble_eq_true rfl) (Nat.le_of_ble_eq_true rfl) hl.1 rfl (Nat.le_of_ble_eq_true rfl) dX12_appendText_48 (fun H locs cells slots hw => ?_)
    refine lv_aload_n hx hb dX12_appendText_51 rfl (lv_at hl 0 rfl) ?_
    obtain ⟨x26, h27, hf⟩ := ob_some hf
    refine rR_fl_X12_29 hC hw h27 dX12_appendText_52 ?_
    refine lv_iload hx hb dX12_appendText_55 (lv_at hl 5 rfl) ?_
    obtain ⟨_, h30, hf⟩ := ob_some hf
    obtain ⟨x28, h29, hf⟩ := ob_some hf
    refine gg_cVV (As := [.int l5]) hC hw (X6_append_M l E D A h29) h30 rfl g_ml_X12_79 hd_X6_append (Nat.le_of_ble_eq_true rfl) (Nat.le_of_ble_eq_true rfl) hl.1 rfl (Nat.le_of_ble_eq_true rfl) dX12_appendText_57 (fun H locs cells slots hw => ?_)
    refine lv_aload_n hx hb dX12_appendText_60 rfl (lv_at hl 0 rfl) ?_
    obtain ⟨x31, h32, hf⟩ := ob_some hf
    refine rR_fl_X12_29 hC hw h32 dX12_appendText_61 ?_
    obtain ⟨_, h35, hf⟩ := ob_some hf
    obtain ⟨x33, h34, hf⟩ := ob_some hf
    refine gg_cVI (As := []) hC hw (X6_size_M l E D A h34) h35 rfl g_ml_X12_75 hd_X6_size (Nat.le_of_ble_eq_true rfl) (Nat.le_of_ble_eq_true rfl) hl.1 rfl (Nat.le_of_ble_eq_true rfl) dX12_appendText_64 (fun H locs cells slots hw => ?_)
    cases hf
    exact hQ _ _ _ _ _ _ dX12_appendText_67 rfl hw
  · replace hf := (if_neg c36).symm.trans hf
    refine lv_iconst (v := -1) hx hb dX12_appendText_16 (by decide) ?_
    cases hf
    exact hQ _ _ _ _ _ _ dX12_appendText_17 rfl hw

def X12_appendText_f (E : gE) (l0 : Nat) (l1 : Int32) (l2 : Int32) (l3 : Int32) (l4 : Int32) (l5 : Int32) (σ : gS) : Option (Int32 × gS) := X12_appendText E l0 l1 l2 l3 l4 l5 σ
set_option maxRecDepth 100000 in
theorem X12_appendText_M (l : Launch) (E : gE) (D : va_G) (A : Nat → Prop) {l0 : Nat} {l1 : Int32} {l2 : Int32} {l3 : Int32} {l4 : Int32} {l5 : Int32} {σ : gS} {res : (Int32 × gS)} (hf : X12_appendText_f E l0 l1 l2 l3 l4 l5 σ = some res) : gCI l E D A yX12_appendText cX12_appendText 6 1 22 (some FieldType.int) [.ref l0, .int l1, .int l2, .int l3, .int l4, .int l5] σ res := by
  refine gg_entI (own := RX12) (nm := "appendText") (ty := FieldType.int) (by decide +kernel) rfl rfl (Nat.le_of_ble_eq_true rfl) rfl ?_
  intro p e R s m args below meth c Q ls hC hw hQ hl
  have hl : lv_has ls 6 [(0, .ref l0), (1, .int l1), (2, .int l2), (3, .int l3), (4, .int l4), (5, .int l5)] := hl
  exact X12_appendText_W hC hQ hf hw hl

def X12_columnCount (E : gE) (σ : gS) (l0 : Nat) : Option Int32 :=
  ob (gfR σ l0 10 0) fun x1 =>
  ob (gcl σ x1 9) fun _ =>
  ob (X11_columns_f E σ x1) fun x3 =>
  some x3
set_option maxHeartbeats 4000000 in
set_option maxRecDepth 100000 in
theorem X12_columnCount_W {σ : gS} {l0 : Nat} {res : Int32} {ls : Array Slot} (hC : gC E D A p R s m args meth c cX12_columnCount 1 RX12 "columnCount" 1 20) (hQ : gQI E D A p l e R s m args below meth c Q cX12_columnCount FieldType.int (res, σ)) (hf : X12_columnCount E σ l0 = some res) (hw : gW E D A s σ H locs) (hl : lv_has ls 1 [(0, .ref l0)]) : W p l e R s m args below meth c H locs cells slots Q (F0 m 0 ls []) := by
  have hC0 := hC
  obtain ⟨hx, hb, hml, hown, hts, -⟩ := hC0
  unfold X12_columnCount at hf
  refine lv_aload_n hx hb dX12_columnCount_0 rfl (lv_at hl 0 rfl) ?_
  obtain ⟨x1, h2, hf⟩ := ob_some hf
  refine rR_fl_X12_10 hC hw h2 dX12_columnCount_1 ?_
  obtain ⟨_, h5, hf⟩ := ob_some hf
  obtain ⟨x3, h4, hf⟩ := ob_some hf
  refine gg_cVI (As := []) hC hw (X11_columns_M l E D A h4) h5 rfl g_ml_X12_115 hd_X11_columns (Nat.le_of_ble_eq_true rfl) (Nat.le_of_ble_eq_true rfl) hl.1 rfl (Nat.le_of_ble_eq_true rfl) dX12_columnCount_4 (fun H locs cells slots hw => ?_)
  cases hf
  exact hQ _ _ _ _ _ _ dX12_columnCount_7 rfl hw

def X12_columnCount_f (E : gE) (σ : gS) (l0 : Nat) : Option Int32 := X12_columnCount E σ l0
set_option maxRecDepth 100000 in
theorem X12_columnCount_M (l : Launch) (E : gE) (D : va_G) (A : Nat → Prop) {l0 : Nat} {σ : gS} {res : Int32} (hf : X12_columnCount_f E σ l0 = some res) : gCI l E D A yX12_columnCount cX12_columnCount 1 1 20 (some FieldType.int) [.ref l0] σ (res, σ) := by
  refine gg_entI (own := RX12) (nm := "columnCount") (ty := FieldType.int) (by decide +kernel) rfl rfl (Nat.le_of_ble_eq_true rfl) rfl ?_
  intro p e R s m args below meth c Q ls hC hw hQ hl
  have hl : lv_has ls 1 [(0, .ref l0)] := hl
  exact X12_columnCount_W hC hQ hf hw hl

def X12_rowCount (E : gE) (σ : gS) (l0 : Nat) : Option Int32 :=
  ob (gfR σ l0 10 0) fun x1 =>
  ob (gcl σ x1 9) fun _ =>
  ob (X11_rows_f E σ x1) fun x3 =>
  some x3
set_option maxHeartbeats 4000000 in
set_option maxRecDepth 100000 in
theorem X12_rowCount_W {σ : gS} {l0 : Nat} {res : Int32} {ls : Array Slot} (hC : gC E D A p R s m args meth c cX12_rowCount 1 RX12 "rowCount" 2 40) (hQ : gQI E D A p l e R s m args below meth c Q cX12_rowCount FieldType.int (res, σ)) (hf : X12_rowCount E σ l0 = some res) (hw : gW E D A s σ H locs) (hl : lv_has ls 1 [(0, .ref l0)]) : W p l e R s m args below meth c H locs cells slots Q (F0 m 0 ls []) := by
  have hC0 := hC
  obtain ⟨hx, hb, hml, hown, hts, -⟩ := hC0
  unfold X12_rowCount at hf
  refine lv_aload_n hx hb dX12_rowCount_0 rfl (lv_at hl 0 rfl) ?_
  obtain ⟨x1, h2, hf⟩ := ob_some hf
  refine rR_fl_X12_10 hC hw h2 dX12_rowCount_1 ?_
  obtain ⟨_, h5, hf⟩ := ob_some hf
  obtain ⟨x3, h4, hf⟩ := ob_some hf
  refine gg_cVI (As := []) hC hw (X11_rows_M l E D A h4) h5 rfl g_ml_X12_108 hd_X11_rows (Nat.le_of_ble_eq_true rfl) (Nat.le_of_ble_eq_true rfl) hl.1 rfl (Nat.le_of_ble_eq_true rfl) dX12_rowCount_4 (fun H locs cells slots hw => ?_)
  cases hf
  exact hQ _ _ _ _ _ _ dX12_rowCount_7 rfl hw

def X12_rowCount_f (E : gE) (σ : gS) (l0 : Nat) : Option Int32 := X12_rowCount E σ l0
set_option maxRecDepth 100000 in
theorem X12_rowCount_M (l : Launch) (E : gE) (D : va_G) (A : Nat → Prop) {l0 : Nat} {σ : gS} {res : Int32} (hf : X12_rowCount_f E σ l0 = some res) : gCI l E D A yX12_rowCount cX12_rowCount 1 2 40 (some FieldType.int) [.ref l0] σ (res, σ) := by
  refine gg_entI (own := RX12) (nm := "rowCount") (ty := FieldType.int) (by decide +kernel) rfl rfl (Nat.le_of_ble_eq_true rfl) rfl ?_
  intro p e R s m args below meth c Q ls hC hw hQ hl
  have hl : lv_has ls 1 [(0, .ref l0)] := hl
  exact X12_rowCount_W hC hQ hf hw hl

def X12_packedBits_4_s (E : gE) (σ : gS) (r_4 : Nat → Int32 → Int32 → Option Int32) (l0 : Nat) (l1 : Int32) (l2 : Int32) : Option Int32 :=
  ob (gfR σ l0 10 0) fun x1 =>
  ob (gcl σ x1 9) fun _ =>
  ob (X11_columns_f E σ x1) fun x3 =>
  if x3 ≤ l2 then
    ob (gfR σ l0 10 0) fun x6 =>
    ob (gcl σ x6 9) fun _ =>
    ob (X11_rows_f E σ x6) fun x8 =>
    some (l1 * x8)
  else
    ob (gfR σ l0 10 0) fun x11 =>
    ob (gcl σ x11 9) fun _ =>
    ob (X11_dictionary_f E σ x11 l2) fun x13 =>
    ob (gcl σ x13 2) fun _ =>
    ob (X3_width_f E σ x13) fun x16 =>
    r_4 l0 (l1 + x16) (l2 + 1)
set_option maxHeartbeats 4000000 in
set_option maxRecDepth 100000 in
theorem X12_packedBits_4_s_W {σ : gS} {l0 : Nat} {l1 : Int32} {l2 : Int32} {res : Int32} {ls : Array Slot} (hC : gC E D A p R s m args meth c cX12_packedBits 3 RX12 "packedBits" 2 41) (hQ : gQI E D A p l e R s m args below meth c Q cX12_packedBits FieldType.int (res, σ)) {r_4 : Nat → Int32 → Int32 → Option Int32} (h_4 : ∀ {l0 : Nat} {l1 : Int32} {l2 : Int32} {H : Heap} {locs : List Loc} {cells slots : Nat} {ls : Array Slot}, r_4 l0 l1 l2 = some res → gW E D A s σ H locs → lv_has ls 3 [(0, .ref l0), (1, .int l1), (2, .int l2)] → W p l e R s m args below meth c H locs cells slots Q (F0 m 4 ls [])) (hf : X12_packedBits_4_s E σ r_4 l0 l1 l2 = some res) (hw : gW E D A s σ H locs) (hl : lv_has ls 3 [(0, .ref l0), (1, .int l1), (2, .int l2)]) : W p l e R s m args below meth c H locs cells slots Q (F0 m 4 ls []) := by
  have hC0 := hC
  obtain ⟨hx, hb, hml, hown, hts, -⟩ := hC0
  unfold X12_packedBits_4_s at hf
  refine lv_iload_n hx hb dX12_packedBits_4 rfl (lv_at hl 2 rfl) ?_
  refine lv_aload_n hx hb dX12_packedBits_5 rfl (lv_at hl 0 rfl) ?_
  obtain ⟨x1, h2, hf⟩ := ob_some hf
  refine rR_fl_X12_10 hC hw h2 dX12_packedBits_6 ?_
  obtain ⟨_, h5, hf⟩ := ob_some hf
  obtain ⟨x3, h4, hf⟩ := ob_some hf
  refine gg_cVI (As := []) hC hw (X11_columns_M l E D A h4) h5 rfl g_ml_X12_115 hd_X11_columns (Nat.le_of_ble_eq_true rfl) (Nat.le_of_ble_eq_true rfl) hl.1 rfl (Nat.le_of_ble_eq_true rfl) dX12_packedBits_9 (fun H locs cells slots hw => ?_)
  refine lv_icmp_ge (tgt := 35) hx hb dX12_packedBits_12 (by decide) (fun c19 => ?_) (fun c19 => ?_)
  · replace hf := (if_pos c19).symm.trans hf
    refine lv_iload_n hx hb dX12_packedBits_35 rfl (lv_at hl 1 rfl) ?_
    refine lv_aload_n hx hb dX12_packedBits_36 rfl (lv_at hl 0 rfl) ?_
    obtain ⟨x6, h7, hf⟩ := ob_some hf
    refine rR_fl_X12_10 hC hw h7 dX12_packedBits_37 ?_
    obtain ⟨_, h10, hf⟩ := ob_some hf
    obtain ⟨x8, h9, hf⟩ := ob_some hf
    refine gg_cVI (As := []) hC hw (X11_rows_M l E D A h9) h10 rfl g_ml_X12_108 hd_X11_rows (Nat.le_of_ble_eq_true rfl) (Nat.le_of_ble_eq_true rfl) hl.1 rfl (Nat.le_of_ble_eq_true rfl) dX12_packedBits_40 (fun H locs cells slots hw => ?_)
    refine lv_imul hx hb dX12_packedBits_43 ?_
    cases hf
    exact hQ _ _ _ _ _ _ dX12_packedBits_44 rfl hw
  · replace hf := (if_neg c19).symm.trans hf
    refine lv_iload_n hx hb dX12_packedBits_15 rfl (lv_at hl 1 rfl) ?_
    refine lv_aload_n hx hb dX12_packedBits_16 rfl (lv_at hl 0 rfl) ?_
    obtain ⟨x11, h12, hf⟩ := ob_some hf
    refine rR_fl_X12_10 hC hw h12 dX12_packedBits_17 ?_
    refine lv_iload_n hx hb dX12_packedBits_20 rfl (lv_at hl 2 rfl) ?_
    obtain ⟨_, h15, hf⟩ := ob_some hf
    obtain ⟨x13, h14, hf⟩ := ob_some hf
    refine gg_cVR (As := [.int l2]) hC hw (X11_dictionary_M l E D A h14) h15 rfl g_ml_X12_135 hd_X11_dictionary (Nat.le_of_ble_eq_true rfl) (Nat.le_of_ble_eq_true rfl) hl.1 rfl (Nat.le_of_ble_eq_true rfl) dX12_packedBits_21 (fun H locs cells slots hw => ?_)
    obtain ⟨_, h18, hf⟩ := ob_some hf
    obtain ⟨x16, h17, hf⟩ := ob_some hf
    refine gg_cVI (As := []) hC hw (X3_width_M l E D A h17) h18 rfl g_ml_X12_160 hd_X3_width (Nat.le_of_ble_eq_true rfl) (Nat.le_of_ble_eq_true rfl) hl.1 rfl (Nat.le_of_ble_eq_true rfl) dX12_packedBits_24 (fun H locs cells slots hw => ?_)
    refine lv_iadd hx hb dX12_packedBits_27 ?_
    refine lv_istore_n (lv' := [(1, .int (l1 + x16)), (0, .ref l0), (2, .int l2)]) hx hb dX12_packedBits_28 rfl hl (by decide) rfl (fun ls hl => ?_)
    refine lv_iinc (v := (l2 + 1)) (lv' := [(2, .int (l2 + 1)), (1, .int (l1 + x16)), (0, .ref l0)]) hx hb dX12_packedBits_29 hl (k := 2) rfl rfl (by decide) rfl (fun ls hl => ?_)
    refine lv_goto (tgt := 4) hx hb dX12_packedBits_32 (by decide) ?_
    exact h_4 hf hw (lv_sub hl [2, 1, 0] rfl)
def X12_packedBits_4 (E : gE) (σ : gS) : Nat → Nat → Int32 → Int32 → Option Int32
  | 0 => fun _ _ _ => none
  | n + 1 => X12_packedBits_4_s E σ (X12_packedBits_4 E σ n)
theorem X12_packedBits_4_W {σ : gS} {res : Int32} (hC : gC E D A p R s m args meth c cX12_packedBits 3 RX12 "packedBits" 2 41) (hQ : gQI E D A p l e R s m args below meth c Q cX12_packedBits FieldType.int (res, σ)) : ∀ (n : Nat), ∀ {l0 : Nat} {l1 : Int32} {l2 : Int32} {H : Heap} {locs : List Loc} {cells slots : Nat} {ls : Array Slot}, X12_packedBits_4 E σ n l0 l1 l2 = some res → gW E D A s σ H locs → lv_has ls 3 [(0, .ref l0), (1, .int l1), (2, .int l2)] → W p l e R s m args below meth c H locs cells slots Q (F0 m 4 ls []) := by
  intro n
  induction n with
  | zero =>
    intros
    rename_i hf _ _
    exact absurd hf (fun h => by cases (show (none : Option Int32) = some res from h))
  | succ n ih =>
    intros
    rename_i hf hw hl
    exact X12_packedBits_4_s_W hC hQ ih hf hw hl

def X12_packedBits (E : gE) (σ : gS) (l0 : Nat) : Option Int32 :=
  X12_packedBits_4 E σ (gN E) l0 (0 : Int32) (0 : Int32)
set_option maxHeartbeats 4000000 in
set_option maxRecDepth 100000 in
theorem X12_packedBits_W {σ : gS} {l0 : Nat} {res : Int32} {ls : Array Slot} (hC : gC E D A p R s m args meth c cX12_packedBits 3 RX12 "packedBits" 2 41) (hQ : gQI E D A p l e R s m args below meth c Q cX12_packedBits FieldType.int (res, σ)) (hf : X12_packedBits E σ l0 = some res) (hw : gW E D A s σ H locs) (hl : lv_has ls 3 [(0, .ref l0)]) : W p l e R s m args below meth c H locs cells slots Q (F0 m 0 ls []) := by
  have hC0 := hC
  obtain ⟨hx, hb, hml, hown, hts, -⟩ := hC0
  unfold X12_packedBits at hf
  refine lv_iconst (v := 0) hx hb dX12_packedBits_0 (by decide) ?_
  refine lv_istore_n (lv' := [(1, .int (0 : Int32)), (0, .ref l0)]) hx hb dX12_packedBits_1 rfl hl (by decide) rfl (fun ls hl => ?_)
  refine lv_iconst (v := 0) hx hb dX12_packedBits_2 (by decide) ?_
  refine lv_istore_n (lv' := [(2, .int (0 : Int32)), (1, .int (0 : Int32)), (0, .ref l0)]) hx hb dX12_packedBits_3 rfl hl (by decide) rfl (fun ls hl => ?_)
  exact X12_packedBits_4_W hC hQ (gN E) hf hw (lv_sub hl [2, 1, 0] rfl)

def X12_packedBits_f (E : gE) (σ : gS) (l0 : Nat) : Option Int32 := X12_packedBits E σ l0
set_option maxRecDepth 100000 in
theorem X12_packedBits_M (l : Launch) (E : gE) (D : va_G) (A : Nat → Prop) {l0 : Nat} {σ : gS} {res : Int32} (hf : X12_packedBits_f E σ l0 = some res) : gCI l E D A yX12_packedBits cX12_packedBits 3 2 41 (some FieldType.int) [.ref l0] σ (res, σ) := by
  refine gg_entI (own := RX12) (nm := "packedBits") (ty := FieldType.int) (by decide +kernel) rfl rfl (Nat.le_of_ble_eq_true rfl) rfl ?_
  intro p e R s m args below meth c Q ls hC hw hQ hl
  have hl : lv_has ls 3 [(0, .ref l0)] := hl
  exact X12_packedBits_W hC hQ hf hw hl

def X12_conditionCount (E : gE) (σ : gS) (l0 : Nat) : Option Int32 :=
  ob (gfR σ l0 10 0) fun x1 =>
  ob (gcl σ x1 9) fun _ =>
  ob (X11_filter_f E σ x1) fun x3 =>
  ob (gcl σ x3 3) fun _ =>
  ob (X4_size_f E σ x3) fun x6 =>
  some x6
set_option maxHeartbeats 4000000 in
set_option maxRecDepth 100000 in
theorem X12_conditionCount_W {σ : gS} {l0 : Nat} {res : Int32} {ls : Array Slot} (hC : gC E D A p R s m args meth c cX12_conditionCount 1 RX12 "conditionCount" 1 20) (hQ : gQI E D A p l e R s m args below meth c Q cX12_conditionCount FieldType.int (res, σ)) (hf : X12_conditionCount E σ l0 = some res) (hw : gW E D A s σ H locs) (hl : lv_has ls 1 [(0, .ref l0)]) : W p l e R s m args below meth c H locs cells slots Q (F0 m 0 ls []) := by
  have hC0 := hC
  obtain ⟨hx, hb, hml, hown, hts, -⟩ := hC0
  unfold X12_conditionCount at hf
  refine lv_aload_n hx hb dX12_conditionCount_0 rfl (lv_at hl 0 rfl) ?_
  obtain ⟨x1, h2, hf⟩ := ob_some hf
  refine rR_fl_X12_10 hC hw h2 dX12_conditionCount_1 ?_
  obtain ⟨_, h5, hf⟩ := ob_some hf
  obtain ⟨x3, h4, hf⟩ := ob_some hf
  refine gg_cVR (As := []) hC hw (X11_filter_M l E D A h4) h5 rfl g_ml_X12_198 hd_X11_filter (Nat.le_of_ble_eq_true rfl) (Nat.le_of_ble_eq_true rfl) hl.1 rfl (Nat.le_of_ble_eq_true rfl) dX12_conditionCount_4 (fun H locs cells slots hw => ?_)
  obtain ⟨_, h8, hf⟩ := ob_some hf
  obtain ⟨x6, h7, hf⟩ := ob_some hf
  refine gg_cVI (As := []) hC hw (X4_size_M l E D A h7) h8 rfl g_ml_X12_202 hd_X4_size (Nat.le_of_ble_eq_true rfl) (Nat.le_of_ble_eq_true rfl) hl.1 rfl (Nat.le_of_ble_eq_true rfl) dX12_conditionCount_7 (fun H locs cells slots hw => ?_)
  cases hf
  exact hQ _ _ _ _ _ _ dX12_conditionCount_10 rfl hw

def X12_conditionCount_f (E : gE) (σ : gS) (l0 : Nat) : Option Int32 := X12_conditionCount E σ l0
set_option maxRecDepth 100000 in
theorem X12_conditionCount_M (l : Launch) (E : gE) (D : va_G) (A : Nat → Prop) {l0 : Nat} {σ : gS} {res : Int32} (hf : X12_conditionCount_f E σ l0 = some res) : gCI l E D A yX12_conditionCount cX12_conditionCount 1 1 20 (some FieldType.int) [.ref l0] σ (res, σ) := by
  refine gg_entI (own := RX12) (nm := "conditionCount") (ty := FieldType.int) (by decide +kernel) rfl rfl (Nat.le_of_ble_eq_true rfl) rfl ?_
  intro p e R s m args below meth c Q ls hC hw hQ hl
  have hl : lv_has ls 1 [(0, .ref l0)] := hl
  exact X12_conditionCount_W hC hQ hf hw hl

def X12_undoableCount (E : gE) (σ : gS) (l0 : Nat) : Option Int32 :=
  ob (gfR σ l0 10 3) fun x1 =>
  ob (gcl σ x1 4) fun _ =>
  ob (X5_size_f E σ x1) fun x3 =>
  some x3
set_option maxHeartbeats 4000000 in
set_option maxRecDepth 100000 in
theorem X12_undoableCount_W {σ : gS} {l0 : Nat} {res : Int32} {ls : Array Slot} (hC : gC E D A p R s m args meth c cX12_undoableCount 1 RX12 "undoableCount" 1 20) (hQ : gQI E D A p l e R s m args below meth c Q cX12_undoableCount FieldType.int (res, σ)) (hf : X12_undoableCount E σ l0 = some res) (hw : gW E D A s σ H locs) (hl : lv_has ls 1 [(0, .ref l0)]) : W p l e R s m args below meth c H locs cells slots Q (F0 m 0 ls []) := by
  have hC0 := hC
  obtain ⟨hx, hb, hml, hown, hts, -⟩ := hC0
  unfold X12_undoableCount at hf
  refine lv_aload_n hx hb dX12_undoableCount_0 rfl (lv_at hl 0 rfl) ?_
  obtain ⟨x1, h2, hf⟩ := ob_some hf
  refine rR_fl_X12_22 hC hw h2 dX12_undoableCount_1 ?_
  obtain ⟨_, h5, hf⟩ := ob_some hf
  obtain ⟨x3, h4, hf⟩ := ob_some hf
  refine gg_cVI (As := []) hC hw (X5_size_M l E D A h4) h5 rfl g_ml_X12_336 hd_X5_size (Nat.le_of_ble_eq_true rfl) (Nat.le_of_ble_eq_true rfl) hl.1 rfl (Nat.le_of_ble_eq_true rfl) dX12_undoableCount_4 (fun H locs cells slots hw => ?_)
  cases hf
  exact hQ _ _ _ _ _ _ dX12_undoableCount_7 rfl hw

def X12_undoableCount_f (E : gE) (σ : gS) (l0 : Nat) : Option Int32 := X12_undoableCount E σ l0
set_option maxRecDepth 100000 in
theorem X12_undoableCount_M (l : Launch) (E : gE) (D : va_G) (A : Nat → Prop) {l0 : Nat} {σ : gS} {res : Int32} (hf : X12_undoableCount_f E σ l0 = some res) : gCI l E D A yX12_undoableCount cX12_undoableCount 1 1 20 (some FieldType.int) [.ref l0] σ (res, σ) := by
  refine gg_entI (own := RX12) (nm := "undoableCount") (ty := FieldType.int) (by decide +kernel) rfl rfl (Nat.le_of_ble_eq_true rfl) rfl ?_
  intro p e R s m args below meth c Q ls hC hw hQ hl
  have hl : lv_has ls 1 [(0, .ref l0)] := hl
  exact X12_undoableCount_W hC hQ hf hw hl

def X12_checkLength_15 (E : gE) (σ : gS) : Option ((Nat ⊕ Unit) × gS) :=
  ob (gthr E σ) fun σ1 =>
  some (Sum.inl 1, σ1)
set_option maxHeartbeats 4000000 in
set_option maxRecDepth 100000 in
theorem X12_checkLength_15_W {σ : gS} {res : ((Nat ⊕ Unit) × gS)} {ls : Array Slot} (hC : gC E D A p R s m args meth c cX12_checkLength 2 RX12 "checkLength" 6 90) (hQ : ∀ (σ1 : gS), res = (.inr (), σ1) → gQV E D A p l e R s m args below meth c Q cX12_checkLength σ1) (hT : ∀ (k : Nat) (σ1 : gS), res = (.inl k, σ1) → gTN E D A p l e R s m args below meth c Q cX12_checkLength 2 RX12 k σ1) (hst : l.stackTraces = false) (hf : X12_checkLength_15 E σ = some res) (hw : gW E D A s σ H locs) (hl : lv_has ls 2 []) : W p l e R s m args below meth c H locs cells slots Q (F0 m 15 ls []) := by
  have hC0 := hC
  obtain ⟨hx, hb, hml, hown, hts, -⟩ := hC0
  unfold X12_checkLength_15 at hf
  obtain ⟨σ1, h2, hf⟩ := ob_some hf
  cases hf
  exact (hT _ _ rfl).2.1 _ _ _ _ 4 _ _ _ _ _ _ _ h2 hw hl.1 tw_1 rfl rfl rfl dX12_checkLength_15 dX12_checkLength_18 dX12_checkLength_19 dX12_checkLength_22 dX12_checkLength_25

def X12_checkLength (E : gE) (l0 : Nat) (l1 : Int32) (σ : gS) : Option ((Nat ⊕ Unit) × gS) :=
  if l1 < 0 then
    X12_checkLength_15 E σ
  else
    ob (gfR σ l0 10 4) fun x3 =>
    ob (gcl σ x3 5) fun _ =>
    ob (X6_size_f E σ x3) fun x5 =>
    if l1 ≤ x5 then
      some (Sum.inr (), σ)
    else
      X12_checkLength_15 E σ
set_option maxHeartbeats 4000000 in
set_option maxRecDepth 100000 in
theorem X12_checkLength_W {σ : gS} {l0 : Nat} {l1 : Int32} {res : ((Nat ⊕ Unit) × gS)} {ls : Array Slot} (hC : gC E D A p R s m args meth c cX12_checkLength 2 RX12 "checkLength" 6 90) (hQ : ∀ (σ1 : gS), res = (.inr (), σ1) → gQV E D A p l e R s m args below meth c Q cX12_checkLength σ1) (hT : ∀ (k : Nat) (σ1 : gS), res = (.inl k, σ1) → gTN E D A p l e R s m args below meth c Q cX12_checkLength 2 RX12 k σ1) (hst : l.stackTraces = false) (hf : X12_checkLength E l0 l1 σ = some res) (hw : gW E D A s σ H locs) (hl : lv_has ls 2 [(0, .ref l0), (1, .int l1)]) : W p l e R s m args below meth c H locs cells slots Q (F0 m 0 ls []) := by
  have hC0 := hC
  obtain ⟨hx, hb, hml, hown, hts, -⟩ := hC0
  unfold X12_checkLength at hf
  refine lv_iload_n hx hb dX12_checkLength_0 rfl (lv_at hl 1 rfl) ?_
  refine lv_if_lt (tgt := 15) hx hb dX12_checkLength_1 (by decide) (fun c9 => ?_) (fun c9 => ?_)
  · replace hf := (if_pos c9).symm.trans hf
    exact X12_checkLength_15_W hC hQ hT hst hf hw (lv_sub hl [] rfl)
  · replace hf := (if_neg c9).symm.trans hf
    refine lv_iload_n hx hb dX12_checkLength_4 rfl (lv_at hl 1 rfl) ?_
    refine lv_aload_n hx hb dX12_checkLength_5 rfl (lv_at hl 0 rfl) ?_
    obtain ⟨x3, h4, hf⟩ := ob_some hf
    refine rR_fl_X12_29 hC hw h4 dX12_checkLength_6 ?_
    obtain ⟨_, h7, hf⟩ := ob_some hf
    obtain ⟨x5, h6, hf⟩ := ob_some hf
    refine gg_cVI (As := []) hC hw (X6_size_M l E D A h6) h7 rfl g_ml_X12_75 hd_X6_size (Nat.le_of_ble_eq_true rfl) (Nat.le_of_ble_eq_true rfl) hl.1 rfl (Nat.le_of_ble_eq_true rfl) dX12_checkLength_9 (fun H locs cells slots hw => ?_)
    refine lv_icmp_le (tgt := 26) hx hb dX12_checkLength_12 (by decide) (fun c8 => ?_) (fun c8 => ?_)
    · replace hf := (if_pos c8).symm.trans hf
      cases hf
      exact hQ _ rfl _ _ _ _ _ _ dX12_checkLength_26 hw
    · replace hf := (if_neg c8).symm.trans hf
      exact X12_checkLength_15_W hC hQ hT hst hf hw (lv_sub hl [] rfl)

def X12_checkLength_f (E : gE) (l0 : Nat) (l1 : Int32) (σ : gS) : Option ((Nat ⊕ Unit) × gS) := X12_checkLength E l0 l1 σ
set_option maxRecDepth 100000 in
theorem X12_checkLength_M (l : Launch) (hst : l.stackTraces = false) (E : gE) (D : va_G) (A : Nat → Prop) {l0 : Nat} {l1 : Int32} {σ : gS} {res : ((Nat ⊕ Unit) × gS)} (hf : X12_checkLength_f E l0 l1 σ = some res) : gYV l E D A yX12_checkLength (Cond.code yX12_checkLength cX12_checkLength 2 none) 6 90 [.ref l0, .int l1] σ res := by
  refine gg_entYV (own := RX12) (nm := "checkLength") hst (Nat.le_of_ble_eq_true rfl) (Nat.le_of_ble_eq_true rfl) (by decide +kernel) rfl rfl (Nat.le_of_ble_eq_true rfl) rfl ?_
  intro p e R s m args below meth c Q ls hC hw hQ hT hl
  have hl : lv_has ls 2 [(0, .ref l0), (1, .int l1)] := hl
  exact X12_checkLength_W hC hQ hT hst hf hw hl

def X12_checkColumn_15 (E : gE) (σ : gS) : Option ((Nat ⊕ Unit) × gS) :=
  ob (gthr E σ) fun σ1 =>
  some (Sum.inl 0, σ1)
set_option maxHeartbeats 4000000 in
set_option maxRecDepth 100000 in
theorem X12_checkColumn_15_W {σ : gS} {res : ((Nat ⊕ Unit) × gS)} {ls : Array Slot} (hC : gC E D A p R s m args meth c cX12_checkColumn 2 RX12 "checkColumn" 6 90) (hQ : ∀ (σ1 : gS), res = (.inr (), σ1) → gQV E D A p l e R s m args below meth c Q cX12_checkColumn σ1) (hT : ∀ (k : Nat) (σ1 : gS), res = (.inl k, σ1) → gTN E D A p l e R s m args below meth c Q cX12_checkColumn 2 RX12 k σ1) (hst : l.stackTraces = false) (hf : X12_checkColumn_15 E σ = some res) (hw : gW E D A s σ H locs) (hl : lv_has ls 2 []) : W p l e R s m args below meth c H locs cells slots Q (F0 m 15 ls []) := by
  have hC0 := hC
  obtain ⟨hx, hb, hml, hown, hts, -⟩ := hC0
  unfold X12_checkColumn_15 at hf
  obtain ⟨σ1, h2, hf⟩ := ob_some hf
  cases hf
  exact (hT _ _ rfl).2.1 _ _ _ _ 5 _ _ _ _ _ _ _ h2 hw hl.1 tw_0 rfl rfl rfl dX12_checkColumn_15 dX12_checkColumn_18 dX12_checkColumn_19 dX12_checkColumn_22 dX12_checkColumn_25

def X12_checkColumn (E : gE) (l0 : Nat) (l1 : Int32) (σ : gS) : Option ((Nat ⊕ Unit) × gS) :=
  if l1 < 0 then
    X12_checkColumn_15 E σ
  else
    ob (gfR σ l0 10 0) fun x3 =>
    ob (gcl σ x3 9) fun _ =>
    ob (X11_columns_f E σ x3) fun x5 =>
    if l1 < x5 then
      some (Sum.inr (), σ)
    else
      X12_checkColumn_15 E σ
set_option maxHeartbeats 4000000 in
set_option maxRecDepth 100000 in
theorem X12_checkColumn_W {σ : gS} {l0 : Nat} {l1 : Int32} {res : ((Nat ⊕ Unit) × gS)} {ls : Array Slot} (hC : gC E D A p R s m args meth c cX12_checkColumn 2 RX12 "checkColumn" 6 90) (hQ : ∀ (σ1 : gS), res = (.inr (), σ1) → gQV E D A p l e R s m args below meth c Q cX12_checkColumn σ1) (hT : ∀ (k : Nat) (σ1 : gS), res = (.inl k, σ1) → gTN E D A p l e R s m args below meth c Q cX12_checkColumn 2 RX12 k σ1) (hst : l.stackTraces = false) (hf : X12_checkColumn E l0 l1 σ = some res) (hw : gW E D A s σ H locs) (hl : lv_has ls 2 [(0, .ref l0), (1, .int l1)]) : W p l e R s m args below meth c H locs cells slots Q (F0 m 0 ls []) := by
  have hC0 := hC
  obtain ⟨hx, hb, hml, hown, hts, -⟩ := hC0
  unfold X12_checkColumn at hf
  refine lv_iload_n hx hb dX12_checkColumn_0 rfl (lv_at hl 1 rfl) ?_
  refine lv_if_lt (tgt := 15) hx hb dX12_checkColumn_1 (by decide) (fun c9 => ?_) (fun c9 => ?_)
  · replace hf := (if_pos c9).symm.trans hf
    exact X12_checkColumn_15_W hC hQ hT hst hf hw (lv_sub hl [] rfl)
  · replace hf := (if_neg c9).symm.trans hf
    refine lv_iload_n hx hb dX12_checkColumn_4 rfl (lv_at hl 1 rfl) ?_
    refine lv_aload_n hx hb dX12_checkColumn_5 rfl (lv_at hl 0 rfl) ?_
    obtain ⟨x3, h4, hf⟩ := ob_some hf
    refine rR_fl_X12_10 hC hw h4 dX12_checkColumn_6 ?_
    obtain ⟨_, h7, hf⟩ := ob_some hf
    obtain ⟨x5, h6, hf⟩ := ob_some hf
    refine gg_cVI (As := []) hC hw (X11_columns_M l E D A h6) h7 rfl g_ml_X12_115 hd_X11_columns (Nat.le_of_ble_eq_true rfl) (Nat.le_of_ble_eq_true rfl) hl.1 rfl (Nat.le_of_ble_eq_true rfl) dX12_checkColumn_9 (fun H locs cells slots hw => ?_)
    refine lv_icmp_lt (tgt := 26) hx hb dX12_checkColumn_12 (by decide) (fun c8 => ?_) (fun c8 => ?_)
    · replace hf := (if_pos c8).symm.trans hf
      cases hf
      exact hQ _ rfl _ _ _ _ _ _ dX12_checkColumn_26 hw
    · replace hf := (if_neg c8).symm.trans hf
      exact X12_checkColumn_15_W hC hQ hT hst hf hw (lv_sub hl [] rfl)

def X12_checkColumn_f (E : gE) (l0 : Nat) (l1 : Int32) (σ : gS) : Option ((Nat ⊕ Unit) × gS) := X12_checkColumn E l0 l1 σ
set_option maxRecDepth 100000 in
theorem X12_checkColumn_M (l : Launch) (hst : l.stackTraces = false) (E : gE) (D : va_G) (A : Nat → Prop) {l0 : Nat} {l1 : Int32} {σ : gS} {res : ((Nat ⊕ Unit) × gS)} (hf : X12_checkColumn_f E l0 l1 σ = some res) : gYV l E D A yX12_checkColumn (Cond.code yX12_checkColumn cX12_checkColumn 2 none) 6 90 [.ref l0, .int l1] σ res := by
  refine gg_entYV (own := RX12) (nm := "checkColumn") hst (Nat.le_of_ble_eq_true rfl) (Nat.le_of_ble_eq_true rfl) (by decide +kernel) rfl rfl (Nat.le_of_ble_eq_true rfl) rfl ?_
  intro p e R s m args below meth c Q ls hC hw hQ hT hl
  have hl : lv_has ls 2 [(0, .ref l0), (1, .int l1)] := hl
  exact X12_checkColumn_W hC hQ hT hst hf hw hl

def X12_checkRow (E : gE) (l0 : Nat) (l1 : Int32) (σ : gS) : Option ((Nat ⊕ Unit) × gS) :=
  ob (gfR σ l0 10 0) fun x1 =>
  ob (gcl σ x1 9) fun _ =>
  ob (X11_hasRow_f E σ x1 l1) fun x3 =>
  if x3 = 0 then
    ob (gthr E σ) fun σ6 =>
    some (Sum.inl 0, σ6)
  else
    some (Sum.inr (), σ)
set_option maxHeartbeats 4000000 in
set_option maxRecDepth 100000 in
theorem X12_checkRow_W {σ : gS} {l0 : Nat} {l1 : Int32} {res : ((Nat ⊕ Unit) × gS)} {ls : Array Slot} (hC : gC E D A p R s m args meth c cX12_checkRow 2 RX12 "checkRow" 6 90) (hQ : ∀ (σ1 : gS), res = (.inr (), σ1) → gQV E D A p l e R s m args below meth c Q cX12_checkRow σ1) (hT : ∀ (k : Nat) (σ1 : gS), res = (.inl k, σ1) → gTN E D A p l e R s m args below meth c Q cX12_checkRow 2 RX12 k σ1) (hst : l.stackTraces = false) (hf : X12_checkRow E l0 l1 σ = some res) (hw : gW E D A s σ H locs) (hl : lv_has ls 2 [(0, .ref l0), (1, .int l1)]) : W p l e R s m args below meth c H locs cells slots Q (F0 m 0 ls []) := by
  have hC0 := hC
  obtain ⟨hx, hb, hml, hown, hts, -⟩ := hC0
  unfold X12_checkRow at hf
  refine lv_aload_n hx hb dX12_checkRow_0 rfl (lv_at hl 0 rfl) ?_
  obtain ⟨x1, h2, hf⟩ := ob_some hf
  refine rR_fl_X12_10 hC hw h2 dX12_checkRow_1 ?_
  refine lv_iload_n hx hb dX12_checkRow_4 rfl (lv_at hl 1 rfl) ?_
  obtain ⟨_, h5, hf⟩ := ob_some hf
  obtain ⟨x3, h4, hf⟩ := ob_some hf
  refine gg_cVI (As := [.int l1]) hC hw (X11_hasRow_M l E D A h4) h5 rfl g_ml_X12_354 hd_X11_hasRow (Nat.le_of_ble_eq_true rfl) (Nat.le_of_ble_eq_true rfl) hl.1 rfl (Nat.le_of_ble_eq_true rfl) dX12_checkRow_5 (fun H locs cells slots hw => ?_)
  refine lv_if_ne (tgt := 22) hx hb dX12_checkRow_8 (by decide) (fun c8 => ?_) (fun c8 => ?_)
  · replace hf := (if_neg c8).symm.trans hf
    cases hf
    exact hQ _ rfl _ _ _ _ _ _ dX12_checkRow_22 hw
  · replace hf := (if_pos c8).symm.trans hf
    obtain ⟨σ6, h7, hf⟩ := ob_some hf
    cases hf
    exact (hT _ _ rfl).2.1 _ _ _ _ 6 _ _ _ _ _ _ _ h7 hw hl.1 tw_0 rfl rfl rfl dX12_checkRow_11 dX12_checkRow_14 dX12_checkRow_15 dX12_checkRow_18 dX12_checkRow_21

def X12_checkRow_f (E : gE) (l0 : Nat) (l1 : Int32) (σ : gS) : Option ((Nat ⊕ Unit) × gS) := X12_checkRow E l0 l1 σ
set_option maxRecDepth 100000 in
theorem X12_checkRow_M (l : Launch) (hst : l.stackTraces = false) (E : gE) (D : va_G) (A : Nat → Prop) {l0 : Nat} {l1 : Int32} {σ : gS} {res : ((Nat ⊕ Unit) × gS)} (hf : X12_checkRow_f E l0 l1 σ = some res) : gYV l E D A yX12_checkRow (Cond.code yX12_checkRow cX12_checkRow 2 none) 6 90 [.ref l0, .int l1] σ res := by
  refine gg_entYV (own := RX12) (nm := "checkRow") hst (Nat.le_of_ble_eq_true rfl) (Nat.le_of_ble_eq_true rfl) (by decide +kernel) rfl rfl (Nat.le_of_ble_eq_true rfl) rfl ?_
  intro p e R s m args below meth c Q ls hC hw hQ hT hl
  have hl : lv_has ls 2 [(0, .ref l0), (1, .int l1)] := hl
  exact X12_checkRow_W hC hQ hT hst hf hw hl

def X12_checkCode_19 (E : gE) (σ : gS) : Option ((Nat ⊕ Unit) × gS) :=
  ob (gthr E σ) fun σ1 =>
  some (Sum.inl 0, σ1)
set_option maxHeartbeats 4000000 in
set_option maxRecDepth 100000 in
theorem X12_checkCode_19_W {σ : gS} {res : ((Nat ⊕ Unit) × gS)} {ls : Array Slot} (hC : gC E D A p R s m args meth c cX12_checkCode 3 RX12 "checkCode" 6 90) (hQ : ∀ (σ1 : gS), res = (.inr (), σ1) → gQV E D A p l e R s m args below meth c Q cX12_checkCode σ1) (hT : ∀ (k : Nat) (σ1 : gS), res = (.inl k, σ1) → gTN E D A p l e R s m args below meth c Q cX12_checkCode 3 RX12 k σ1) (hst : l.stackTraces = false) (hf : X12_checkCode_19 E σ = some res) (hw : gW E D A s σ H locs) (hl : lv_has ls 3 []) : W p l e R s m args below meth c H locs cells slots Q (F0 m 19 ls []) := by
  have hC0 := hC
  obtain ⟨hx, hb, hml, hown, hts, -⟩ := hC0
  unfold X12_checkCode_19 at hf
  obtain ⟨σ1, h2, hf⟩ := ob_some hf
  cases hf
  exact (hT _ _ rfl).2.1 _ _ _ _ 7 _ _ _ _ _ _ _ h2 hw hl.1 tw_0 rfl rfl rfl dX12_checkCode_19 dX12_checkCode_22 dX12_checkCode_23 dX12_checkCode_26 dX12_checkCode_29

def X12_checkCode (E : gE) (l0 : Nat) (l1 : Int32) (l2 : Int32) (σ : gS) : Option ((Nat ⊕ Unit) × gS) :=
  if l2 < 0 then
    X12_checkCode_19 E σ
  else
    ob (gfR σ l0 10 0) fun x3 =>
    ob (gcl σ x3 9) fun _ =>
    ob (X11_dictionary_f E σ x3 l1) fun x5 =>
    ob (gcl σ x5 2) fun _ =>
    ob (X3_size_f E σ x5) fun x8 =>
    if l2 < x8 then
      some (Sum.inr (), σ)
    else
      X12_checkCode_19 E σ
set_option maxHeartbeats 4000000 in
set_option maxRecDepth 100000 in
theorem X12_checkCode_W {σ : gS} {l0 : Nat} {l1 : Int32} {l2 : Int32} {res : ((Nat ⊕ Unit) × gS)} {ls : Array Slot} (hC : gC E D A p R s m args meth c cX12_checkCode 3 RX12 "checkCode" 6 90) (hQ : ∀ (σ1 : gS), res = (.inr (), σ1) → gQV E D A p l e R s m args below meth c Q cX12_checkCode σ1) (hT : ∀ (k : Nat) (σ1 : gS), res = (.inl k, σ1) → gTN E D A p l e R s m args below meth c Q cX12_checkCode 3 RX12 k σ1) (hst : l.stackTraces = false) (hf : X12_checkCode E l0 l1 l2 σ = some res) (hw : gW E D A s σ H locs) (hl : lv_has ls 3 [(0, .ref l0), (1, .int l1), (2, .int l2)]) : W p l e R s m args below meth c H locs cells slots Q (F0 m 0 ls []) := by
  have hC0 := hC
  obtain ⟨hx, hb, hml, hown, hts, -⟩ := hC0
  unfold X12_checkCode at hf
  refine lv_iload_n hx hb dX12_checkCode_0 rfl (lv_at hl 2 rfl) ?_
  refine lv_if_lt (tgt := 19) hx hb dX12_checkCode_1 (by decide) (fun c12 => ?_) (fun c12 => ?_)
  · replace hf := (if_pos c12).symm.trans hf
    exact X12_checkCode_19_W hC hQ hT hst hf hw (lv_sub hl [] rfl)
  · replace hf := (if_neg c12).symm.trans hf
    refine lv_iload_n hx hb dX12_checkCode_4 rfl (lv_at hl 2 rfl) ?_
    refine lv_aload_n hx hb dX12_checkCode_5 rfl (lv_at hl 0 rfl) ?_
    obtain ⟨x3, h4, hf⟩ := ob_some hf
    refine rR_fl_X12_10 hC hw h4 dX12_checkCode_6 ?_
    refine lv_iload_n hx hb dX12_checkCode_9 rfl (lv_at hl 1 rfl) ?_
    obtain ⟨_, h7, hf⟩ := ob_some hf
    obtain ⟨x5, h6, hf⟩ := ob_some hf
    refine gg_cVR (As := [.int l1]) hC hw (X11_dictionary_M l E D A h6) h7 rfl g_ml_X12_135 hd_X11_dictionary (Nat.le_of_ble_eq_true rfl) (Nat.le_of_ble_eq_true rfl) hl.1 rfl (Nat.le_of_ble_eq_true rfl) dX12_checkCode_10 (fun H locs cells slots hw => ?_)
    obtain ⟨_, h10, hf⟩ := ob_some hf
    obtain ⟨x8, h9, hf⟩ := ob_some hf
    refine gg_cVI (As := []) hC hw (X3_size_M l E D A h9) h10 rfl g_ml_X12_139 hd_X3_size (Nat.le_of_ble_eq_true rfl) (Nat.le_of_ble_eq_true rfl) hl.1 rfl (Nat.le_of_ble_eq_true rfl) dX12_checkCode_13 (fun H locs cells slots hw => ?_)
    refine lv_icmp_lt (tgt := 30) hx hb dX12_checkCode_16 (by decide) (fun c11 => ?_) (fun c11 => ?_)
    · replace hf := (if_pos c11).symm.trans hf
      cases hf
      exact hQ _ rfl _ _ _ _ _ _ dX12_checkCode_30 hw
    · replace hf := (if_neg c11).symm.trans hf
      exact X12_checkCode_19_W hC hQ hT hst hf hw (lv_sub hl [] rfl)

def X12_checkCode_f (E : gE) (l0 : Nat) (l1 : Int32) (l2 : Int32) (σ : gS) : Option ((Nat ⊕ Unit) × gS) := X12_checkCode E l0 l1 l2 σ
set_option maxRecDepth 100000 in
theorem X12_checkCode_M (l : Launch) (hst : l.stackTraces = false) (E : gE) (D : va_G) (A : Nat → Prop) {l0 : Nat} {l1 : Int32} {l2 : Int32} {σ : gS} {res : ((Nat ⊕ Unit) × gS)} (hf : X12_checkCode_f E l0 l1 l2 σ = some res) : gYV l E D A yX12_checkCode (Cond.code yX12_checkCode cX12_checkCode 3 none) 6 90 [.ref l0, .int l1, .int l2] σ res := by
  refine gg_entYV (own := RX12) (nm := "checkCode") hst (Nat.le_of_ble_eq_true rfl) (Nat.le_of_ble_eq_true rfl) (by decide +kernel) rfl rfl (Nat.le_of_ble_eq_true rfl) rfl ?_
  intro p e R s m args below meth c Q ls hC hw hQ hT hl
  have hl : lv_has ls 3 [(0, .ref l0), (1, .int l1), (2, .int l2)] := hl
  exact X12_checkCode_W hC hQ hT hst hf hw hl

def X12_checkCondition (E : gE) (l0 : Nat) (l1 : Int32) (σ : gS) : Option ((Nat ⊕ Unit) × gS) :=
  ob (gfR σ l0 10 0) fun x1 =>
  ob (gcl σ x1 9) fun _ =>
  ob (X11_filter_f E σ x1) fun x3 =>
  ob (gcl σ x3 3) fun _ =>
  ob (X4_has_f E σ x3 l1) fun x6 =>
  if x6 = 0 then
    ob (gthr E σ) fun σ9 =>
    some (Sum.inl 0, σ9)
  else
    some (Sum.inr (), σ)
set_option maxHeartbeats 4000000 in
set_option maxRecDepth 100000 in
theorem X12_checkCondition_W {σ : gS} {l0 : Nat} {l1 : Int32} {res : ((Nat ⊕ Unit) × gS)} {ls : Array Slot} (hC : gC E D A p R s m args meth c cX12_checkCondition 2 RX12 "checkCondition" 6 90) (hQ : ∀ (σ1 : gS), res = (.inr (), σ1) → gQV E D A p l e R s m args below meth c Q cX12_checkCondition σ1) (hT : ∀ (k : Nat) (σ1 : gS), res = (.inl k, σ1) → gTN E D A p l e R s m args below meth c Q cX12_checkCondition 2 RX12 k σ1) (hst : l.stackTraces = false) (hf : X12_checkCondition E l0 l1 σ = some res) (hw : gW E D A s σ H locs) (hl : lv_has ls 2 [(0, .ref l0), (1, .int l1)]) : W p l e R s m args below meth c H locs cells slots Q (F0 m 0 ls []) := by
  have hC0 := hC
  obtain ⟨hx, hb, hml, hown, hts, -⟩ := hC0
  unfold X12_checkCondition at hf
  refine lv_aload_n hx hb dX12_checkCondition_0 rfl (lv_at hl 0 rfl) ?_
  obtain ⟨x1, h2, hf⟩ := ob_some hf
  refine rR_fl_X12_10 hC hw h2 dX12_checkCondition_1 ?_
  obtain ⟨_, h5, hf⟩ := ob_some hf
  obtain ⟨x3, h4, hf⟩ := ob_some hf
  refine gg_cVR (As := []) hC hw (X11_filter_M l E D A h4) h5 rfl g_ml_X12_198 hd_X11_filter (Nat.le_of_ble_eq_true rfl) (Nat.le_of_ble_eq_true rfl) hl.1 rfl (Nat.le_of_ble_eq_true rfl) dX12_checkCondition_4 (fun H locs cells slots hw => ?_)
  refine lv_iload_n hx hb dX12_checkCondition_7 rfl (lv_at hl 1 rfl) ?_
  obtain ⟨_, h8, hf⟩ := ob_some hf
  obtain ⟨x6, h7, hf⟩ := ob_some hf
  refine gg_cVI (As := [.int l1]) hC hw (X4_has_M l E D A h7) h8 rfl g_ml_X12_361 hd_X4_has (Nat.le_of_ble_eq_true rfl) (Nat.le_of_ble_eq_true rfl) hl.1 rfl (Nat.le_of_ble_eq_true rfl) dX12_checkCondition_8 (fun H locs cells slots hw => ?_)
  refine lv_if_ne (tgt := 25) hx hb dX12_checkCondition_11 (by decide) (fun c11 => ?_) (fun c11 => ?_)
  · replace hf := (if_neg c11).symm.trans hf
    cases hf
    exact hQ _ rfl _ _ _ _ _ _ dX12_checkCondition_25 hw
  · replace hf := (if_pos c11).symm.trans hf
    obtain ⟨σ9, h10, hf⟩ := ob_some hf
    cases hf
    exact (hT _ _ rfl).2.1 _ _ _ _ 9 _ _ _ _ _ _ _ h10 hw hl.1 tw_0 rfl rfl rfl dX12_checkCondition_14 dX12_checkCondition_17 dX12_checkCondition_18 dX12_checkCondition_21 dX12_checkCondition_24

def X12_checkCondition_f (E : gE) (l0 : Nat) (l1 : Int32) (σ : gS) : Option ((Nat ⊕ Unit) × gS) := X12_checkCondition E l0 l1 σ
set_option maxRecDepth 100000 in
theorem X12_checkCondition_M (l : Launch) (hst : l.stackTraces = false) (E : gE) (D : va_G) (A : Nat → Prop) {l0 : Nat} {l1 : Int32} {σ : gS} {res : ((Nat ⊕ Unit) × gS)} (hf : X12_checkCondition_f E l0 l1 σ = some res) : gYV l E D A yX12_checkCondition (Cond.code yX12_checkCondition cX12_checkCondition 2 none) 6 90 [.ref l0, .int l1] σ res := by
  refine gg_entYV (own := RX12) (nm := "checkCondition") hst (Nat.le_of_ble_eq_true rfl) (Nat.le_of_ble_eq_true rfl) (by decide +kernel) rfl rfl (Nat.le_of_ble_eq_true rfl) rfl ?_
  intro p e R s m args below meth c Q ls hC hw hQ hT hl
  have hl : lv_has ls 2 [(0, .ref l0), (1, .int l1)] := hl
  exact X12_checkCondition_W hC hQ hT hst hf hw hl

def X12_checkValue_14 (E : gE) (σ : gS) : Option ((Nat ⊕ Unit) × gS) :=
  ob (gthr E σ) fun σ1 =>
  some (Sum.inl 1, σ1)
set_option maxHeartbeats 4000000 in
set_option maxRecDepth 100000 in
theorem X12_checkValue_14_W {σ : gS} {res : ((Nat ⊕ Unit) × gS)} {ls : Array Slot} (hC : gC E D A p R s m args meth c cX12_checkValue 2 RX12 "checkValue" 6 90) (hQ : ∀ (σ1 : gS), res = (.inr (), σ1) → gQV E D A p l e R s m args below meth c Q cX12_checkValue σ1) (hT : ∀ (k : Nat) (σ1 : gS), res = (.inl k, σ1) → gTN E D A p l e R s m args below meth c Q cX12_checkValue 2 RX12 k σ1) (hst : l.stackTraces = false) (hf : X12_checkValue_14 E σ = some res) (hw : gW E D A s σ H locs) (hl : lv_has ls 2 []) : W p l e R s m args below meth c H locs cells slots Q (F0 m 14 ls []) := by
  have hC0 := hC
  obtain ⟨hx, hb, hml, hown, hts, -⟩ := hC0
  unfold X12_checkValue_14 at hf
  obtain ⟨σ1, h2, hf⟩ := ob_some hf
  cases hf
  exact (hT _ _ rfl).2.1 _ _ _ _ 11 _ _ _ _ _ _ _ h2 hw hl.1 tw_1 rfl rfl rfl dX12_checkValue_14 dX12_checkValue_17 dX12_checkValue_18 dX12_checkValue_21 dX12_checkValue_24

def X12_checkValue (E : gE) (l1 : Int32) (σ : gS) : Option ((Nat ⊕ Unit) × gS) :=
  if l1 < (-9999 : Int32) then
    X12_checkValue_14 E σ
  else
    if l1 ≤ (9999 : Int32) then
      some (Sum.inr (), σ)
    else
      X12_checkValue_14 E σ
set_option maxHeartbeats 4000000 in
set_option maxRecDepth 100000 in
theorem X12_checkValue_W {σ : gS} {l1 : Int32} {res : ((Nat ⊕ Unit) × gS)} {ls : Array Slot} (hC : gC E D A p R s m args meth c cX12_checkValue 2 RX12 "checkValue" 6 90) (hQ : ∀ (σ1 : gS), res = (.inr (), σ1) → gQV E D A p l e R s m args below meth c Q cX12_checkValue σ1) (hT : ∀ (k : Nat) (σ1 : gS), res = (.inl k, σ1) → gTN E D A p l e R s m args below meth c Q cX12_checkValue 2 RX12 k σ1) (hst : l.stackTraces = false) (hf : X12_checkValue E l1 σ = some res) (hw : gW E D A s σ H locs) (hl : lv_has ls 2 [(1, .int l1)]) : W p l e R s m args below meth c H locs cells slots Q (F0 m 0 ls []) := by
  have hC0 := hC
  obtain ⟨hx, hb, hml, hown, hts, -⟩ := hC0
  unfold X12_checkValue at hf
  refine lv_iload_n hx hb dX12_checkValue_0 rfl (lv_at hl 0 rfl) ?_
  refine lv_sipush (v := -9999) hx hb dX12_checkValue_1 (by decide) ?_
  refine lv_icmp_lt (tgt := 14) hx hb dX12_checkValue_4 (by decide) (fun c4 => ?_) (fun c4 => ?_)
  · replace hf := (if_pos c4).symm.trans hf
    exact X12_checkValue_14_W hC hQ hT hst hf hw (lv_sub hl [] rfl)
  · replace hf := (if_neg c4).symm.trans hf
    refine lv_iload_n hx hb dX12_checkValue_7 rfl (lv_at hl 0 rfl) ?_
    refine lv_sipush (v := 9999) hx hb dX12_checkValue_8 (by decide) ?_
    refine lv_icmp_le (tgt := 25) hx hb dX12_checkValue_11 (by decide) (fun c3 => ?_) (fun c3 => ?_)
    · replace hf := (if_pos c3).symm.trans hf
      cases hf
      exact hQ _ rfl _ _ _ _ _ _ dX12_checkValue_25 hw
    · replace hf := (if_neg c3).symm.trans hf
      exact X12_checkValue_14_W hC hQ hT hst hf hw (lv_sub hl [] rfl)

def X12_checkValue_f (E : gE) (l0 : Nat) (l1 : Int32) (σ : gS) : Option ((Nat ⊕ Unit) × gS) := X12_checkValue E l1 σ
set_option maxRecDepth 100000 in
theorem X12_checkValue_M (l : Launch) (hst : l.stackTraces = false) (E : gE) (D : va_G) (A : Nat → Prop) {l0 : Nat} {l1 : Int32} {σ : gS} {res : ((Nat ⊕ Unit) × gS)} (hf : X12_checkValue_f E l0 l1 σ = some res) : gYV l E D A yX12_checkValue (Cond.code yX12_checkValue cX12_checkValue 2 none) 6 90 [.ref l0, .int l1] σ res := by
  refine gg_entYV (own := RX12) (nm := "checkValue") hst (Nat.le_of_ble_eq_true rfl) (Nat.le_of_ble_eq_true rfl) (by decide +kernel) rfl rfl (Nat.le_of_ble_eq_true rfl) rfl ?_
  intro p e R s m args below meth c Q ls hC hw hQ hT hl
  have hl : lv_has ls 2 [(0, .ref l0), (1, .int l1)] := hl
  exact X12_checkValue_W hC hQ hT hst hf hw (lv_sub hl [1] rfl)

def X12_checkAnySeen (E : gE) (l0 : Nat) (σ : gS) : Option ((Nat ⊕ Unit) × gS) :=
  ob (gfR σ l0 10 9) fun x1 =>
  ob (gcl σ x1 2) fun _ =>
  ob (X3_size_f E σ x1) fun x3 =>
  if x3 = 0 then
    ob (gthr E σ) fun σ6 =>
    some (Sum.inl 2, σ6)
  else
    some (Sum.inr (), σ)
set_option maxHeartbeats 4000000 in
set_option maxRecDepth 100000 in
theorem X12_checkAnySeen_W {σ : gS} {l0 : Nat} {res : ((Nat ⊕ Unit) × gS)} {ls : Array Slot} (hC : gC E D A p R s m args meth c cX12_checkAnySeen 1 RX12 "checkAnySeen" 6 90) (hQ : ∀ (σ1 : gS), res = (.inr (), σ1) → gQV E D A p l e R s m args below meth c Q cX12_checkAnySeen σ1) (hT : ∀ (k : Nat) (σ1 : gS), res = (.inl k, σ1) → gTN E D A p l e R s m args below meth c Q cX12_checkAnySeen 1 RX12 k σ1) (hst : l.stackTraces = false) (hf : X12_checkAnySeen E l0 σ = some res) (hw : gW E D A s σ H locs) (hl : lv_has ls 1 [(0, .ref l0)]) : W p l e R s m args below meth c H locs cells slots Q (F0 m 0 ls []) := by
  have hC0 := hC
  obtain ⟨hx, hb, hml, hown, hts, -⟩ := hC0
  unfold X12_checkAnySeen at hf
  refine lv_aload_n hx hb dX12_checkAnySeen_0 rfl (lv_at hl 0 rfl) ?_
  obtain ⟨x1, h2, hf⟩ := ob_some hf
  refine rR_fl_X12_56 hC hw h2 dX12_checkAnySeen_1 ?_
  obtain ⟨_, h5, hf⟩ := ob_some hf
  obtain ⟨x3, h4, hf⟩ := ob_some hf
  refine gg_cVI (As := []) hC hw (X3_size_M l E D A h4) h5 rfl g_ml_X12_139 hd_X3_size (Nat.le_of_ble_eq_true rfl) (Nat.le_of_ble_eq_true rfl) hl.1 rfl (Nat.le_of_ble_eq_true rfl) dX12_checkAnySeen_4 (fun H locs cells slots hw => ?_)
  refine lv_if_ne (tgt := 21) hx hb dX12_checkAnySeen_7 (by decide) (fun c8 => ?_) (fun c8 => ?_)
  · replace hf := (if_neg c8).symm.trans hf
    cases hf
    exact hQ _ rfl _ _ _ _ _ _ dX12_checkAnySeen_21 hw
  · replace hf := (if_pos c8).symm.trans hf
    obtain ⟨σ6, h7, hf⟩ := ob_some hf
    cases hf
    exact (hT _ _ rfl).2.1 _ _ _ _ 10 _ _ _ _ _ _ _ h7 hw hl.1 tw_2 rfl rfl rfl dX12_checkAnySeen_10 dX12_checkAnySeen_13 dX12_checkAnySeen_14 dX12_checkAnySeen_17 dX12_checkAnySeen_20

def X12_checkAnySeen_f (E : gE) (l0 : Nat) (σ : gS) : Option ((Nat ⊕ Unit) × gS) := X12_checkAnySeen E l0 σ
set_option maxRecDepth 100000 in
theorem X12_checkAnySeen_M (l : Launch) (hst : l.stackTraces = false) (E : gE) (D : va_G) (A : Nat → Prop) {l0 : Nat} {σ : gS} {res : ((Nat ⊕ Unit) × gS)} (hf : X12_checkAnySeen_f E l0 σ = some res) : gYV l E D A yX12_checkAnySeen (Cond.code yX12_checkAnySeen cX12_checkAnySeen 1 none) 6 90 [.ref l0] σ res := by
  refine gg_entYV (own := RX12) (nm := "checkAnySeen") hst (Nat.le_of_ble_eq_true rfl) (Nat.le_of_ble_eq_true rfl) (by decide +kernel) rfl rfl (Nat.le_of_ble_eq_true rfl) rfl ?_
  intro p e R s m args below meth c Q ls hC hw hQ hT hl
  have hl : lv_has ls 1 [(0, .ref l0)] := hl
  exact X12_checkAnySeen_W hC hQ hT hst hf hw hl

def X12_wordsOf (E : gE) (σ : gS) (l0 : Nat) (l1 : Int32) : Option Int32 :=
  ob (gfR σ l0 10 0) fun x1 =>
  ob (gcl σ x1 9) fun _ =>
  ob (X11_rows_f E σ x1) fun x3 =>
  ob (gfR σ l0 10 0) fun x6 =>
  ob (gcl σ x6 9) fun _ =>
  ob (X11_dictionary_f E σ x6 l1) fun x8 =>
  ob (gcl σ x8 2) fun _ =>
  ob (X3_width_f E σ x8) fun x11 =>
  some ((((x3 * x11) + (64 : Int32)) - (1 : Int32)) / (64 : Int32))
set_option maxHeartbeats 4000000 in
set_option maxRecDepth 100000 in
theorem X12_wordsOf_W {σ : gS} {l0 : Nat} {l1 : Int32} {res : Int32} {ls : Array Slot} (hC : gC E D A p R s m args meth c cX12_wordsOf 2 RX12 "wordsOf" 2 41) (hQ : gQI E D A p l e R s m args below meth c Q cX12_wordsOf FieldType.int (res, σ)) (hf : X12_wordsOf E σ l0 l1 = some res) (hw : gW E D A s σ H locs) (hl : lv_has ls 2 [(0, .ref l0), (1, .int l1)]) : W p l e R s m args below meth c H locs cells slots Q (F0 m 0 ls []) := by
  have hC0 := hC
  obtain ⟨hx, hb, hml, hown, hts, -⟩ := hC0
  unfold X12_wordsOf at hf
  refine lv_aload_n hx hb dX12_wordsOf_0 rfl (lv_at hl 0 rfl) ?_
  obtain ⟨x1, h2, hf⟩ := ob_some hf
  refine rR_fl_X12_10 hC hw h2 dX12_wordsOf_1 ?_
  obtain ⟨_, h5, hf⟩ := ob_some hf
  obtain ⟨x3, h4, hf⟩ := ob_some hf
  refine gg_cVI (As := []) hC hw (X11_rows_M l E D A h4) h5 rfl g_ml_X12_108 hd_X11_rows (Nat.le_of_ble_eq_true rfl) (Nat.le_of_ble_eq_true rfl) hl.1 rfl (Nat.le_of_ble_eq_true rfl) dX12_wordsOf_4 (fun H locs cells slots hw => ?_)
  refine lv_aload_n hx hb dX12_wordsOf_7 rfl (lv_at hl 0 rfl) ?_
  obtain ⟨x6, h7, hf⟩ := ob_some hf
  refine rR_fl_X12_10 hC hw h7 dX12_wordsOf_8 ?_
  refine lv_iload_n hx hb dX12_wordsOf_11 rfl (lv_at hl 1 rfl) ?_
  obtain ⟨_, h10, hf⟩ := ob_some hf
  obtain ⟨x8, h9, hf⟩ := ob_some hf
  refine gg_cVR (As := [.int l1]) hC hw (X11_dictionary_M l E D A h9) h10 rfl g_ml_X12_135 hd_X11_dictionary (Nat.le_of_ble_eq_true rfl) (Nat.le_of_ble_eq_true rfl) hl.1 rfl (Nat.le_of_ble_eq_true rfl) dX12_wordsOf_12 (fun H locs cells slots hw => ?_)
  obtain ⟨_, h13, hf⟩ := ob_some hf
  obtain ⟨x11, h12, hf⟩ := ob_some hf
  refine gg_cVI (As := []) hC hw (X3_width_M l E D A h12) h13 rfl g_ml_X12_160 hd_X3_width (Nat.le_of_ble_eq_true rfl) (Nat.le_of_ble_eq_true rfl) hl.1 rfl (Nat.le_of_ble_eq_true rfl) dX12_wordsOf_15 (fun H locs cells slots hw => ?_)
  refine lv_imul hx hb dX12_wordsOf_18 ?_
  refine lv_bipush (v := 64) hx hb dX12_wordsOf_19 (by decide) ?_
  refine lv_iadd hx hb dX12_wordsOf_21 ?_
  refine lv_iconst (v := 1) hx hb dX12_wordsOf_22 (by decide) ?_
  refine lv_isub hx hb dX12_wordsOf_23 ?_
  refine lv_bipush (v := 64) hx hb dX12_wordsOf_24 (by decide) ?_
  refine lv_idiv hx hb dX12_wordsOf_26 (by decide) ?_
  cases hf
  exact hQ _ _ _ _ _ _ dX12_wordsOf_27 rfl hw

def X12_wordsOf_f (E : gE) (σ : gS) (l0 : Nat) (l1 : Int32) : Option Int32 := X12_wordsOf E σ l0 l1
set_option maxRecDepth 100000 in
theorem X12_wordsOf_M (l : Launch) (E : gE) (D : va_G) (A : Nat → Prop) {l0 : Nat} {l1 : Int32} {σ : gS} {res : Int32} (hf : X12_wordsOf_f E σ l0 l1 = some res) : gCI l E D A yX12_wordsOf cX12_wordsOf 2 2 41 (some FieldType.int) [.ref l0, .int l1] σ (res, σ) := by
  refine gg_entI (own := RX12) (nm := "wordsOf") (ty := FieldType.int) (by decide +kernel) rfl rfl (Nat.le_of_ble_eq_true rfl) rfl ?_
  intro p e R s m args below meth c Q ls hC hw hQ hl
  have hl : lv_has ls 2 [(0, .ref l0), (1, .int l1)] := hl
  exact X12_wordsOf_W hC hQ hf hw hl

def X12_value (E : gE) (l0 : Nat) (l1 : Int32) (l2 : Int32) (σ : gS) : Option ((Nat ⊕ Int32) × gS) :=
  ob (gcl σ l0 10) fun _ =>
  ob (X12_checkColumn_f E l0 l1 σ) fun x1 =>
  gtry x1 (fun k9 σ9 => some (Sum.inl k9, σ9)) (fun _ σ4 =>
    ob (gcl σ4 l0 10) fun _ =>
    ob (X12_checkRow_f E l0 l2 σ4) fun x6 =>
    gtry x6 (fun k9 σ9 => some (Sum.inl k9, σ9)) (fun _ σ9 =>
      ob (gfR σ9 l0 10 0) fun x11 =>
      ob (gcl σ9 x11 9) fun _ =>
      ob (X11_column_f E σ9 x11 l1) fun x13 =>
      ob (gcl σ9 x13 0) fun _ =>
      ob (X1_valueAt_f E σ9 x13 l2) fun x16 =>
      some (Sum.inr x16, σ9)))
set_option maxHeartbeats 4000000 in
set_option maxRecDepth 100000 in
theorem X12_value_W {σ : gS} {l0 : Nat} {l1 : Int32} {l2 : Int32} {res : ((Nat ⊕ Int32) × gS)} {ls : Array Slot} (hC : gC E D A p R s m args meth c cX12_value 3 RX12 "value" 7 111) (hQ : ∀ (r : Int32) (σ1 : gS), res = (.inr r, σ1) → gQI E D A p l e R s m args below meth c Q cX12_value FieldType.int (r, σ1)) (hT : ∀ (k : Nat) (σ1 : gS), res = (.inl k, σ1) → gTN E D A p l e R s m args below meth c Q cX12_value 3 RX12 k σ1) (hst : l.stackTraces = false) (hf : X12_value E l0 l1 l2 σ = some res) (hw : gW E D A s σ H locs) (hl : lv_has ls 3 [(0, .ref l0), (1, .int l1), (2, .int l2)]) : W p l e R s m args below meth c H locs cells slots Q (F0 m 0 ls []) := by
  have hC0 := hC
  obtain ⟨hx, hb, hml, hown, hts, -⟩ := hC0
  unfold X12_value at hf
  refine lv_aload_n hx hb dX12_value_0 rfl (lv_at hl 0 rfl) ?_
  refine lv_iload_n hx hb dX12_value_1 rfl (lv_at hl 1 rfl) ?_
  obtain ⟨_, h3, hf⟩ := ob_some hf
  obtain ⟨x1, h2, hf⟩ := ob_some hf
  refine gg_yVV (As := [.int l1]) hC hw (X12_checkColumn_M l hst E D A h2) h3 rfl g_ml_X12_116 hd_X12_checkColumn (Nat.le_of_ble_eq_true rfl) (Nat.le_of_ble_eq_true rfl) hl.1 rfl (Nat.le_of_ble_eq_true rfl) dX12_value_2 (fun k9 σ9 he => ?_) (fun σ4 he H locs cells slots hw => ?_)
  · subst he
    replace hf := gtry_inl.symm.trans hf
    cases hf
    exact (hT _ _ rfl).2.2 _ _ _
  · subst he
    replace hf := gtry_inr.symm.trans hf
    refine lv_aload_n hx hb dX12_value_5 rfl (lv_at hl 0 rfl) ?_
    refine lv_iload_n hx hb dX12_value_6 rfl (lv_at hl 2 rfl) ?_
    obtain ⟨_, h8, hf⟩ := ob_some hf
    obtain ⟨x6, h7, hf⟩ := ob_some hf
    refine gg_yVV (As := [.int l2]) hC hw (X12_checkRow_M l hst E D A h7) h8 rfl g_ml_X12_119 hd_X12_checkRow (Nat.le_of_ble_eq_true rfl) (Nat.le_of_ble_eq_true rfl) hl.1 rfl (Nat.le_of_ble_eq_true rfl) dX12_value_7 (fun k9 σ9 he => ?_) (fun σ9 he H locs cells slots hw => ?_)
    · subst he
      replace hf := gtry_inl.symm.trans hf
      cases hf
      exact (hT _ _ rfl).2.2 _ _ _
    · subst he
      replace hf := gtry_inr.symm.trans hf
      refine lv_aload_n hx hb dX12_value_10 rfl (lv_at hl 0 rfl) ?_
      obtain ⟨x11, h12, hf⟩ := ob_some hf
      refine rR_fl_X12_10 hC hw h12 dX12_value_11 ?_
      refine lv_iload_n hx hb dX12_value_14 rfl (lv_at hl 1 rfl) ?_
      obtain ⟨_, h15, hf⟩ := ob_some hf
      obtain ⟨x13, h14, hf⟩ := ob_some hf
      refine gg_cVR (As := [.int l1]) hC hw (X11_column_M l E D A h14) h15 rfl g_ml_X12_122 hd_X11_column (Nat.le_of_ble_eq_true rfl) (Nat.le_of_ble_eq_true rfl) hl.1 rfl (Nat.le_of_ble_eq_true rfl) dX12_value_15 (fun H locs cells slots hw => ?_)
      refine lv_iload_n hx hb dX12_value_18 rfl (lv_at hl 2 rfl) ?_
      obtain ⟨_, h18, hf⟩ := ob_some hf
      obtain ⟨x16, h17, hf⟩ := ob_some hf
      refine gg_cVI (As := [.int l2]) hC hw (X1_valueAt_M l E D A h17) h18 rfl g_ml_X12_126 hd_X1_valueAt (Nat.le_of_ble_eq_true rfl) (Nat.le_of_ble_eq_true rfl) hl.1 rfl (Nat.le_of_ble_eq_true rfl) dX12_value_19 (fun H locs cells slots hw => ?_)
      cases hf
      exact hQ _ _ rfl _ _ _ _ _ _ dX12_value_22 rfl hw

def X12_value_f (E : gE) (l0 : Nat) (l1 : Int32) (l2 : Int32) (σ : gS) : Option ((Nat ⊕ Int32) × gS) := X12_value E l0 l1 l2 σ
set_option maxRecDepth 100000 in
theorem X12_value_M (l : Launch) (hst : l.stackTraces = false) (E : gE) (D : va_G) (A : Nat → Prop) {l0 : Nat} {l1 : Int32} {l2 : Int32} {σ : gS} {res : ((Nat ⊕ Int32) × gS)} (hf : X12_value_f E l0 l1 l2 σ = some res) : gYI l E D A yX12_value (Cond.code yX12_value cX12_value 3 (some FieldType.int)) 7 111 [.ref l0, .int l1, .int l2] σ res := by
  refine gg_entYI (own := RX12) (nm := "value") (ty := FieldType.int) hst (Nat.le_of_ble_eq_true rfl) (Nat.le_of_ble_eq_true rfl) (by decide +kernel) rfl rfl (Nat.le_of_ble_eq_true rfl) rfl ?_
  intro p e R s m args below meth c Q ls hC hw hQ hT hl
  have hl : lv_has ls 3 [(0, .ref l0), (1, .int l1), (2, .int l2)] := hl
  exact X12_value_W hC hQ hT hst hf hw hl

def X12_code (E : gE) (l0 : Nat) (l1 : Int32) (l2 : Int32) (σ : gS) : Option ((Nat ⊕ Int32) × gS) :=
  ob (gcl σ l0 10) fun _ =>
  ob (X12_checkColumn_f E l0 l1 σ) fun x1 =>
  gtry x1 (fun k9 σ9 => some (Sum.inl k9, σ9)) (fun _ σ4 =>
    ob (gcl σ4 l0 10) fun _ =>
    ob (X12_checkRow_f E l0 l2 σ4) fun x6 =>
    gtry x6 (fun k9 σ9 => some (Sum.inl k9, σ9)) (fun _ σ9 =>
      ob (gfR σ9 l0 10 0) fun x11 =>
      ob (gcl σ9 x11 9) fun _ =>
      ob (X11_column_f E σ9 x11 l1) fun x13 =>
      ob (gcl σ9 x13 0) fun _ =>
      ob (X1_codeAt_f E σ9 x13 l2) fun x16 =>
      some (Sum.inr x16, σ9)))
set_option maxHeartbeats 4000000 in
set_option maxRecDepth 100000 in
theorem X12_code_W {σ : gS} {l0 : Nat} {l1 : Int32} {l2 : Int32} {res : ((Nat ⊕ Int32) × gS)} {ls : Array Slot} (hC : gC E D A p R s m args meth c cX12_code 3 RX12 "code" 7 111) (hQ : ∀ (r : Int32) (σ1 : gS), res = (.inr r, σ1) → gQI E D A p l e R s m args below meth c Q cX12_code FieldType.int (r, σ1)) (hT : ∀ (k : Nat) (σ1 : gS), res = (.inl k, σ1) → gTN E D A p l e R s m args below meth c Q cX12_code 3 RX12 k σ1) (hst : l.stackTraces = false) (hf : X12_code E l0 l1 l2 σ = some res) (hw : gW E D A s σ H locs) (hl : lv_has ls 3 [(0, .ref l0), (1, .int l1), (2, .int l2)]) : W p l e R s m args below meth c H locs cells slots Q (F0 m 0 ls []) := by
  have hC0 := hC
  obtain ⟨hx, hb, hml, hown, hts, -⟩ := hC0
  unfold X12_code at hf
  refine lv_aload_n hx hb dX12_code_0 rfl (lv_at hl 0 rfl) ?_
  refine lv_iload_n hx hb dX12_code_1 rfl (lv_at hl 1 rfl) ?_
  obtain ⟨_, h3, hf⟩ := ob_some hf
  obtain ⟨x1, h2, hf⟩ := ob_some hf
  refine gg_yVV (As := [.int l1]) hC hw (X12_checkColumn_M l hst E D A h2) h3 rfl g_ml_X12_116 hd_X12_checkColumn (Nat.le_of_ble_eq_true rfl) (Nat.le_of_ble_eq_true rfl) hl.1 rfl (Nat.le_of_ble_eq_true rfl) dX12_code_2 (fun k9 σ9 he => ?_) (fun σ4 he H locs cells slots hw => ?_)
  · subst he
    replace hf := gtry_inl.symm.trans hf
    cases hf
    exact (hT _ _ rfl).2.2 _ _ _
  · subst he
    replace hf := gtry_inr.symm.trans hf
    refine lv_aload_n hx hb dX12_code_5 rfl (lv_at hl 0 rfl) ?_
    refine lv_iload_n hx hb dX12_code_6 rfl (lv_at hl 2 rfl) ?_
    obtain ⟨_, h8, hf⟩ := ob_some hf
    obtain ⟨x6, h7, hf⟩ := ob_some hf
    refine gg_yVV (As := [.int l2]) hC hw (X12_checkRow_M l hst E D A h7) h8 rfl g_ml_X12_119 hd_X12_checkRow (Nat.le_of_ble_eq_true rfl) (Nat.le_of_ble_eq_true rfl) hl.1 rfl (Nat.le_of_ble_eq_true rfl) dX12_code_7 (fun k9 σ9 he => ?_) (fun σ9 he H locs cells slots hw => ?_)
    · subst he
      replace hf := gtry_inl.symm.trans hf
      cases hf
      exact (hT _ _ rfl).2.2 _ _ _
    · subst he
      replace hf := gtry_inr.symm.trans hf
      refine lv_aload_n hx hb dX12_code_10 rfl (lv_at hl 0 rfl) ?_
      obtain ⟨x11, h12, hf⟩ := ob_some hf
      refine rR_fl_X12_10 hC hw h12 dX12_code_11 ?_
      refine lv_iload_n hx hb dX12_code_14 rfl (lv_at hl 1 rfl) ?_
      obtain ⟨_, h15, hf⟩ := ob_some hf
      obtain ⟨x13, h14, hf⟩ := ob_some hf
      refine gg_cVR (As := [.int l1]) hC hw (X11_column_M l E D A h14) h15 rfl g_ml_X12_122 hd_X11_column (Nat.le_of_ble_eq_true rfl) (Nat.le_of_ble_eq_true rfl) hl.1 rfl (Nat.le_of_ble_eq_true rfl) dX12_code_15 (fun H locs cells slots hw => ?_)
      refine lv_iload_n hx hb dX12_code_18 rfl (lv_at hl 2 rfl) ?_
      obtain ⟨_, h18, hf⟩ := ob_some hf
      obtain ⟨x16, h17, hf⟩ := ob_some hf
      refine gg_cVI (As := [.int l2]) hC hw (X1_codeAt_M l E D A h17) h18 rfl g_ml_X12_132 hd_X1_codeAt (Nat.le_of_ble_eq_true rfl) (Nat.le_of_ble_eq_true rfl) hl.1 rfl (Nat.le_of_ble_eq_true rfl) dX12_code_19 (fun H locs cells slots hw => ?_)
      cases hf
      exact hQ _ _ rfl _ _ _ _ _ _ dX12_code_22 rfl hw

def X12_code_f (E : gE) (l0 : Nat) (l1 : Int32) (l2 : Int32) (σ : gS) : Option ((Nat ⊕ Int32) × gS) := X12_code E l0 l1 l2 σ
set_option maxRecDepth 100000 in
theorem X12_code_M (l : Launch) (hst : l.stackTraces = false) (E : gE) (D : va_G) (A : Nat → Prop) {l0 : Nat} {l1 : Int32} {l2 : Int32} {σ : gS} {res : ((Nat ⊕ Int32) × gS)} (hf : X12_code_f E l0 l1 l2 σ = some res) : gYI l E D A yX12_code (Cond.code yX12_code cX12_code 3 (some FieldType.int)) 7 111 [.ref l0, .int l1, .int l2] σ res := by
  refine gg_entYI (own := RX12) (nm := "code") (ty := FieldType.int) hst (Nat.le_of_ble_eq_true rfl) (Nat.le_of_ble_eq_true rfl) (by decide +kernel) rfl rfl (Nat.le_of_ble_eq_true rfl) rfl ?_
  intro p e R s m args below meth c Q ls hC hw hQ hT hl
  have hl : lv_has ls 3 [(0, .ref l0), (1, .int l1), (2, .int l2)] := hl
  exact X12_code_W hC hQ hT hst hf hw hl

def X12_dictionarySize (E : gE) (l0 : Nat) (l1 : Int32) (σ : gS) : Option ((Nat ⊕ Int32) × gS) :=
  ob (gcl σ l0 10) fun _ =>
  ob (X12_checkColumn_f E l0 l1 σ) fun x1 =>
  gtry x1 (fun k9 σ9 => some (Sum.inl k9, σ9)) (fun _ σ4 =>
    ob (gfR σ4 l0 10 0) fun x6 =>
    ob (gcl σ4 x6 9) fun _ =>
    ob (X11_dictionary_f E σ4 x6 l1) fun x8 =>
    ob (gcl σ4 x8 2) fun _ =>
    ob (X3_size_f E σ4 x8) fun x11 =>
    some (Sum.inr x11, σ4))
set_option maxHeartbeats 4000000 in
set_option maxRecDepth 100000 in
theorem X12_dictionarySize_W {σ : gS} {l0 : Nat} {l1 : Int32} {res : ((Nat ⊕ Int32) × gS)} {ls : Array Slot} (hC : gC E D A p R s m args meth c cX12_dictionarySize 2 RX12 "dictionarySize" 7 111) (hQ : ∀ (r : Int32) (σ1 : gS), res = (.inr r, σ1) → gQI E D A p l e R s m args below meth c Q cX12_dictionarySize FieldType.int (r, σ1)) (hT : ∀ (k : Nat) (σ1 : gS), res = (.inl k, σ1) → gTN E D A p l e R s m args below meth c Q cX12_dictionarySize 2 RX12 k σ1) (hst : l.stackTraces = false) (hf : X12_dictionarySize E l0 l1 σ = some res) (hw : gW E D A s σ H locs) (hl : lv_has ls 2 [(0, .ref l0), (1, .int l1)]) : W p l e R s m args below meth c H locs cells slots Q (F0 m 0 ls []) := by
  have hC0 := hC
  obtain ⟨hx, hb, hml, hown, hts, -⟩ := hC0
  unfold X12_dictionarySize at hf
  refine lv_aload_n hx hb dX12_dictionarySize_0 rfl (lv_at hl 0 rfl) ?_
  refine lv_iload_n hx hb dX12_dictionarySize_1 rfl (lv_at hl 1 rfl) ?_
  obtain ⟨_, h3, hf⟩ := ob_some hf
  obtain ⟨x1, h2, hf⟩ := ob_some hf
  refine gg_yVV (As := [.int l1]) hC hw (X12_checkColumn_M l hst E D A h2) h3 rfl g_ml_X12_116 hd_X12_checkColumn (Nat.le_of_ble_eq_true rfl) (Nat.le_of_ble_eq_true rfl) hl.1 rfl (Nat.le_of_ble_eq_true rfl) dX12_dictionarySize_2 (fun k9 σ9 he => ?_) (fun σ4 he H locs cells slots hw => ?_)
  · subst he
    replace hf := gtry_inl.symm.trans hf
    cases hf
    exact (hT _ _ rfl).2.2 _ _ _
  · subst he
    replace hf := gtry_inr.symm.trans hf
    refine lv_aload_n hx hb dX12_dictionarySize_5 rfl (lv_at hl 0 rfl) ?_
    obtain ⟨x6, h7, hf⟩ := ob_some hf
    refine rR_fl_X12_10 hC hw h7 dX12_dictionarySize_6 ?_
    refine lv_iload_n hx hb dX12_dictionarySize_9 rfl (lv_at hl 1 rfl) ?_
    obtain ⟨_, h10, hf⟩ := ob_some hf
    obtain ⟨x8, h9, hf⟩ := ob_some hf
    refine gg_cVR (As := [.int l1]) hC hw (X11_dictionary_M l E D A h9) h10 rfl g_ml_X12_135 hd_X11_dictionary (Nat.le_of_ble_eq_true rfl) (Nat.le_of_ble_eq_true rfl) hl.1 rfl (Nat.le_of_ble_eq_true rfl) dX12_dictionarySize_10 (fun H locs cells slots hw => ?_)
    obtain ⟨_, h13, hf⟩ := ob_some hf
    obtain ⟨x11, h12, hf⟩ := ob_some hf
    refine gg_cVI (As := []) hC hw (X3_size_M l E D A h12) h13 rfl g_ml_X12_139 hd_X3_size (Nat.le_of_ble_eq_true rfl) (Nat.le_of_ble_eq_true rfl) hl.1 rfl (Nat.le_of_ble_eq_true rfl) dX12_dictionarySize_13 (fun H locs cells slots hw => ?_)
    cases hf
    exact hQ _ _ rfl _ _ _ _ _ _ dX12_dictionarySize_16 rfl hw

def X12_dictionarySize_f (E : gE) (l0 : Nat) (l1 : Int32) (σ : gS) : Option ((Nat ⊕ Int32) × gS) := X12_dictionarySize E l0 l1 σ
set_option maxRecDepth 100000 in
theorem X12_dictionarySize_M (l : Launch) (hst : l.stackTraces = false) (E : gE) (D : va_G) (A : Nat → Prop) {l0 : Nat} {l1 : Int32} {σ : gS} {res : ((Nat ⊕ Int32) × gS)} (hf : X12_dictionarySize_f E l0 l1 σ = some res) : gYI l E D A yX12_dictionarySize (Cond.code yX12_dictionarySize cX12_dictionarySize 2 (some FieldType.int)) 7 111 [.ref l0, .int l1] σ res := by
  refine gg_entYI (own := RX12) (nm := "dictionarySize") (ty := FieldType.int) hst (Nat.le_of_ble_eq_true rfl) (Nat.le_of_ble_eq_true rfl) (by decide +kernel) rfl rfl (Nat.le_of_ble_eq_true rfl) rfl ?_
  intro p e R s m args below meth c Q ls hC hw hQ hT hl
  have hl : lv_has ls 2 [(0, .ref l0), (1, .int l1)] := hl
  exact X12_dictionarySize_W hC hQ hT hst hf hw hl

def X12_dictionaryValue (E : gE) (l0 : Nat) (l1 : Int32) (l2 : Int32) (σ : gS) : Option ((Nat ⊕ Int32) × gS) :=
  ob (gcl σ l0 10) fun _ =>
  ob (X12_checkColumn_f E l0 l1 σ) fun x1 =>
  gtry x1 (fun k9 σ9 => some (Sum.inl k9, σ9)) (fun _ σ4 =>
    ob (gcl σ4 l0 10) fun _ =>
    ob (X12_checkCode_f E l0 l1 l2 σ4) fun x6 =>
    gtry x6 (fun k9 σ9 => some (Sum.inl k9, σ9)) (fun _ σ9 =>
      ob (gfR σ9 l0 10 0) fun x11 =>
      ob (gcl σ9 x11 9) fun _ =>
      ob (X11_dictionary_f E σ9 x11 l1) fun x13 =>
      ob (gcl σ9 x13 2) fun _ =>
      ob (X3_entry_f E σ9 x13 l2) fun x16 =>
      some (Sum.inr x16, σ9)))
set_option maxHeartbeats 4000000 in
set_option maxRecDepth 100000 in
theorem X12_dictionaryValue_W {σ : gS} {l0 : Nat} {l1 : Int32} {l2 : Int32} {res : ((Nat ⊕ Int32) × gS)} {ls : Array Slot} (hC : gC E D A p R s m args meth c cX12_dictionaryValue 3 RX12 "dictionaryValue" 7 112) (hQ : ∀ (r : Int32) (σ1 : gS), res = (.inr r, σ1) → gQI E D A p l e R s m args below meth c Q cX12_dictionaryValue FieldType.int (r, σ1)) (hT : ∀ (k : Nat) (σ1 : gS), res = (.inl k, σ1) → gTN E D A p l e R s m args below meth c Q cX12_dictionaryValue 3 RX12 k σ1) (hst : l.stackTraces = false) (hf : X12_dictionaryValue E l0 l1 l2 σ = some res) (hw : gW E D A s σ H locs) (hl : lv_has ls 3 [(0, .ref l0), (1, .int l1), (2, .int l2)]) : W p l e R s m args below meth c H locs cells slots Q (F0 m 0 ls []) := by
  have hC0 := hC
  obtain ⟨hx, hb, hml, hown, hts, -⟩ := hC0
  unfold X12_dictionaryValue at hf
  refine lv_aload_n hx hb dX12_dictionaryValue_0 rfl (lv_at hl 0 rfl) ?_
  refine lv_iload_n hx hb dX12_dictionaryValue_1 rfl (lv_at hl 1 rfl) ?_
  obtain ⟨_, h3, hf⟩ := ob_some hf
  obtain ⟨x1, h2, hf⟩ := ob_some hf
  refine gg_yVV (As := [.int l1]) hC hw (X12_checkColumn_M l hst E D A h2) h3 rfl g_ml_X12_116 hd_X12_checkColumn (Nat.le_of_ble_eq_true rfl) (Nat.le_of_ble_eq_true rfl) hl.1 rfl (Nat.le_of_ble_eq_true rfl) dX12_dictionaryValue_2 (fun k9 σ9 he => ?_) (fun σ4 he H locs cells slots hw => ?_)
  · subst he
    replace hf := gtry_inl.symm.trans hf
    cases hf
    exact (hT _ _ rfl).2.2 _ _ _
  · subst he
    replace hf := gtry_inr.symm.trans hf
    refine lv_aload_n hx hb dX12_dictionaryValue_5 rfl (lv_at hl 0 rfl) ?_
    refine lv_iload_n hx hb dX12_dictionaryValue_6 rfl (lv_at hl 1 rfl) ?_
    refine lv_iload_n hx hb dX12_dictionaryValue_7 rfl (lv_at hl 2 rfl) ?_
    obtain ⟨_, h8, hf⟩ := ob_some hf
    obtain ⟨x6, h7, hf⟩ := ob_some hf
    refine gg_yVV (As := [.int l1, .int l2]) hC hw (X12_checkCode_M l hst E D A h7) h8 rfl g_ml_X12_140 hd_X12_checkCode (Nat.le_of_ble_eq_true rfl) (Nat.le_of_ble_eq_true rfl) hl.1 rfl (Nat.le_of_ble_eq_true rfl) dX12_dictionaryValue_8 (fun k9 σ9 he => ?_) (fun σ9 he H locs cells slots hw => ?_)
    · subst he
      replace hf := gtry_inl.symm.trans hf
      cases hf
      exact (hT _ _ rfl).2.2 _ _ _
    · subst he
      replace hf := gtry_inr.symm.trans hf
      refine lv_aload_n hx hb dX12_dictionaryValue_11 rfl (lv_at hl 0 rfl) ?_
      obtain ⟨x11, h12, hf⟩ := ob_some hf
      refine rR_fl_X12_10 hC hw h12 dX12_dictionaryValue_12 ?_
      refine lv_iload_n hx hb dX12_dictionaryValue_15 rfl (lv_at hl 1 rfl) ?_
      obtain ⟨_, h15, hf⟩ := ob_some hf
      obtain ⟨x13, h14, hf⟩ := ob_some hf
      refine gg_cVR (As := [.int l1]) hC hw (X11_dictionary_M l E D A h14) h15 rfl g_ml_X12_135 hd_X11_dictionary (Nat.le_of_ble_eq_true rfl) (Nat.le_of_ble_eq_true rfl) hl.1 rfl (Nat.le_of_ble_eq_true rfl) dX12_dictionaryValue_16 (fun H locs cells slots hw => ?_)
      refine lv_iload_n hx hb dX12_dictionaryValue_19 rfl (lv_at hl 2 rfl) ?_
      obtain ⟨_, h18, hf⟩ := ob_some hf
      obtain ⟨x16, h17, hf⟩ := ob_some hf
      refine gg_cVI (As := [.int l2]) hC hw (X3_entry_M l E D A h17) h18 rfl g_ml_X12_144 hd_X3_entry (Nat.le_of_ble_eq_true rfl) (Nat.le_of_ble_eq_true rfl) hl.1 rfl (Nat.le_of_ble_eq_true rfl) dX12_dictionaryValue_20 (fun H locs cells slots hw => ?_)
      cases hf
      exact hQ _ _ rfl _ _ _ _ _ _ dX12_dictionaryValue_23 rfl hw

def X12_dictionaryValue_f (E : gE) (l0 : Nat) (l1 : Int32) (l2 : Int32) (σ : gS) : Option ((Nat ⊕ Int32) × gS) := X12_dictionaryValue E l0 l1 l2 σ
set_option maxRecDepth 100000 in
theorem X12_dictionaryValue_M (l : Launch) (hst : l.stackTraces = false) (E : gE) (D : va_G) (A : Nat → Prop) {l0 : Nat} {l1 : Int32} {l2 : Int32} {σ : gS} {res : ((Nat ⊕ Int32) × gS)} (hf : X12_dictionaryValue_f E l0 l1 l2 σ = some res) : gYI l E D A yX12_dictionaryValue (Cond.code yX12_dictionaryValue cX12_dictionaryValue 3 (some FieldType.int)) 7 112 [.ref l0, .int l1, .int l2] σ res := by
  refine gg_entYI (own := RX12) (nm := "dictionaryValue") (ty := FieldType.int) hst (Nat.le_of_ble_eq_true rfl) (Nat.le_of_ble_eq_true rfl) (by decide +kernel) rfl rfl (Nat.le_of_ble_eq_true rfl) rfl ?_
  intro p e R s m args below meth c Q ls hC hw hQ hT hl
  have hl : lv_has ls 3 [(0, .ref l0), (1, .int l1), (2, .int l2)] := hl
  exact X12_dictionaryValue_W hC hQ hT hst hf hw hl

def X12_findCode (E : gE) (l0 : Nat) (l1 : Int32) (l2 : Int32) (σ : gS) : Option ((Nat ⊕ Int32) × gS) :=
  ob (gcl σ l0 10) fun _ =>
  ob (X12_checkColumn_f E l0 l1 σ) fun x1 =>
  gtry x1 (fun k9 σ9 => some (Sum.inl k9, σ9)) (fun _ σ4 =>
    ob (gfR σ4 l0 10 0) fun x6 =>
    ob (gcl σ4 x6 9) fun _ =>
    ob (X11_dictionary_f E σ4 x6 l1) fun x8 =>
    ob (gcl σ4 x8 2) fun _ =>
    ob (X3_find_f E σ4 x8 l2) fun x11 =>
    some (Sum.inr x11, σ4))
set_option maxHeartbeats 4000000 in
set_option maxRecDepth 100000 in
theorem X12_findCode_W {σ : gS} {l0 : Nat} {l1 : Int32} {l2 : Int32} {res : ((Nat ⊕ Int32) × gS)} {ls : Array Slot} (hC : gC E D A p R s m args meth c cX12_findCode 3 RX12 "findCode" 7 111) (hQ : ∀ (r : Int32) (σ1 : gS), res = (.inr r, σ1) → gQI E D A p l e R s m args below meth c Q cX12_findCode FieldType.int (r, σ1)) (hT : ∀ (k : Nat) (σ1 : gS), res = (.inl k, σ1) → gTN E D A p l e R s m args below meth c Q cX12_findCode 3 RX12 k σ1) (hst : l.stackTraces = false) (hf : X12_findCode E l0 l1 l2 σ = some res) (hw : gW E D A s σ H locs) (hl : lv_has ls 3 [(0, .ref l0), (1, .int l1), (2, .int l2)]) : W p l e R s m args below meth c H locs cells slots Q (F0 m 0 ls []) := by
  have hC0 := hC
  obtain ⟨hx, hb, hml, hown, hts, -⟩ := hC0
  unfold X12_findCode at hf
  refine lv_aload_n hx hb dX12_findCode_0 rfl (lv_at hl 0 rfl) ?_
  refine lv_iload_n hx hb dX12_findCode_1 rfl (lv_at hl 1 rfl) ?_
  obtain ⟨_, h3, hf⟩ := ob_some hf
  obtain ⟨x1, h2, hf⟩ := ob_some hf
  refine gg_yVV (As := [.int l1]) hC hw (X12_checkColumn_M l hst E D A h2) h3 rfl g_ml_X12_116 hd_X12_checkColumn (Nat.le_of_ble_eq_true rfl) (Nat.le_of_ble_eq_true rfl) hl.1 rfl (Nat.le_of_ble_eq_true rfl) dX12_findCode_2 (fun k9 σ9 he => ?_) (fun σ4 he H locs cells slots hw => ?_)
  · subst he
    replace hf := gtry_inl.symm.trans hf
    cases hf
    exact (hT _ _ rfl).2.2 _ _ _
  · subst he
    replace hf := gtry_inr.symm.trans hf
    refine lv_aload_n hx hb dX12_findCode_5 rfl (lv_at hl 0 rfl) ?_
    obtain ⟨x6, h7, hf⟩ := ob_some hf
    refine rR_fl_X12_10 hC hw h7 dX12_findCode_6 ?_
    refine lv_iload_n hx hb dX12_findCode_9 rfl (lv_at hl 1 rfl) ?_
    obtain ⟨_, h10, hf⟩ := ob_some hf
    obtain ⟨x8, h9, hf⟩ := ob_some hf
    refine gg_cVR (As := [.int l1]) hC hw (X11_dictionary_M l E D A h9) h10 rfl g_ml_X12_135 hd_X11_dictionary (Nat.le_of_ble_eq_true rfl) (Nat.le_of_ble_eq_true rfl) hl.1 rfl (Nat.le_of_ble_eq_true rfl) dX12_findCode_10 (fun H locs cells slots hw => ?_)
    refine lv_iload_n hx hb dX12_findCode_13 rfl (lv_at hl 2 rfl) ?_
    obtain ⟨_, h13, hf⟩ := ob_some hf
    obtain ⟨x11, h12, hf⟩ := ob_some hf
    refine gg_cVI (As := [.int l2]) hC hw (X3_find_M l E D A h12) h13 rfl g_ml_X12_147 hd_X3_find (Nat.le_of_ble_eq_true rfl) (Nat.le_of_ble_eq_true rfl) hl.1 rfl (Nat.le_of_ble_eq_true rfl) dX12_findCode_14 (fun H locs cells slots hw => ?_)
    cases hf
    exact hQ _ _ rfl _ _ _ _ _ _ dX12_findCode_17 rfl hw

def X12_findCode_f (E : gE) (l0 : Nat) (l1 : Int32) (l2 : Int32) (σ : gS) : Option ((Nat ⊕ Int32) × gS) := X12_findCode E l0 l1 l2 σ
set_option maxRecDepth 100000 in
theorem X12_findCode_M (l : Launch) (hst : l.stackTraces = false) (E : gE) (D : va_G) (A : Nat → Prop) {l0 : Nat} {l1 : Int32} {l2 : Int32} {σ : gS} {res : ((Nat ⊕ Int32) × gS)} (hf : X12_findCode_f E l0 l1 l2 σ = some res) : gYI l E D A yX12_findCode (Cond.code yX12_findCode cX12_findCode 3 (some FieldType.int)) 7 111 [.ref l0, .int l1, .int l2] σ res := by
  refine gg_entYI (own := RX12) (nm := "findCode") (ty := FieldType.int) hst (Nat.le_of_ble_eq_true rfl) (Nat.le_of_ble_eq_true rfl) (by decide +kernel) rfl rfl (Nat.le_of_ble_eq_true rfl) rfl ?_
  intro p e R s m args below meth c Q ls hC hw hQ hT hl
  have hl : lv_has ls 3 [(0, .ref l0), (1, .int l1), (2, .int l2)] := hl
  exact X12_findCode_W hC hQ hT hst hf hw hl

def X12_frequency (E : gE) (l0 : Nat) (l1 : Int32) (l2 : Int32) (σ : gS) : Option ((Nat ⊕ Int32) × gS) :=
  ob (gcl σ l0 10) fun _ =>
  ob (X12_checkColumn_f E l0 l1 σ) fun x1 =>
  gtry x1 (fun k9 σ9 => some (Sum.inl k9, σ9)) (fun _ σ4 =>
    ob (gcl σ4 l0 10) fun _ =>
    ob (X12_checkCode_f E l0 l1 l2 σ4) fun x6 =>
    gtry x6 (fun k9 σ9 => some (Sum.inl k9, σ9)) (fun _ σ9 =>
      ob (gfR σ9 l0 10 0) fun x11 =>
      ob (gcl σ9 x11 9) fun _ =>
      ob (X11_column_f E σ9 x11 l1) fun x13 =>
      ob (gfR σ9 l0 10 0) fun x16 =>
      ob (gcl σ9 x16 9) fun _ =>
      ob (X11_dictionary_f E σ9 x16 l1) fun x18 =>
      ob (gcl σ9 x18 2) fun _ =>
      ob (X3_entry_f E σ9 x18 l2) fun x21 =>
      ob (gcl σ9 x13 0) fun _ =>
      ob (X1_occurrences_f E σ9 x13 x21) fun x24 =>
      some (Sum.inr x24, σ9)))
set_option maxHeartbeats 4000000 in
set_option maxRecDepth 100000 in
theorem X12_frequency_W {σ : gS} {l0 : Nat} {l1 : Int32} {l2 : Int32} {res : ((Nat ⊕ Int32) × gS)} {ls : Array Slot} (hC : gC E D A p R s m args meth c cX12_frequency 3 RX12 "frequency" 7 112) (hQ : ∀ (r : Int32) (σ1 : gS), res = (.inr r, σ1) → gQI E D A p l e R s m args below meth c Q cX12_frequency FieldType.int (r, σ1)) (hT : ∀ (k : Nat) (σ1 : gS), res = (.inl k, σ1) → gTN E D A p l e R s m args below meth c Q cX12_frequency 3 RX12 k σ1) (hst : l.stackTraces = false) (hf : X12_frequency E l0 l1 l2 σ = some res) (hw : gW E D A s σ H locs) (hl : lv_has ls 3 [(0, .ref l0), (1, .int l1), (2, .int l2)]) : W p l e R s m args below meth c H locs cells slots Q (F0 m 0 ls []) := by
  have hC0 := hC
  obtain ⟨hx, hb, hml, hown, hts, -⟩ := hC0
  unfold X12_frequency at hf
  refine lv_aload_n hx hb dX12_frequency_0 rfl (lv_at hl 0 rfl) ?_
  refine lv_iload_n hx hb dX12_frequency_1 rfl (lv_at hl 1 rfl) ?_
  obtain ⟨_, h3, hf⟩ := ob_some hf
  obtain ⟨x1, h2, hf⟩ := ob_some hf
  refine gg_yVV (As := [.int l1]) hC hw (X12_checkColumn_M l hst E D A h2) h3 rfl g_ml_X12_116 hd_X12_checkColumn (Nat.le_of_ble_eq_true rfl) (Nat.le_of_ble_eq_true rfl) hl.1 rfl (Nat.le_of_ble_eq_true rfl) dX12_frequency_2 (fun k9 σ9 he => ?_) (fun σ4 he H locs cells slots hw => ?_)
  · subst he
    replace hf := gtry_inl.symm.trans hf
    cases hf
    exact (hT _ _ rfl).2.2 _ _ _
  · subst he
    replace hf := gtry_inr.symm.trans hf
    refine lv_aload_n hx hb dX12_frequency_5 rfl (lv_at hl 0 rfl) ?_
    refine lv_iload_n hx hb dX12_frequency_6 rfl (lv_at hl 1 rfl) ?_
    refine lv_iload_n hx hb dX12_frequency_7 rfl (lv_at hl 2 rfl) ?_
    obtain ⟨_, h8, hf⟩ := ob_some hf
    obtain ⟨x6, h7, hf⟩ := ob_some hf
    refine gg_yVV (As := [.int l1, .int l2]) hC hw (X12_checkCode_M l hst E D A h7) h8 rfl g_ml_X12_140 hd_X12_checkCode (Nat.le_of_ble_eq_true rfl) (Nat.le_of_ble_eq_true rfl) hl.1 rfl (Nat.le_of_ble_eq_true rfl) dX12_frequency_8 (fun k9 σ9 he => ?_) (fun σ9 he H locs cells slots hw => ?_)
    · subst he
      replace hf := gtry_inl.symm.trans hf
      cases hf
      exact (hT _ _ rfl).2.2 _ _ _
    · subst he
      replace hf := gtry_inr.symm.trans hf
      refine lv_aload_n hx hb dX12_frequency_11 rfl (lv_at hl 0 rfl) ?_
      obtain ⟨x11, h12, hf⟩ := ob_some hf
      refine rR_fl_X12_10 hC hw h12 dX12_frequency_12 ?_
      refine lv_iload_n hx hb dX12_frequency_15 rfl (lv_at hl 1 rfl) ?_
      obtain ⟨_, h15, hf⟩ := ob_some hf
      obtain ⟨x13, h14, hf⟩ := ob_some hf
      refine gg_cVR (As := [.int l1]) hC hw (X11_column_M l E D A h14) h15 rfl g_ml_X12_122 hd_X11_column (Nat.le_of_ble_eq_true rfl) (Nat.le_of_ble_eq_true rfl) hl.1 rfl (Nat.le_of_ble_eq_true rfl) dX12_frequency_16 (fun H locs cells slots hw => ?_)
      refine lv_aload_n hx hb dX12_frequency_19 rfl (lv_at hl 0 rfl) ?_
      obtain ⟨x16, h17, hf⟩ := ob_some hf
      refine rR_fl_X12_10 hC hw h17 dX12_frequency_20 ?_
      refine lv_iload_n hx hb dX12_frequency_23 rfl (lv_at hl 1 rfl) ?_
      obtain ⟨_, h20, hf⟩ := ob_some hf
      obtain ⟨x18, h19, hf⟩ := ob_some hf
      refine gg_cVR (As := [.int l1]) hC hw (X11_dictionary_M l E D A h19) h20 rfl g_ml_X12_135 hd_X11_dictionary (Nat.le_of_ble_eq_true rfl) (Nat.le_of_ble_eq_true rfl) hl.1 rfl (Nat.le_of_ble_eq_true rfl) dX12_frequency_24 (fun H locs cells slots hw => ?_)
      refine lv_iload_n hx hb dX12_frequency_27 rfl (lv_at hl 2 rfl) ?_
      obtain ⟨_, h23, hf⟩ := ob_some hf
      obtain ⟨x21, h22, hf⟩ := ob_some hf
      refine gg_cVI (As := [.int l2]) hC hw (X3_entry_M l E D A h22) h23 rfl g_ml_X12_144 hd_X3_entry (Nat.le_of_ble_eq_true rfl) (Nat.le_of_ble_eq_true rfl) hl.1 rfl (Nat.le_of_ble_eq_true rfl) dX12_frequency_28 (fun H locs cells slots hw => ?_)
      obtain ⟨_, h26, hf⟩ := ob_some hf
      obtain ⟨x24, h25, hf⟩ := ob_some hf
      refine gg_cVI (As := [.int x21]) hC hw (X1_occurrences_M l E D A h25) h26 rfl g_ml_X12_154 hd_X1_occurrences (Nat.le_of_ble_eq_true rfl) (Nat.le_of_ble_eq_true rfl) hl.1 rfl (Nat.le_of_ble_eq_true rfl) dX12_frequency_31 (fun H locs cells slots hw => ?_)
      cases hf
      exact hQ _ _ rfl _ _ _ _ _ _ dX12_frequency_34 rfl hw

def X12_frequency_f (E : gE) (l0 : Nat) (l1 : Int32) (l2 : Int32) (σ : gS) : Option ((Nat ⊕ Int32) × gS) := X12_frequency E l0 l1 l2 σ
set_option maxRecDepth 100000 in
theorem X12_frequency_M (l : Launch) (hst : l.stackTraces = false) (E : gE) (D : va_G) (A : Nat → Prop) {l0 : Nat} {l1 : Int32} {l2 : Int32} {σ : gS} {res : ((Nat ⊕ Int32) × gS)} (hf : X12_frequency_f E l0 l1 l2 σ = some res) : gYI l E D A yX12_frequency (Cond.code yX12_frequency cX12_frequency 3 (some FieldType.int)) 7 112 [.ref l0, .int l1, .int l2] σ res := by
  refine gg_entYI (own := RX12) (nm := "frequency") (ty := FieldType.int) hst (Nat.le_of_ble_eq_true rfl) (Nat.le_of_ble_eq_true rfl) (by decide +kernel) rfl rfl (Nat.le_of_ble_eq_true rfl) rfl ?_
  intro p e R s m args below meth c Q ls hC hw hQ hT hl
  have hl : lv_has ls 3 [(0, .ref l0), (1, .int l1), (2, .int l2)] := hl
  exact X12_frequency_W hC hQ hT hst hf hw hl

def X12_commonestCode (E : gE) (l0 : Nat) (l1 : Int32) (σ : gS) : Option ((Nat ⊕ Int32) × gS) :=
  ob (gcl σ l0 10) fun _ =>
  ob (X12_checkColumn_f E l0 l1 σ) fun x1 =>
  gtry x1 (fun k9 σ9 => some (Sum.inl k9, σ9)) (fun _ σ4 =>
    ob (gfR σ4 l0 10 0) fun x6 =>
    ob (gcl σ4 x6 9) fun _ =>
    ob (X11_column_f E σ4 x6 l1) fun x8 =>
    ob (gcl σ4 x8 0) fun _ =>
    ob (X1_commonest_f E σ4 x8) fun x11 =>
    some (Sum.inr x11, σ4))
set_option maxHeartbeats 4000000 in
set_option maxRecDepth 100000 in
theorem X12_commonestCode_W {σ : gS} {l0 : Nat} {l1 : Int32} {res : ((Nat ⊕ Int32) × gS)} {ls : Array Slot} (hC : gC E D A p R s m args meth c cX12_commonestCode 2 RX12 "commonestCode" 7 111) (hQ : ∀ (r : Int32) (σ1 : gS), res = (.inr r, σ1) → gQI E D A p l e R s m args below meth c Q cX12_commonestCode FieldType.int (r, σ1)) (hT : ∀ (k : Nat) (σ1 : gS), res = (.inl k, σ1) → gTN E D A p l e R s m args below meth c Q cX12_commonestCode 2 RX12 k σ1) (hst : l.stackTraces = false) (hf : X12_commonestCode E l0 l1 σ = some res) (hw : gW E D A s σ H locs) (hl : lv_has ls 2 [(0, .ref l0), (1, .int l1)]) : W p l e R s m args below meth c H locs cells slots Q (F0 m 0 ls []) := by
  have hC0 := hC
  obtain ⟨hx, hb, hml, hown, hts, -⟩ := hC0
  unfold X12_commonestCode at hf
  refine lv_aload_n hx hb dX12_commonestCode_0 rfl (lv_at hl 0 rfl) ?_
  refine lv_iload_n hx hb dX12_commonestCode_1 rfl (lv_at hl 1 rfl) ?_
  obtain ⟨_, h3, hf⟩ := ob_some hf
  obtain ⟨x1, h2, hf⟩ := ob_some hf
  refine gg_yVV (As := [.int l1]) hC hw (X12_checkColumn_M l hst E D A h2) h3 rfl g_ml_X12_116 hd_X12_checkColumn (Nat.le_of_ble_eq_true rfl) (Nat.le_of_ble_eq_true rfl) hl.1 rfl (Nat.le_of_ble_eq_true rfl) dX12_commonestCode_2 (fun k9 σ9 he => ?_) (fun σ4 he H locs cells slots hw => ?_)
  · subst he
    replace hf := gtry_inl.symm.trans hf
    cases hf
    exact (hT _ _ rfl).2.2 _ _ _
  · subst he
    replace hf := gtry_inr.symm.trans hf
    refine lv_aload_n hx hb dX12_commonestCode_5 rfl (lv_at hl 0 rfl) ?_
    obtain ⟨x6, h7, hf⟩ := ob_some hf
    refine rR_fl_X12_10 hC hw h7 dX12_commonestCode_6 ?_
    refine lv_iload_n hx hb dX12_commonestCode_9 rfl (lv_at hl 1 rfl) ?_
    obtain ⟨_, h10, hf⟩ := ob_some hf
    obtain ⟨x8, h9, hf⟩ := ob_some hf
    refine gg_cVR (As := [.int l1]) hC hw (X11_column_M l E D A h9) h10 rfl g_ml_X12_122 hd_X11_column (Nat.le_of_ble_eq_true rfl) (Nat.le_of_ble_eq_true rfl) hl.1 rfl (Nat.le_of_ble_eq_true rfl) dX12_commonestCode_10 (fun H locs cells slots hw => ?_)
    obtain ⟨_, h13, hf⟩ := ob_some hf
    obtain ⟨x11, h12, hf⟩ := ob_some hf
    refine gg_cVI (As := []) hC hw (X1_commonest_M l E D A h12) h13 rfl g_ml_X12_157 hd_X1_commonest (Nat.le_of_ble_eq_true rfl) (Nat.le_of_ble_eq_true rfl) hl.1 rfl (Nat.le_of_ble_eq_true rfl) dX12_commonestCode_13 (fun H locs cells slots hw => ?_)
    cases hf
    exact hQ _ _ rfl _ _ _ _ _ _ dX12_commonestCode_16 rfl hw

def X12_commonestCode_f (E : gE) (l0 : Nat) (l1 : Int32) (σ : gS) : Option ((Nat ⊕ Int32) × gS) := X12_commonestCode E l0 l1 σ
set_option maxRecDepth 100000 in
theorem X12_commonestCode_M (l : Launch) (hst : l.stackTraces = false) (E : gE) (D : va_G) (A : Nat → Prop) {l0 : Nat} {l1 : Int32} {σ : gS} {res : ((Nat ⊕ Int32) × gS)} (hf : X12_commonestCode_f E l0 l1 σ = some res) : gYI l E D A yX12_commonestCode (Cond.code yX12_commonestCode cX12_commonestCode 2 (some FieldType.int)) 7 111 [.ref l0, .int l1] σ res := by
  refine gg_entYI (own := RX12) (nm := "commonestCode") (ty := FieldType.int) hst (Nat.le_of_ble_eq_true rfl) (Nat.le_of_ble_eq_true rfl) (by decide +kernel) rfl rfl (Nat.le_of_ble_eq_true rfl) rfl ?_
  intro p e R s m args below meth c Q ls hC hw hQ hT hl
  have hl : lv_has ls 2 [(0, .ref l0), (1, .int l1)] := hl
  exact X12_commonestCode_W hC hQ hT hst hf hw hl

def X12_bitWidth (E : gE) (l0 : Nat) (l1 : Int32) (σ : gS) : Option ((Nat ⊕ Int32) × gS) :=
  ob (gcl σ l0 10) fun _ =>
  ob (X12_checkColumn_f E l0 l1 σ) fun x1 =>
  gtry x1 (fun k9 σ9 => some (Sum.inl k9, σ9)) (fun _ σ4 =>
    ob (gfR σ4 l0 10 0) fun x6 =>
    ob (gcl σ4 x6 9) fun _ =>
    ob (X11_dictionary_f E σ4 x6 l1) fun x8 =>
    ob (gcl σ4 x8 2) fun _ =>
    ob (X3_width_f E σ4 x8) fun x11 =>
    some (Sum.inr x11, σ4))
set_option maxHeartbeats 4000000 in
set_option maxRecDepth 100000 in
theorem X12_bitWidth_W {σ : gS} {l0 : Nat} {l1 : Int32} {res : ((Nat ⊕ Int32) × gS)} {ls : Array Slot} (hC : gC E D A p R s m args meth c cX12_bitWidth 2 RX12 "bitWidth" 7 111) (hQ : ∀ (r : Int32) (σ1 : gS), res = (.inr r, σ1) → gQI E D A p l e R s m args below meth c Q cX12_bitWidth FieldType.int (r, σ1)) (hT : ∀ (k : Nat) (σ1 : gS), res = (.inl k, σ1) → gTN E D A p l e R s m args below meth c Q cX12_bitWidth 2 RX12 k σ1) (hst : l.stackTraces = false) (hf : X12_bitWidth E l0 l1 σ = some res) (hw : gW E D A s σ H locs) (hl : lv_has ls 2 [(0, .ref l0), (1, .int l1)]) : W p l e R s m args below meth c H locs cells slots Q (F0 m 0 ls []) := by
  have hC0 := hC
  obtain ⟨hx, hb, hml, hown, hts, -⟩ := hC0
  unfold X12_bitWidth at hf
  refine lv_aload_n hx hb dX12_bitWidth_0 rfl (lv_at hl 0 rfl) ?_
  refine lv_iload_n hx hb dX12_bitWidth_1 rfl (lv_at hl 1 rfl) ?_
  obtain ⟨_, h3, hf⟩ := ob_some hf
  obtain ⟨x1, h2, hf⟩ := ob_some hf
  refine gg_yVV (As := [.int l1]) hC hw (X12_checkColumn_M l hst E D A h2) h3 rfl g_ml_X12_116 hd_X12_checkColumn (Nat.le_of_ble_eq_true rfl) (Nat.le_of_ble_eq_true rfl) hl.1 rfl (Nat.le_of_ble_eq_true rfl) dX12_bitWidth_2 (fun k9 σ9 he => ?_) (fun σ4 he H locs cells slots hw => ?_)
  · subst he
    replace hf := gtry_inl.symm.trans hf
    cases hf
    exact (hT _ _ rfl).2.2 _ _ _
  · subst he
    replace hf := gtry_inr.symm.trans hf
    refine lv_aload_n hx hb dX12_bitWidth_5 rfl (lv_at hl 0 rfl) ?_
    obtain ⟨x6, h7, hf⟩ := ob_some hf
    refine rR_fl_X12_10 hC hw h7 dX12_bitWidth_6 ?_
    refine lv_iload_n hx hb dX12_bitWidth_9 rfl (lv_at hl 1 rfl) ?_
    obtain ⟨_, h10, hf⟩ := ob_some hf
    obtain ⟨x8, h9, hf⟩ := ob_some hf
    refine gg_cVR (As := [.int l1]) hC hw (X11_dictionary_M l E D A h9) h10 rfl g_ml_X12_135 hd_X11_dictionary (Nat.le_of_ble_eq_true rfl) (Nat.le_of_ble_eq_true rfl) hl.1 rfl (Nat.le_of_ble_eq_true rfl) dX12_bitWidth_10 (fun H locs cells slots hw => ?_)
    obtain ⟨_, h13, hf⟩ := ob_some hf
    obtain ⟨x11, h12, hf⟩ := ob_some hf
    refine gg_cVI (As := []) hC hw (X3_width_M l E D A h12) h13 rfl g_ml_X12_160 hd_X3_width (Nat.le_of_ble_eq_true rfl) (Nat.le_of_ble_eq_true rfl) hl.1 rfl (Nat.le_of_ble_eq_true rfl) dX12_bitWidth_13 (fun H locs cells slots hw => ?_)
    cases hf
    exact hQ _ _ rfl _ _ _ _ _ _ dX12_bitWidth_16 rfl hw

def X12_bitWidth_f (E : gE) (l0 : Nat) (l1 : Int32) (σ : gS) : Option ((Nat ⊕ Int32) × gS) := X12_bitWidth E l0 l1 σ
set_option maxRecDepth 100000 in
theorem X12_bitWidth_M (l : Launch) (hst : l.stackTraces = false) (E : gE) (D : va_G) (A : Nat → Prop) {l0 : Nat} {l1 : Int32} {σ : gS} {res : ((Nat ⊕ Int32) × gS)} (hf : X12_bitWidth_f E l0 l1 σ = some res) : gYI l E D A yX12_bitWidth (Cond.code yX12_bitWidth cX12_bitWidth 2 (some FieldType.int)) 7 111 [.ref l0, .int l1] σ res := by
  refine gg_entYI (own := RX12) (nm := "bitWidth") (ty := FieldType.int) hst (Nat.le_of_ble_eq_true rfl) (Nat.le_of_ble_eq_true rfl) (by decide +kernel) rfl rfl (Nat.le_of_ble_eq_true rfl) rfl ?_
  intro p e R s m args below meth c Q ls hC hw hQ hT hl
  have hl : lv_has ls 2 [(0, .ref l0), (1, .int l1)] := hl
  exact X12_bitWidth_W hC hQ hT hst hf hw hl

def X12_wordCount (E : gE) (l0 : Nat) (l1 : Int32) (σ : gS) : Option ((Nat ⊕ Int32) × gS) :=
  ob (gcl σ l0 10) fun _ =>
  ob (X12_checkColumn_f E l0 l1 σ) fun x1 =>
  gtry x1 (fun k9 σ9 => some (Sum.inl k9, σ9)) (fun _ σ4 =>
    ob (gcl σ4 l0 10) fun _ =>
    ob (X12_wordsOf_f E σ4 l0 l1) fun x6 =>
    some (Sum.inr x6, σ4))
set_option maxHeartbeats 4000000 in
set_option maxRecDepth 100000 in
theorem X12_wordCount_W {σ : gS} {l0 : Nat} {l1 : Int32} {res : ((Nat ⊕ Int32) × gS)} {ls : Array Slot} (hC : gC E D A p R s m args meth c cX12_wordCount 2 RX12 "wordCount" 7 111) (hQ : ∀ (r : Int32) (σ1 : gS), res = (.inr r, σ1) → gQI E D A p l e R s m args below meth c Q cX12_wordCount FieldType.int (r, σ1)) (hT : ∀ (k : Nat) (σ1 : gS), res = (.inl k, σ1) → gTN E D A p l e R s m args below meth c Q cX12_wordCount 2 RX12 k σ1) (hst : l.stackTraces = false) (hf : X12_wordCount E l0 l1 σ = some res) (hw : gW E D A s σ H locs) (hl : lv_has ls 2 [(0, .ref l0), (1, .int l1)]) : W p l e R s m args below meth c H locs cells slots Q (F0 m 0 ls []) := by
  have hC0 := hC
  obtain ⟨hx, hb, hml, hown, hts, -⟩ := hC0
  unfold X12_wordCount at hf
  refine lv_aload_n hx hb dX12_wordCount_0 rfl (lv_at hl 0 rfl) ?_
  refine lv_iload_n hx hb dX12_wordCount_1 rfl (lv_at hl 1 rfl) ?_
  obtain ⟨_, h3, hf⟩ := ob_some hf
  obtain ⟨x1, h2, hf⟩ := ob_some hf
  refine gg_yVV (As := [.int l1]) hC hw (X12_checkColumn_M l hst E D A h2) h3 rfl g_ml_X12_116 hd_X12_checkColumn (Nat.le_of_ble_eq_true rfl) (Nat.le_of_ble_eq_true rfl) hl.1 rfl (Nat.le_of_ble_eq_true rfl) dX12_wordCount_2 (fun k9 σ9 he => ?_) (fun σ4 he H locs cells slots hw => ?_)
  · subst he
    replace hf := gtry_inl.symm.trans hf
    cases hf
    exact (hT _ _ rfl).2.2 _ _ _
  · subst he
    replace hf := gtry_inr.symm.trans hf
    refine lv_aload_n hx hb dX12_wordCount_5 rfl (lv_at hl 0 rfl) ?_
    refine lv_iload_n hx hb dX12_wordCount_6 rfl (lv_at hl 1 rfl) ?_
    obtain ⟨_, h8, hf⟩ := ob_some hf
    obtain ⟨x6, h7, hf⟩ := ob_some hf
    refine gg_cVI (As := [.int l1]) hC hw (X12_wordsOf_M l E D A h7) h8 rfl g_ml_X12_163 hd_X12_wordsOf (Nat.le_of_ble_eq_true rfl) (Nat.le_of_ble_eq_true rfl) hl.1 rfl (Nat.le_of_ble_eq_true rfl) dX12_wordCount_7 (fun H locs cells slots hw => ?_)
    cases hf
    exact hQ _ _ rfl _ _ _ _ _ _ dX12_wordCount_10 rfl hw

def X12_wordCount_f (E : gE) (l0 : Nat) (l1 : Int32) (σ : gS) : Option ((Nat ⊕ Int32) × gS) := X12_wordCount E l0 l1 σ
set_option maxRecDepth 100000 in
theorem X12_wordCount_M (l : Launch) (hst : l.stackTraces = false) (E : gE) (D : va_G) (A : Nat → Prop) {l0 : Nat} {l1 : Int32} {σ : gS} {res : ((Nat ⊕ Int32) × gS)} (hf : X12_wordCount_f E l0 l1 σ = some res) : gYI l E D A yX12_wordCount (Cond.code yX12_wordCount cX12_wordCount 2 (some FieldType.int)) 7 111 [.ref l0, .int l1] σ res := by
  refine gg_entYI (own := RX12) (nm := "wordCount") (ty := FieldType.int) hst (Nat.le_of_ble_eq_true rfl) (Nat.le_of_ble_eq_true rfl) (by decide +kernel) rfl rfl (Nat.le_of_ble_eq_true rfl) rfl ?_
  intro p e R s m args below meth c Q ls hC hw hQ hT hl
  have hl : lv_has ls 2 [(0, .ref l0), (1, .int l1)] := hl
  exact X12_wordCount_W hC hQ hT hst hf hw hl

def X12_packedWord_18 (E : gE) (σ : gS) : Option ((Nat ⊕ Int64) × gS) :=
  ob (gthr E σ) fun σ1 =>
  some (Sum.inl 0, σ1)
set_option maxHeartbeats 4000000 in
set_option maxRecDepth 100000 in
theorem X12_packedWord_18_W {σ : gS} {res : ((Nat ⊕ Int64) × gS)} {ls : Array Slot} (hC : gC E D A p R s m args meth c cX12_packedWord 3 RX12 "packedWord" 7 111) (hQ : ∀ (r : Int64) (σ1 : gS), res = (.inr r, σ1) → gQJ E D A p l e R s m args below meth c Q cX12_packedWord (r, σ1)) (hT : ∀ (k : Nat) (σ1 : gS), res = (.inl k, σ1) → gTN E D A p l e R s m args below meth c Q cX12_packedWord 3 RX12 k σ1) (hst : l.stackTraces = false) (hf : X12_packedWord_18 E σ = some res) (hw : gW E D A s σ H locs) (hl : lv_has ls 3 []) : W p l e R s m args below meth c H locs cells slots Q (F0 m 18 ls []) := by
  have hC0 := hC
  obtain ⟨hx, hb, hml, hown, hts, -⟩ := hC0
  unfold X12_packedWord_18 at hf
  obtain ⟨σ1, h2, hf⟩ := ob_some hf
  cases hf
  exact (hT _ _ rfl).1 _ _ _ _ 8 _ _ _ _ _ _ _ h2 hw hl.1 tw_0 rfl rfl rfl dX12_packedWord_18 dX12_packedWord_21 dX12_packedWord_22 dX12_packedWord_24 dX12_packedWord_27

def X12_packedWord (E : gE) (l0 : Nat) (l1 : Int32) (l2 : Int32) (σ : gS) : Option ((Nat ⊕ Int64) × gS) :=
  ob (gcl σ l0 10) fun _ =>
  ob (X12_checkColumn_f E l0 l1 σ) fun x3 =>
  gtry x3 (fun k9 σ9 => some (Sum.inl k9, σ9)) (fun _ σ6 =>
    if l2 < 0 then
      X12_packedWord_18 E σ6
    else
      ob (gcl σ6 l0 10) fun _ =>
      ob (X12_wordsOf_f E σ6 l0 l1) fun x8 =>
      if l2 < x8 then
        ob (gfR σ6 l0 10 10) fun x11 =>
        ob (gfR σ6 l0 10 0) fun x13 =>
        ob (gcl σ6 x13 9) fun _ =>
        ob (X11_column_f E σ6 x13 l1) fun x15 =>
        ob (gcl σ6 x11 6) fun _ =>
        ob (X8_pack_f E x11 x15 σ6) fun x18 =>
        ob (gfR x18 l0 10 10) fun x21 =>
        ob (gcl x18 x21 6) fun _ =>
        ob (X8_word_f E x18 x21 l2) fun x23 =>
        some (Sum.inr x23, x18)
      else
        X12_packedWord_18 E σ6)
set_option maxHeartbeats 4000000 in
set_option maxRecDepth 100000 in
theorem X12_packedWord_W {σ : gS} {l0 : Nat} {l1 : Int32} {l2 : Int32} {res : ((Nat ⊕ Int64) × gS)} {ls : Array Slot} (hC : gC E D A p R s m args meth c cX12_packedWord 3 RX12 "packedWord" 7 111) (hQ : ∀ (r : Int64) (σ1 : gS), res = (.inr r, σ1) → gQJ E D A p l e R s m args below meth c Q cX12_packedWord (r, σ1)) (hT : ∀ (k : Nat) (σ1 : gS), res = (.inl k, σ1) → gTN E D A p l e R s m args below meth c Q cX12_packedWord 3 RX12 k σ1) (hst : l.stackTraces = false) (hf : X12_packedWord E l0 l1 l2 σ = some res) (hw : gW E D A s σ H locs) (hl : lv_has ls 3 [(0, .ref l0), (1, .int l1), (2, .int l2)]) : W p l e R s m args below meth c H locs cells slots Q (F0 m 0 ls []) := by
  have hC0 := hC
  obtain ⟨hx, hb, hml, hown, hts, -⟩ := hC0
  unfold X12_packedWord at hf
  refine lv_aload_n hx hb dX12_packedWord_0 rfl (lv_at hl 0 rfl) ?_
  refine lv_iload_n hx hb dX12_packedWord_1 rfl (lv_at hl 1 rfl) ?_
  obtain ⟨_, h5, hf⟩ := ob_some hf
  obtain ⟨x3, h4, hf⟩ := ob_some hf
  refine gg_yVV (As := [.int l1]) hC hw (X12_checkColumn_M l hst E D A h4) h5 rfl g_ml_X12_116 hd_X12_checkColumn (Nat.le_of_ble_eq_true rfl) (Nat.le_of_ble_eq_true rfl) hl.1 rfl (Nat.le_of_ble_eq_true rfl) dX12_packedWord_2 (fun k9 σ9 he => ?_) (fun σ6 he H locs cells slots hw => ?_)
  · subst he
    replace hf := gtry_inl.symm.trans hf
    cases hf
    exact (hT _ _ rfl).2.2 _ _ _
  · subst he
    replace hf := gtry_inr.symm.trans hf
    refine lv_iload_n hx hb dX12_packedWord_5 rfl (lv_at hl 2 rfl) ?_
    refine lv_if_lt (tgt := 18) hx hb dX12_packedWord_6 (by decide) (fun c27 => ?_) (fun c27 => ?_)
    · replace hf := (if_pos c27).symm.trans hf
      exact X12_packedWord_18_W hC hQ hT hst hf hw (lv_sub hl [] rfl)
    · replace hf := (if_neg c27).symm.trans hf
      refine lv_iload_n hx hb dX12_packedWord_9 rfl (lv_at hl 2 rfl) ?_
      refine lv_aload_n hx hb dX12_packedWord_10 rfl (lv_at hl 0 rfl) ?_
      refine lv_iload_n hx hb dX12_packedWord_11 rfl (lv_at hl 1 rfl) ?_
      obtain ⟨_, h10, hf⟩ := ob_some hf
      obtain ⟨x8, h9, hf⟩ := ob_some hf
      refine gg_cVI (As := [.int l1]) hC hw (X12_wordsOf_M l E D A h9) h10 rfl g_ml_X12_163 hd_X12_wordsOf (Nat.le_of_ble_eq_true rfl) (Nat.le_of_ble_eq_true rfl) hl.1 rfl (Nat.le_of_ble_eq_true rfl) dX12_packedWord_12 (fun H locs cells slots hw => ?_)
      refine lv_icmp_lt (tgt := 28) hx hb dX12_packedWord_15 (by decide) (fun c26 => ?_) (fun c26 => ?_)
      · replace hf := (if_pos c26).symm.trans hf
        refine lv_aload_n hx hb dX12_packedWord_28 rfl (lv_at hl 0 rfl) ?_
        obtain ⟨x11, h12, hf⟩ := ob_some hf
        refine rR_fl_X12_63 hC hw h12 dX12_packedWord_29 ?_
        refine lv_aload_n hx hb dX12_packedWord_32 rfl (lv_at hl 0 rfl) ?_
        obtain ⟨x13, h14, hf⟩ := ob_some hf
        refine rR_fl_X12_10 hC hw h14 dX12_packedWord_33 ?_
        refine lv_iload_n hx hb dX12_packedWord_36 rfl (lv_at hl 1 rfl) ?_
        obtain ⟨_, h17, hf⟩ := ob_some hf
        obtain ⟨x15, h16, hf⟩ := ob_some hf
        refine gg_cVR (As := [.int l1]) hC hw (X11_column_M l E D A h16) h17 rfl g_ml_X12_122 hd_X11_column (Nat.le_of_ble_eq_true rfl) (Nat.le_of_ble_eq_true rfl) hl.1 rfl (Nat.le_of_ble_eq_true rfl) dX12_packedWord_37 (fun H locs cells slots hw => ?_)
        obtain ⟨_, h20, hf⟩ := ob_some hf
        obtain ⟨x18, h19, hf⟩ := ob_some hf
        refine gg_cVV (As := [.ref x15]) hC hw (X8_pack_M l E D A h19) h20 rfl g_ml_X12_173 hd_X8_pack (Nat.le_of_ble_eq_true rfl) (Nat.le_of_ble_eq_true rfl) hl.1 rfl (Nat.le_of_ble_eq_true rfl) dX12_packedWord_40 (fun H locs cells slots hw => ?_)
        refine lv_aload_n hx hb dX12_packedWord_43 rfl (lv_at hl 0 rfl) ?_
        obtain ⟨x21, h22, hf⟩ := ob_some hf
        refine rR_fl_X12_63 hC hw h22 dX12_packedWord_44 ?_
        refine lv_iload_n hx hb dX12_packedWord_47 rfl (lv_at hl 2 rfl) ?_
        obtain ⟨_, h25, hf⟩ := ob_some hf
        obtain ⟨x23, h24, hf⟩ := ob_some hf
        refine gg_cVJ (As := [.int l2]) hC hw (X8_word_M l E D A h24) h25 rfl g_ml_X12_177 hd_X8_word (Nat.le_of_ble_eq_true rfl) (Nat.le_of_ble_eq_true rfl) hl.1 rfl (Nat.le_of_ble_eq_true rfl) dX12_packedWord_48 (fun H locs cells slots hw => ?_)
        cases hf
        exact hQ _ _ rfl _ _ _ _ _ _ dX12_packedWord_51 hw
      · replace hf := (if_neg c26).symm.trans hf
        exact X12_packedWord_18_W hC hQ hT hst hf hw (lv_sub hl [] rfl)

def X12_packedWord_f (E : gE) (l0 : Nat) (l1 : Int32) (l2 : Int32) (σ : gS) : Option ((Nat ⊕ Int64) × gS) := X12_packedWord E l0 l1 l2 σ
set_option maxRecDepth 100000 in
theorem X12_packedWord_M (l : Launch) (hst : l.stackTraces = false) (E : gE) (D : va_G) (A : Nat → Prop) {l0 : Nat} {l1 : Int32} {l2 : Int32} {σ : gS} {res : ((Nat ⊕ Int64) × gS)} (hf : X12_packedWord_f E l0 l1 l2 σ = some res) : gYJ l E D A yX12_packedWord (Cond.code yX12_packedWord cX12_packedWord 3 (some FieldType.long)) 7 111 [.ref l0, .int l1, .int l2] σ res := by
  refine gg_entYJ (own := RX12) (nm := "packedWord") hst (Nat.le_of_ble_eq_true rfl) (Nat.le_of_ble_eq_true rfl) (by decide +kernel) rfl rfl (Nat.le_of_ble_eq_true rfl) rfl ?_
  intro p e R s m args below meth c Q ls hC hw hQ hT hl
  have hl : lv_has ls 3 [(0, .ref l0), (1, .int l1), (2, .int l2)] := hl
  exact X12_packedWord_W hC hQ hT hst hf hw hl

def X12_runCount (E : gE) (l0 : Nat) (l1 : Int32) (σ : gS) : Option ((Nat ⊕ Int32) × gS) :=
  ob (gcl σ l0 10) fun _ =>
  ob (X12_checkColumn_f E l0 l1 σ) fun x1 =>
  gtry x1 (fun k9 σ9 => some (Sum.inl k9, σ9)) (fun _ σ4 =>
    ob (gfR σ4 l0 10 8) fun x6 =>
    ob (gfR σ4 l0 10 0) fun x8 =>
    ob (gcl σ4 x8 9) fun _ =>
    ob (X11_rows_f E σ4 x8) fun x10 =>
    ob (gcl σ4 x6 8) fun _ =>
    ob (X10_reset_f E x6 x10 σ4) fun x13 =>
    ob (gfR x13 l0 10 0) fun x16 =>
    ob (gcl x13 x16 9) fun _ =>
    ob (X11_column_f E x13 x16 l1) fun x18 =>
    ob (gfR x13 l0 10 8) fun x21 =>
    ob (gcl x13 x18 0) fun _ =>
    ob (X1_runsIn_f E x13 x18 x21) fun x23 =>
    some (Sum.inr x23, x13))
set_option maxHeartbeats 4000000 in
set_option maxRecDepth 100000 in
theorem X12_runCount_W {σ : gS} {l0 : Nat} {l1 : Int32} {res : ((Nat ⊕ Int32) × gS)} {ls : Array Slot} (hC : gC E D A p R s m args meth c cX12_runCount 2 RX12 "runCount" 7 111) (hQ : ∀ (r : Int32) (σ1 : gS), res = (.inr r, σ1) → gQI E D A p l e R s m args below meth c Q cX12_runCount FieldType.int (r, σ1)) (hT : ∀ (k : Nat) (σ1 : gS), res = (.inl k, σ1) → gTN E D A p l e R s m args below meth c Q cX12_runCount 2 RX12 k σ1) (hst : l.stackTraces = false) (hf : X12_runCount E l0 l1 σ = some res) (hw : gW E D A s σ H locs) (hl : lv_has ls 2 [(0, .ref l0), (1, .int l1)]) : W p l e R s m args below meth c H locs cells slots Q (F0 m 0 ls []) := by
  have hC0 := hC
  obtain ⟨hx, hb, hml, hown, hts, -⟩ := hC0
  unfold X12_runCount at hf
  refine lv_aload_n hx hb dX12_runCount_0 rfl (lv_at hl 0 rfl) ?_
  refine lv_iload_n hx hb dX12_runCount_1 rfl (lv_at hl 1 rfl) ?_
  obtain ⟨_, h3, hf⟩ := ob_some hf
  obtain ⟨x1, h2, hf⟩ := ob_some hf
  refine gg_yVV (As := [.int l1]) hC hw (X12_checkColumn_M l hst E D A h2) h3 rfl g_ml_X12_116 hd_X12_checkColumn (Nat.le_of_ble_eq_true rfl) (Nat.le_of_ble_eq_true rfl) hl.1 rfl (Nat.le_of_ble_eq_true rfl) dX12_runCount_2 (fun k9 σ9 he => ?_) (fun σ4 he H locs cells slots hw => ?_)
  · subst he
    replace hf := gtry_inl.symm.trans hf
    cases hf
    exact (hT _ _ rfl).2.2 _ _ _
  · subst he
    replace hf := gtry_inr.symm.trans hf
    refine lv_aload_n hx hb dX12_runCount_5 rfl (lv_at hl 0 rfl) ?_
    obtain ⟨x6, h7, hf⟩ := ob_some hf
    refine rR_fl_X12_49 hC hw h7 dX12_runCount_6 ?_
    refine lv_aload_n hx hb dX12_runCount_9 rfl (lv_at hl 0 rfl) ?_
    obtain ⟨x8, h9, hf⟩ := ob_some hf
    refine rR_fl_X12_10 hC hw h9 dX12_runCount_10 ?_
    obtain ⟨_, h12, hf⟩ := ob_some hf
    obtain ⟨x10, h11, hf⟩ := ob_some hf
    refine gg_cVI (As := []) hC hw (X11_rows_M l E D A h11) h12 rfl g_ml_X12_108 hd_X11_rows (Nat.le_of_ble_eq_true rfl) (Nat.le_of_ble_eq_true rfl) hl.1 rfl (Nat.le_of_ble_eq_true rfl) dX12_runCount_13 (fun H locs cells slots hw => ?_)
    obtain ⟨_, h15, hf⟩ := ob_some hf
    obtain ⟨x13, h14, hf⟩ := ob_some hf
    refine gg_cVV (As := [.int x10]) hC hw (X10_reset_M l E D A h14) h15 rfl g_ml_X12_184 hd_X10_reset (Nat.le_of_ble_eq_true rfl) (Nat.le_of_ble_eq_true rfl) hl.1 rfl (Nat.le_of_ble_eq_true rfl) dX12_runCount_16 (fun H locs cells slots hw => ?_)
    refine lv_aload_n hx hb dX12_runCount_19 rfl (lv_at hl 0 rfl) ?_
    obtain ⟨x16, h17, hf⟩ := ob_some hf
    refine rR_fl_X12_10 hC hw h17 dX12_runCount_20 ?_
    refine lv_iload_n hx hb dX12_runCount_23 rfl (lv_at hl 1 rfl) ?_
    obtain ⟨_, h20, hf⟩ := ob_some hf
    obtain ⟨x18, h19, hf⟩ := ob_some hf
    refine gg_cVR (As := [.int l1]) hC hw (X11_column_M l E D A h19) h20 rfl g_ml_X12_122 hd_X11_column (Nat.le_of_ble_eq_true rfl) (Nat.le_of_ble_eq_true rfl) hl.1 rfl (Nat.le_of_ble_eq_true rfl) dX12_runCount_24 (fun H locs cells slots hw => ?_)
    refine lv_aload_n hx hb dX12_runCount_27 rfl (lv_at hl 0 rfl) ?_
    obtain ⟨x21, h22, hf⟩ := ob_some hf
    refine rR_fl_X12_49 hC hw h22 dX12_runCount_28 ?_
    obtain ⟨_, h25, hf⟩ := ob_some hf
    obtain ⟨x23, h24, hf⟩ := ob_some hf
    refine gg_cVI (As := [.ref x21]) hC hw (X1_runsIn_M l E D A h24) h25 rfl g_ml_X12_187 hd_X1_runsIn (Nat.le_of_ble_eq_true rfl) (Nat.le_of_ble_eq_true rfl) hl.1 rfl (Nat.le_of_ble_eq_true rfl) dX12_runCount_31 (fun H locs cells slots hw => ?_)
    cases hf
    exact hQ _ _ rfl _ _ _ _ _ _ dX12_runCount_34 rfl hw

def X12_runCount_f (E : gE) (l0 : Nat) (l1 : Int32) (σ : gS) : Option ((Nat ⊕ Int32) × gS) := X12_runCount E l0 l1 σ
set_option maxRecDepth 100000 in
theorem X12_runCount_M (l : Launch) (hst : l.stackTraces = false) (E : gE) (D : va_G) (A : Nat → Prop) {l0 : Nat} {l1 : Int32} {σ : gS} {res : ((Nat ⊕ Int32) × gS)} (hf : X12_runCount_f E l0 l1 σ = some res) : gYI l E D A yX12_runCount (Cond.code yX12_runCount cX12_runCount 2 (some FieldType.int)) 7 111 [.ref l0, .int l1] σ res := by
  refine gg_entYI (own := RX12) (nm := "runCount") (ty := FieldType.int) hst (Nat.le_of_ble_eq_true rfl) (Nat.le_of_ble_eq_true rfl) (by decide +kernel) rfl rfl (Nat.le_of_ble_eq_true rfl) rfl ?_
  intro p e R s m args below meth c Q ls hC hw hQ hT hl
  have hl : lv_has ls 2 [(0, .ref l0), (1, .int l1)] := hl
  exact X12_runCount_W hC hQ hT hst hf hw hl

def X12_longestRun (E : gE) (l0 : Nat) (l1 : Int32) (σ : gS) : Option ((Nat ⊕ Int32) × gS) :=
  ob (gcl σ l0 10) fun _ =>
  ob (X12_checkColumn_f E l0 l1 σ) fun x1 =>
  gtry x1 (fun k9 σ9 => some (Sum.inl k9, σ9)) (fun _ σ4 =>
    ob (gfR σ4 l0 10 0) fun x6 =>
    ob (gcl σ4 x6 9) fun _ =>
    ob (X11_column_f E σ4 x6 l1) fun x8 =>
    ob (gcl σ4 x8 0) fun _ =>
    ob (X1_greatestRun_f E σ4 x8) fun x11 =>
    some (Sum.inr x11, σ4))
set_option maxHeartbeats 4000000 in
set_option maxRecDepth 100000 in
theorem X12_longestRun_W {σ : gS} {l0 : Nat} {l1 : Int32} {res : ((Nat ⊕ Int32) × gS)} {ls : Array Slot} (hC : gC E D A p R s m args meth c cX12_longestRun 2 RX12 "longestRun" 7 111) (hQ : ∀ (r : Int32) (σ1 : gS), res = (.inr r, σ1) → gQI E D A p l e R s m args below meth c Q cX12_longestRun FieldType.int (r, σ1)) (hT : ∀ (k : Nat) (σ1 : gS), res = (.inl k, σ1) → gTN E D A p l e R s m args below meth c Q cX12_longestRun 2 RX12 k σ1) (hst : l.stackTraces = false) (hf : X12_longestRun E l0 l1 σ = some res) (hw : gW E D A s σ H locs) (hl : lv_has ls 2 [(0, .ref l0), (1, .int l1)]) : W p l e R s m args below meth c H locs cells slots Q (F0 m 0 ls []) := by
  have hC0 := hC
  obtain ⟨hx, hb, hml, hown, hts, -⟩ := hC0
  unfold X12_longestRun at hf
  refine lv_aload_n hx hb dX12_longestRun_0 rfl (lv_at hl 0 rfl) ?_
  refine lv_iload_n hx hb dX12_longestRun_1 rfl (lv_at hl 1 rfl) ?_
  obtain ⟨_, h3, hf⟩ := ob_some hf
  obtain ⟨x1, h2, hf⟩ := ob_some hf
  refine gg_yVV (As := [.int l1]) hC hw (X12_checkColumn_M l hst E D A h2) h3 rfl g_ml_X12_116 hd_X12_checkColumn (Nat.le_of_ble_eq_true rfl) (Nat.le_of_ble_eq_true rfl) hl.1 rfl (Nat.le_of_ble_eq_true rfl) dX12_longestRun_2 (fun k9 σ9 he => ?_) (fun σ4 he H locs cells slots hw => ?_)
  · subst he
    replace hf := gtry_inl.symm.trans hf
    cases hf
    exact (hT _ _ rfl).2.2 _ _ _
  · subst he
    replace hf := gtry_inr.symm.trans hf
    refine lv_aload_n hx hb dX12_longestRun_5 rfl (lv_at hl 0 rfl) ?_
    obtain ⟨x6, h7, hf⟩ := ob_some hf
    refine rR_fl_X12_10 hC hw h7 dX12_longestRun_6 ?_
    refine lv_iload_n hx hb dX12_longestRun_9 rfl (lv_at hl 1 rfl) ?_
    obtain ⟨_, h10, hf⟩ := ob_some hf
    obtain ⟨x8, h9, hf⟩ := ob_some hf
    refine gg_cVR (As := [.int l1]) hC hw (X11_column_M l E D A h9) h10 rfl g_ml_X12_122 hd_X11_column (Nat.le_of_ble_eq_true rfl) (Nat.le_of_ble_eq_true rfl) hl.1 rfl (Nat.le_of_ble_eq_true rfl) dX12_longestRun_10 (fun H locs cells slots hw => ?_)
    obtain ⟨_, h13, hf⟩ := ob_some hf
    obtain ⟨x11, h12, hf⟩ := ob_some hf
    refine gg_cVI (As := []) hC hw (X1_greatestRun_M l E D A h12) h13 rfl g_ml_X12_191 hd_X1_greatestRun (Nat.le_of_ble_eq_true rfl) (Nat.le_of_ble_eq_true rfl) hl.1 rfl (Nat.le_of_ble_eq_true rfl) dX12_longestRun_13 (fun H locs cells slots hw => ?_)
    cases hf
    exact hQ _ _ rfl _ _ _ _ _ _ dX12_longestRun_16 rfl hw

def X12_longestRun_f (E : gE) (l0 : Nat) (l1 : Int32) (σ : gS) : Option ((Nat ⊕ Int32) × gS) := X12_longestRun E l0 l1 σ
set_option maxRecDepth 100000 in
theorem X12_longestRun_M (l : Launch) (hst : l.stackTraces = false) (E : gE) (D : va_G) (A : Nat → Prop) {l0 : Nat} {l1 : Int32} {σ : gS} {res : ((Nat ⊕ Int32) × gS)} (hf : X12_longestRun_f E l0 l1 σ = some res) : gYI l E D A yX12_longestRun (Cond.code yX12_longestRun cX12_longestRun 2 (some FieldType.int)) 7 111 [.ref l0, .int l1] σ res := by
  refine gg_entYI (own := RX12) (nm := "longestRun") (ty := FieldType.int) hst (Nat.le_of_ble_eq_true rfl) (Nat.le_of_ble_eq_true rfl) (by decide +kernel) rfl rfl (Nat.le_of_ble_eq_true rfl) rfl ?_
  intro p e R s m args below meth c Q ls hC hw hQ hT hl
  have hl : lv_has ls 2 [(0, .ref l0), (1, .int l1)] := hl
  exact X12_longestRun_W hC hQ hT hst hf hw hl

def X12_isSorted (E : gE) (l0 : Nat) (l1 : Int32) (σ : gS) : Option ((Nat ⊕ Int32) × gS) :=
  ob (gcl σ l0 10) fun _ =>
  ob (X12_checkColumn_f E l0 l1 σ) fun x1 =>
  gtry x1 (fun k9 σ9 => some (Sum.inl k9, σ9)) (fun _ σ4 =>
    ob (gfR σ4 l0 10 0) fun x6 =>
    ob (gcl σ4 x6 9) fun _ =>
    ob (X11_column_f E σ4 x6 l1) fun x8 =>
    ob (gcl σ4 x8 0) fun _ =>
    ob (X1_isAscending_f E σ4 x8) fun x11 =>
    ob (gz x11) fun _ =>
    some (Sum.inr x11, σ4))
set_option maxHeartbeats 4000000 in
set_option maxRecDepth 100000 in
theorem X12_isSorted_W {σ : gS} {l0 : Nat} {l1 : Int32} {res : ((Nat ⊕ Int32) × gS)} {ls : Array Slot} (hC : gC E D A p R s m args meth c cX12_isSorted 2 RX12 "isSorted" 7 111) (hQ : ∀ (r : Int32) (σ1 : gS), res = (.inr r, σ1) → gQI E D A p l e R s m args below meth c Q cX12_isSorted FieldType.boolean (r, σ1)) (hT : ∀ (k : Nat) (σ1 : gS), res = (.inl k, σ1) → gTN E D A p l e R s m args below meth c Q cX12_isSorted 2 RX12 k σ1) (hst : l.stackTraces = false) (hf : X12_isSorted E l0 l1 σ = some res) (hw : gW E D A s σ H locs) (hl : lv_has ls 2 [(0, .ref l0), (1, .int l1)]) : W p l e R s m args below meth c H locs cells slots Q (F0 m 0 ls []) := by
  have hC0 := hC
  obtain ⟨hx, hb, hml, hown, hts, -⟩ := hC0
  unfold X12_isSorted at hf
  refine lv_aload_n hx hb dX12_isSorted_0 rfl (lv_at hl 0 rfl) ?_
  refine lv_iload_n hx hb dX12_isSorted_1 rfl (lv_at hl 1 rfl) ?_
  obtain ⟨_, h3, hf⟩ := ob_some hf
  obtain ⟨x1, h2, hf⟩ := ob_some hf
  refine gg_yVV (As := [.int l1]) hC hw (X12_checkColumn_M l hst E D A h2) h3 rfl g_ml_X12_116 hd_X12_checkColumn (Nat.le_of_ble_eq_true rfl) (Nat.le_of_ble_eq_true rfl) hl.1 rfl (Nat.le_of_ble_eq_true rfl) dX12_isSorted_2 (fun k9 σ9 he => ?_) (fun σ4 he H locs cells slots hw => ?_)
  · subst he
    replace hf := gtry_inl.symm.trans hf
    cases hf
    exact (hT _ _ rfl).2.2 _ _ _
  · subst he
    replace hf := gtry_inr.symm.trans hf
    refine lv_aload_n hx hb dX12_isSorted_5 rfl (lv_at hl 0 rfl) ?_
    obtain ⟨x6, h7, hf⟩ := ob_some hf
    refine rR_fl_X12_10 hC hw h7 dX12_isSorted_6 ?_
    refine lv_iload_n hx hb dX12_isSorted_9 rfl (lv_at hl 1 rfl) ?_
    obtain ⟨_, h10, hf⟩ := ob_some hf
    obtain ⟨x8, h9, hf⟩ := ob_some hf
    refine gg_cVR (As := [.int l1]) hC hw (X11_column_M l E D A h9) h10 rfl g_ml_X12_122 hd_X11_column (Nat.le_of_ble_eq_true rfl) (Nat.le_of_ble_eq_true rfl) hl.1 rfl (Nat.le_of_ble_eq_true rfl) dX12_isSorted_10 (fun H locs cells slots hw => ?_)
    obtain ⟨_, h13, hf⟩ := ob_some hf
    obtain ⟨x11, h12, hf⟩ := ob_some hf
    refine gg_cVI (As := []) hC hw (X1_isAscending_M l E D A h12) h13 rfl g_ml_X12_194 hd_X1_isAscending (Nat.le_of_ble_eq_true rfl) (Nat.le_of_ble_eq_true rfl) hl.1 rfl (Nat.le_of_ble_eq_true rfl) dX12_isSorted_13 (fun H locs cells slots hw => ?_)
    obtain ⟨_, h14, hf⟩ := ob_some hf
    cases hf
    exact hQ _ _ rfl _ _ _ _ _ _ dX12_isSorted_16 (gz_some h14) hw

def X12_isSorted_f (E : gE) (l0 : Nat) (l1 : Int32) (σ : gS) : Option ((Nat ⊕ Int32) × gS) := X12_isSorted E l0 l1 σ
set_option maxRecDepth 100000 in
theorem X12_isSorted_M (l : Launch) (hst : l.stackTraces = false) (E : gE) (D : va_G) (A : Nat → Prop) {l0 : Nat} {l1 : Int32} {σ : gS} {res : ((Nat ⊕ Int32) × gS)} (hf : X12_isSorted_f E l0 l1 σ = some res) : gYI l E D A yX12_isSorted (Cond.code yX12_isSorted cX12_isSorted 2 (some FieldType.boolean)) 7 111 [.ref l0, .int l1] σ res := by
  refine gg_entYI (own := RX12) (nm := "isSorted") (ty := FieldType.boolean) hst (Nat.le_of_ble_eq_true rfl) (Nat.le_of_ble_eq_true rfl) (by decide +kernel) rfl rfl (Nat.le_of_ble_eq_true rfl) rfl ?_
  intro p e R s m args below meth c Q ls hC hw hQ hT hl
  have hl : lv_has ls 2 [(0, .ref l0), (1, .int l1)] := hl
  exact X12_isSorted_W hC hQ hT hst hf hw hl

def X12_conditionColumn (E : gE) (l0 : Nat) (l1 : Int32) (σ : gS) : Option ((Nat ⊕ Int32) × gS) :=
  ob (gcl σ l0 10) fun _ =>
  ob (X12_checkCondition_f E l0 l1 σ) fun x1 =>
  gtry x1 (fun k9 σ9 => some (Sum.inl k9, σ9)) (fun _ σ4 =>
    ob (gfR σ4 l0 10 0) fun x6 =>
    ob (gcl σ4 x6 9) fun _ =>
    ob (X11_filter_f E σ4 x6) fun x8 =>
    ob (gcl σ4 x8 3) fun _ =>
    ob (X4_columnOf_f E σ4 x8 l1) fun x11 =>
    some (Sum.inr x11, σ4))
set_option maxHeartbeats 4000000 in
set_option maxRecDepth 100000 in
theorem X12_conditionColumn_W {σ : gS} {l0 : Nat} {l1 : Int32} {res : ((Nat ⊕ Int32) × gS)} {ls : Array Slot} (hC : gC E D A p R s m args meth c cX12_conditionColumn 2 RX12 "conditionColumn" 7 111) (hQ : ∀ (r : Int32) (σ1 : gS), res = (.inr r, σ1) → gQI E D A p l e R s m args below meth c Q cX12_conditionColumn FieldType.int (r, σ1)) (hT : ∀ (k : Nat) (σ1 : gS), res = (.inl k, σ1) → gTN E D A p l e R s m args below meth c Q cX12_conditionColumn 2 RX12 k σ1) (hst : l.stackTraces = false) (hf : X12_conditionColumn E l0 l1 σ = some res) (hw : gW E D A s σ H locs) (hl : lv_has ls 2 [(0, .ref l0), (1, .int l1)]) : W p l e R s m args below meth c H locs cells slots Q (F0 m 0 ls []) := by
  have hC0 := hC
  obtain ⟨hx, hb, hml, hown, hts, -⟩ := hC0
  unfold X12_conditionColumn at hf
  refine lv_aload_n hx hb dX12_conditionColumn_0 rfl (lv_at hl 0 rfl) ?_
  refine lv_iload_n hx hb dX12_conditionColumn_1 rfl (lv_at hl 1 rfl) ?_
  obtain ⟨_, h3, hf⟩ := ob_some hf
  obtain ⟨x1, h2, hf⟩ := ob_some hf
  refine gg_yVV (As := [.int l1]) hC hw (X12_checkCondition_M l hst E D A h2) h3 rfl g_ml_X12_205 hd_X12_checkCondition (Nat.le_of_ble_eq_true rfl) (Nat.le_of_ble_eq_true rfl) hl.1 rfl (Nat.le_of_ble_eq_true rfl) dX12_conditionColumn_2 (fun k9 σ9 he => ?_) (fun σ4 he H locs cells slots hw => ?_)
  · subst he
    replace hf := gtry_inl.symm.trans hf
    cases hf
    exact (hT _ _ rfl).2.2 _ _ _
  · subst he
    replace hf := gtry_inr.symm.trans hf
    refine lv_aload_n hx hb dX12_conditionColumn_5 rfl (lv_at hl 0 rfl) ?_
    obtain ⟨x6, h7, hf⟩ := ob_some hf
    refine rR_fl_X12_10 hC hw h7 dX12_conditionColumn_6 ?_
    obtain ⟨_, h10, hf⟩ := ob_some hf
    obtain ⟨x8, h9, hf⟩ := ob_some hf
    refine gg_cVR (As := []) hC hw (X11_filter_M l E D A h9) h10 rfl g_ml_X12_198 hd_X11_filter (Nat.le_of_ble_eq_true rfl) (Nat.le_of_ble_eq_true rfl) hl.1 rfl (Nat.le_of_ble_eq_true rfl) dX12_conditionColumn_9 (fun H locs cells slots hw => ?_)
    refine lv_iload_n hx hb dX12_conditionColumn_12 rfl (lv_at hl 1 rfl) ?_
    obtain ⟨_, h13, hf⟩ := ob_some hf
    obtain ⟨x11, h12, hf⟩ := ob_some hf
    refine gg_cVI (As := [.int l1]) hC hw (X4_columnOf_M l E D A h12) h13 rfl g_ml_X12_208 hd_X4_columnOf (Nat.le_of_ble_eq_true rfl) (Nat.le_of_ble_eq_true rfl) hl.1 rfl (Nat.le_of_ble_eq_true rfl) dX12_conditionColumn_13 (fun H locs cells slots hw => ?_)
    cases hf
    exact hQ _ _ rfl _ _ _ _ _ _ dX12_conditionColumn_16 rfl hw

def X12_conditionColumn_f (E : gE) (l0 : Nat) (l1 : Int32) (σ : gS) : Option ((Nat ⊕ Int32) × gS) := X12_conditionColumn E l0 l1 σ
set_option maxRecDepth 100000 in
theorem X12_conditionColumn_M (l : Launch) (hst : l.stackTraces = false) (E : gE) (D : va_G) (A : Nat → Prop) {l0 : Nat} {l1 : Int32} {σ : gS} {res : ((Nat ⊕ Int32) × gS)} (hf : X12_conditionColumn_f E l0 l1 σ = some res) : gYI l E D A yX12_conditionColumn (Cond.code yX12_conditionColumn cX12_conditionColumn 2 (some FieldType.int)) 7 111 [.ref l0, .int l1] σ res := by
  refine gg_entYI (own := RX12) (nm := "conditionColumn") (ty := FieldType.int) hst (Nat.le_of_ble_eq_true rfl) (Nat.le_of_ble_eq_true rfl) (by decide +kernel) rfl rfl (Nat.le_of_ble_eq_true rfl) rfl ?_
  intro p e R s m args below meth c Q ls hC hw hQ hT hl
  have hl : lv_has ls 2 [(0, .ref l0), (1, .int l1)] := hl
  exact X12_conditionColumn_W hC hQ hT hst hf hw hl

def X12_conditionValue (E : gE) (l0 : Nat) (l1 : Int32) (σ : gS) : Option ((Nat ⊕ Int32) × gS) :=
  ob (gcl σ l0 10) fun _ =>
  ob (X12_checkCondition_f E l0 l1 σ) fun x1 =>
  gtry x1 (fun k9 σ9 => some (Sum.inl k9, σ9)) (fun _ σ4 =>
    ob (gfR σ4 l0 10 0) fun x6 =>
    ob (gcl σ4 x6 9) fun _ =>
    ob (X11_filter_f E σ4 x6) fun x8 =>
    ob (gcl σ4 x8 3) fun _ =>
    ob (X4_valueOf_f E σ4 x8 l1) fun x11 =>
    some (Sum.inr x11, σ4))
set_option maxHeartbeats 4000000 in
set_option maxRecDepth 100000 in
theorem X12_conditionValue_W {σ : gS} {l0 : Nat} {l1 : Int32} {res : ((Nat ⊕ Int32) × gS)} {ls : Array Slot} (hC : gC E D A p R s m args meth c cX12_conditionValue 2 RX12 "conditionValue" 7 111) (hQ : ∀ (r : Int32) (σ1 : gS), res = (.inr r, σ1) → gQI E D A p l e R s m args below meth c Q cX12_conditionValue FieldType.int (r, σ1)) (hT : ∀ (k : Nat) (σ1 : gS), res = (.inl k, σ1) → gTN E D A p l e R s m args below meth c Q cX12_conditionValue 2 RX12 k σ1) (hst : l.stackTraces = false) (hf : X12_conditionValue E l0 l1 σ = some res) (hw : gW E D A s σ H locs) (hl : lv_has ls 2 [(0, .ref l0), (1, .int l1)]) : W p l e R s m args below meth c H locs cells slots Q (F0 m 0 ls []) := by
  have hC0 := hC
  obtain ⟨hx, hb, hml, hown, hts, -⟩ := hC0
  unfold X12_conditionValue at hf
  refine lv_aload_n hx hb dX12_conditionValue_0 rfl (lv_at hl 0 rfl) ?_
  refine lv_iload_n hx hb dX12_conditionValue_1 rfl (lv_at hl 1 rfl) ?_
  obtain ⟨_, h3, hf⟩ := ob_some hf
  obtain ⟨x1, h2, hf⟩ := ob_some hf
  refine gg_yVV (As := [.int l1]) hC hw (X12_checkCondition_M l hst E D A h2) h3 rfl g_ml_X12_205 hd_X12_checkCondition (Nat.le_of_ble_eq_true rfl) (Nat.le_of_ble_eq_true rfl) hl.1 rfl (Nat.le_of_ble_eq_true rfl) dX12_conditionValue_2 (fun k9 σ9 he => ?_) (fun σ4 he H locs cells slots hw => ?_)
  · subst he
    replace hf := gtry_inl.symm.trans hf
    cases hf
    exact (hT _ _ rfl).2.2 _ _ _
  · subst he
    replace hf := gtry_inr.symm.trans hf
    refine lv_aload_n hx hb dX12_conditionValue_5 rfl (lv_at hl 0 rfl) ?_
    obtain ⟨x6, h7, hf⟩ := ob_some hf
    refine rR_fl_X12_10 hC hw h7 dX12_conditionValue_6 ?_
    obtain ⟨_, h10, hf⟩ := ob_some hf
    obtain ⟨x8, h9, hf⟩ := ob_some hf
    refine gg_cVR (As := []) hC hw (X11_filter_M l E D A h9) h10 rfl g_ml_X12_198 hd_X11_filter (Nat.le_of_ble_eq_true rfl) (Nat.le_of_ble_eq_true rfl) hl.1 rfl (Nat.le_of_ble_eq_true rfl) dX12_conditionValue_9 (fun H locs cells slots hw => ?_)
    refine lv_iload_n hx hb dX12_conditionValue_12 rfl (lv_at hl 1 rfl) ?_
    obtain ⟨_, h13, hf⟩ := ob_some hf
    obtain ⟨x11, h12, hf⟩ := ob_some hf
    refine gg_cVI (As := [.int l1]) hC hw (X4_valueOf_M l E D A h12) h13 rfl g_ml_X12_211 hd_X4_valueOf (Nat.le_of_ble_eq_true rfl) (Nat.le_of_ble_eq_true rfl) hl.1 rfl (Nat.le_of_ble_eq_true rfl) dX12_conditionValue_13 (fun H locs cells slots hw => ?_)
    cases hf
    exact hQ _ _ rfl _ _ _ _ _ _ dX12_conditionValue_16 rfl hw

def X12_conditionValue_f (E : gE) (l0 : Nat) (l1 : Int32) (σ : gS) : Option ((Nat ⊕ Int32) × gS) := X12_conditionValue E l0 l1 σ
set_option maxRecDepth 100000 in
theorem X12_conditionValue_M (l : Launch) (hst : l.stackTraces = false) (E : gE) (D : va_G) (A : Nat → Prop) {l0 : Nat} {l1 : Int32} {σ : gS} {res : ((Nat ⊕ Int32) × gS)} (hf : X12_conditionValue_f E l0 l1 σ = some res) : gYI l E D A yX12_conditionValue (Cond.code yX12_conditionValue cX12_conditionValue 2 (some FieldType.int)) 7 111 [.ref l0, .int l1] σ res := by
  refine gg_entYI (own := RX12) (nm := "conditionValue") (ty := FieldType.int) hst (Nat.le_of_ble_eq_true rfl) (Nat.le_of_ble_eq_true rfl) (by decide +kernel) rfl rfl (Nat.le_of_ble_eq_true rfl) rfl ?_
  intro p e R s m args below meth c Q ls hC hw hQ hT hl
  have hl : lv_has ls 2 [(0, .ref l0), (1, .int l1)] := hl
  exact X12_conditionValue_W hC hQ hT hst hf hw hl

def X12_conditionDirection (E : gE) (l0 : Nat) (l1 : Int32) (σ : gS) : Option ((Nat ⊕ Int32) × gS) :=
  ob (gcl σ l0 10) fun _ =>
  ob (X12_checkCondition_f E l0 l1 σ) fun x1 =>
  gtry x1 (fun k9 σ9 => some (Sum.inl k9, σ9)) (fun _ σ4 =>
    ob (gfR σ4 l0 10 0) fun x6 =>
    ob (gcl σ4 x6 9) fun _ =>
    ob (X11_filter_f E σ4 x6) fun x8 =>
    ob (gcl σ4 x8 3) fun _ =>
    ob (X4_directionOf_f E σ4 x8 l1) fun x11 =>
    some (Sum.inr x11, σ4))
set_option maxHeartbeats 4000000 in
set_option maxRecDepth 100000 in
theorem X12_conditionDirection_W {σ : gS} {l0 : Nat} {l1 : Int32} {res : ((Nat ⊕ Int32) × gS)} {ls : Array Slot} (hC : gC E D A p R s m args meth c cX12_conditionDirection 2 RX12 "conditionDirection" 7 111) (hQ : ∀ (r : Int32) (σ1 : gS), res = (.inr r, σ1) → gQI E D A p l e R s m args below meth c Q cX12_conditionDirection FieldType.int (r, σ1)) (hT : ∀ (k : Nat) (σ1 : gS), res = (.inl k, σ1) → gTN E D A p l e R s m args below meth c Q cX12_conditionDirection 2 RX12 k σ1) (hst : l.stackTraces = false) (hf : X12_conditionDirection E l0 l1 σ = some res) (hw : gW E D A s σ H locs) (hl : lv_has ls 2 [(0, .ref l0), (1, .int l1)]) : W p l e R s m args below meth c H locs cells slots Q (F0 m 0 ls []) := by
  have hC0 := hC
  obtain ⟨hx, hb, hml, hown, hts, -⟩ := hC0
  unfold X12_conditionDirection at hf
  refine lv_aload_n hx hb dX12_conditionDirection_0 rfl (lv_at hl 0 rfl) ?_
  refine lv_iload_n hx hb dX12_conditionDirection_1 rfl (lv_at hl 1 rfl) ?_
  obtain ⟨_, h3, hf⟩ := ob_some hf
  obtain ⟨x1, h2, hf⟩ := ob_some hf
  refine gg_yVV (As := [.int l1]) hC hw (X12_checkCondition_M l hst E D A h2) h3 rfl g_ml_X12_205 hd_X12_checkCondition (Nat.le_of_ble_eq_true rfl) (Nat.le_of_ble_eq_true rfl) hl.1 rfl (Nat.le_of_ble_eq_true rfl) dX12_conditionDirection_2 (fun k9 σ9 he => ?_) (fun σ4 he H locs cells slots hw => ?_)
  · subst he
    replace hf := gtry_inl.symm.trans hf
    cases hf
    exact (hT _ _ rfl).2.2 _ _ _
  · subst he
    replace hf := gtry_inr.symm.trans hf
    refine lv_aload_n hx hb dX12_conditionDirection_5 rfl (lv_at hl 0 rfl) ?_
    obtain ⟨x6, h7, hf⟩ := ob_some hf
    refine rR_fl_X12_10 hC hw h7 dX12_conditionDirection_6 ?_
    obtain ⟨_, h10, hf⟩ := ob_some hf
    obtain ⟨x8, h9, hf⟩ := ob_some hf
    refine gg_cVR (As := []) hC hw (X11_filter_M l E D A h9) h10 rfl g_ml_X12_198 hd_X11_filter (Nat.le_of_ble_eq_true rfl) (Nat.le_of_ble_eq_true rfl) hl.1 rfl (Nat.le_of_ble_eq_true rfl) dX12_conditionDirection_9 (fun H locs cells slots hw => ?_)
    refine lv_iload_n hx hb dX12_conditionDirection_12 rfl (lv_at hl 1 rfl) ?_
    obtain ⟨_, h13, hf⟩ := ob_some hf
    obtain ⟨x11, h12, hf⟩ := ob_some hf
    refine gg_cVI (As := [.int l1]) hC hw (X4_directionOf_M l E D A h12) h13 rfl g_ml_X12_214 hd_X4_directionOf (Nat.le_of_ble_eq_true rfl) (Nat.le_of_ble_eq_true rfl) hl.1 rfl (Nat.le_of_ble_eq_true rfl) dX12_conditionDirection_13 (fun H locs cells slots hw => ?_)
    cases hf
    exact hQ _ _ rfl _ _ _ _ _ _ dX12_conditionDirection_16 rfl hw

def X12_conditionDirection_f (E : gE) (l0 : Nat) (l1 : Int32) (σ : gS) : Option ((Nat ⊕ Int32) × gS) := X12_conditionDirection E l0 l1 σ
set_option maxRecDepth 100000 in
theorem X12_conditionDirection_M (l : Launch) (hst : l.stackTraces = false) (E : gE) (D : va_G) (A : Nat → Prop) {l0 : Nat} {l1 : Int32} {σ : gS} {res : ((Nat ⊕ Int32) × gS)} (hf : X12_conditionDirection_f E l0 l1 σ = some res) : gYI l E D A yX12_conditionDirection (Cond.code yX12_conditionDirection cX12_conditionDirection 2 (some FieldType.int)) 7 111 [.ref l0, .int l1] σ res := by
  refine gg_entYI (own := RX12) (nm := "conditionDirection") (ty := FieldType.int) hst (Nat.le_of_ble_eq_true rfl) (Nat.le_of_ble_eq_true rfl) (by decide +kernel) rfl rfl (Nat.le_of_ble_eq_true rfl) rfl ?_
  intro p e R s m args below meth c Q ls hC hw hQ hT hl
  have hl : lv_has ls 2 [(0, .ref l0), (1, .int l1)] := hl
  exact X12_conditionDirection_W hC hQ hT hst hf hw hl

def X12_lowerCode (E : gE) (l0 : Nat) (l1 : Int32) (σ : gS) : Option ((Nat ⊕ Int32) × gS) :=
  ob (gcl σ l0 10) fun _ =>
  ob (X12_checkCondition_f E l0 l1 σ) fun x1 =>
  gtry x1 (fun k9 σ9 => some (Sum.inl k9, σ9)) (fun _ σ4 =>
    ob (gfR σ4 l0 10 0) fun x6 =>
    ob (gcl σ4 x6 9) fun _ =>
    ob (X11_lowerEnd_f E σ4 x6 l1) fun x8 =>
    some (Sum.inr x8, σ4))
set_option maxHeartbeats 4000000 in
set_option maxRecDepth 100000 in
theorem X12_lowerCode_W {σ : gS} {l0 : Nat} {l1 : Int32} {res : ((Nat ⊕ Int32) × gS)} {ls : Array Slot} (hC : gC E D A p R s m args meth c cX12_lowerCode 2 RX12 "lowerCode" 7 111) (hQ : ∀ (r : Int32) (σ1 : gS), res = (.inr r, σ1) → gQI E D A p l e R s m args below meth c Q cX12_lowerCode FieldType.int (r, σ1)) (hT : ∀ (k : Nat) (σ1 : gS), res = (.inl k, σ1) → gTN E D A p l e R s m args below meth c Q cX12_lowerCode 2 RX12 k σ1) (hst : l.stackTraces = false) (hf : X12_lowerCode E l0 l1 σ = some res) (hw : gW E D A s σ H locs) (hl : lv_has ls 2 [(0, .ref l0), (1, .int l1)]) : W p l e R s m args below meth c H locs cells slots Q (F0 m 0 ls []) := by
  have hC0 := hC
  obtain ⟨hx, hb, hml, hown, hts, -⟩ := hC0
  unfold X12_lowerCode at hf
  refine lv_aload_n hx hb dX12_lowerCode_0 rfl (lv_at hl 0 rfl) ?_
  refine lv_iload_n hx hb dX12_lowerCode_1 rfl (lv_at hl 1 rfl) ?_
  obtain ⟨_, h3, hf⟩ := ob_some hf
  obtain ⟨x1, h2, hf⟩ := ob_some hf
  refine gg_yVV (As := [.int l1]) hC hw (X12_checkCondition_M l hst E D A h2) h3 rfl g_ml_X12_205 hd_X12_checkCondition (Nat.le_of_ble_eq_true rfl) (Nat.le_of_ble_eq_true rfl) hl.1 rfl (Nat.le_of_ble_eq_true rfl) dX12_lowerCode_2 (fun k9 σ9 he => ?_) (fun σ4 he H locs cells slots hw => ?_)
  · subst he
    replace hf := gtry_inl.symm.trans hf
    cases hf
    exact (hT _ _ rfl).2.2 _ _ _
  · subst he
    replace hf := gtry_inr.symm.trans hf
    refine lv_aload_n hx hb dX12_lowerCode_5 rfl (lv_at hl 0 rfl) ?_
    obtain ⟨x6, h7, hf⟩ := ob_some hf
    refine rR_fl_X12_10 hC hw h7 dX12_lowerCode_6 ?_
    refine lv_iload_n hx hb dX12_lowerCode_9 rfl (lv_at hl 1 rfl) ?_
    obtain ⟨_, h10, hf⟩ := ob_some hf
    obtain ⟨x8, h9, hf⟩ := ob_some hf
    refine gg_cVI (As := [.int l1]) hC hw (X11_lowerEnd_M l E D A h9) h10 rfl g_ml_X12_217 hd_X11_lowerEnd (Nat.le_of_ble_eq_true rfl) (Nat.le_of_ble_eq_true rfl) hl.1 rfl (Nat.le_of_ble_eq_true rfl) dX12_lowerCode_10 (fun H locs cells slots hw => ?_)
    cases hf
    exact hQ _ _ rfl _ _ _ _ _ _ dX12_lowerCode_13 rfl hw

def X12_lowerCode_f (E : gE) (l0 : Nat) (l1 : Int32) (σ : gS) : Option ((Nat ⊕ Int32) × gS) := X12_lowerCode E l0 l1 σ
set_option maxRecDepth 100000 in
theorem X12_lowerCode_M (l : Launch) (hst : l.stackTraces = false) (E : gE) (D : va_G) (A : Nat → Prop) {l0 : Nat} {l1 : Int32} {σ : gS} {res : ((Nat ⊕ Int32) × gS)} (hf : X12_lowerCode_f E l0 l1 σ = some res) : gYI l E D A yX12_lowerCode (Cond.code yX12_lowerCode cX12_lowerCode 2 (some FieldType.int)) 7 111 [.ref l0, .int l1] σ res := by
  refine gg_entYI (own := RX12) (nm := "lowerCode") (ty := FieldType.int) hst (Nat.le_of_ble_eq_true rfl) (Nat.le_of_ble_eq_true rfl) (by decide +kernel) rfl rfl (Nat.le_of_ble_eq_true rfl) rfl ?_
  intro p e R s m args below meth c Q ls hC hw hQ hT hl
  have hl : lv_has ls 2 [(0, .ref l0), (1, .int l1)] := hl
  exact X12_lowerCode_W hC hQ hT hst hf hw hl

def X12_upperCode (E : gE) (l0 : Nat) (l1 : Int32) (σ : gS) : Option ((Nat ⊕ Int32) × gS) :=
  ob (gcl σ l0 10) fun _ =>
  ob (X12_checkCondition_f E l0 l1 σ) fun x1 =>
  gtry x1 (fun k9 σ9 => some (Sum.inl k9, σ9)) (fun _ σ4 =>
    ob (gfR σ4 l0 10 0) fun x6 =>
    ob (gcl σ4 x6 9) fun _ =>
    ob (X11_upperEnd_f E σ4 x6 l1) fun x8 =>
    some (Sum.inr x8, σ4))
set_option maxHeartbeats 4000000 in
set_option maxRecDepth 100000 in
theorem X12_upperCode_W {σ : gS} {l0 : Nat} {l1 : Int32} {res : ((Nat ⊕ Int32) × gS)} {ls : Array Slot} (hC : gC E D A p R s m args meth c cX12_upperCode 2 RX12 "upperCode" 7 111) (hQ : ∀ (r : Int32) (σ1 : gS), res = (.inr r, σ1) → gQI E D A p l e R s m args below meth c Q cX12_upperCode FieldType.int (r, σ1)) (hT : ∀ (k : Nat) (σ1 : gS), res = (.inl k, σ1) → gTN E D A p l e R s m args below meth c Q cX12_upperCode 2 RX12 k σ1) (hst : l.stackTraces = false) (hf : X12_upperCode E l0 l1 σ = some res) (hw : gW E D A s σ H locs) (hl : lv_has ls 2 [(0, .ref l0), (1, .int l1)]) : W p l e R s m args below meth c H locs cells slots Q (F0 m 0 ls []) := by
  have hC0 := hC
  obtain ⟨hx, hb, hml, hown, hts, -⟩ := hC0
  unfold X12_upperCode at hf
  refine lv_aload_n hx hb dX12_upperCode_0 rfl (lv_at hl 0 rfl) ?_
  refine lv_iload_n hx hb dX12_upperCode_1 rfl (lv_at hl 1 rfl) ?_
  obtain ⟨_, h3, hf⟩ := ob_some hf
  obtain ⟨x1, h2, hf⟩ := ob_some hf
  refine gg_yVV (As := [.int l1]) hC hw (X12_checkCondition_M l hst E D A h2) h3 rfl g_ml_X12_205 hd_X12_checkCondition (Nat.le_of_ble_eq_true rfl) (Nat.le_of_ble_eq_true rfl) hl.1 rfl (Nat.le_of_ble_eq_true rfl) dX12_upperCode_2 (fun k9 σ9 he => ?_) (fun σ4 he H locs cells slots hw => ?_)
  · subst he
    replace hf := gtry_inl.symm.trans hf
    cases hf
    exact (hT _ _ rfl).2.2 _ _ _
  · subst he
    replace hf := gtry_inr.symm.trans hf
    refine lv_aload_n hx hb dX12_upperCode_5 rfl (lv_at hl 0 rfl) ?_
    obtain ⟨x6, h7, hf⟩ := ob_some hf
    refine rR_fl_X12_10 hC hw h7 dX12_upperCode_6 ?_
    refine lv_iload_n hx hb dX12_upperCode_9 rfl (lv_at hl 1 rfl) ?_
    obtain ⟨_, h10, hf⟩ := ob_some hf
    obtain ⟨x8, h9, hf⟩ := ob_some hf
    refine gg_cVI (As := [.int l1]) hC hw (X11_upperEnd_M l E D A h9) h10 rfl g_ml_X12_220 hd_X11_upperEnd (Nat.le_of_ble_eq_true rfl) (Nat.le_of_ble_eq_true rfl) hl.1 rfl (Nat.le_of_ble_eq_true rfl) dX12_upperCode_10 (fun H locs cells slots hw => ?_)
    cases hf
    exact hQ _ _ rfl _ _ _ _ _ _ dX12_upperCode_13 rfl hw

def X12_upperCode_f (E : gE) (l0 : Nat) (l1 : Int32) (σ : gS) : Option ((Nat ⊕ Int32) × gS) := X12_upperCode E l0 l1 σ
set_option maxRecDepth 100000 in
theorem X12_upperCode_M (l : Launch) (hst : l.stackTraces = false) (E : gE) (D : va_G) (A : Nat → Prop) {l0 : Nat} {l1 : Int32} {σ : gS} {res : ((Nat ⊕ Int32) × gS)} (hf : X12_upperCode_f E l0 l1 σ = some res) : gYI l E D A yX12_upperCode (Cond.code yX12_upperCode cX12_upperCode 2 (some FieldType.int)) 7 111 [.ref l0, .int l1] σ res := by
  refine gg_entYI (own := RX12) (nm := "upperCode") (ty := FieldType.int) hst (Nat.le_of_ble_eq_true rfl) (Nat.le_of_ble_eq_true rfl) (by decide +kernel) rfl rfl (Nat.le_of_ble_eq_true rfl) rfl ?_
  intro p e R s m args below meth c Q ls hC hw hQ hT hl
  have hl : lv_has ls 2 [(0, .ref l0), (1, .int l1)] := hl
  exact X12_upperCode_W hC hQ hT hst hf hw hl

def X12_matches (E : gE) (l0 : Nat) (l1 : Int32) (σ : gS) : Option ((Nat ⊕ Int32) × gS) :=
  ob (gcl σ l0 10) fun _ =>
  ob (X12_checkCondition_f E l0 l1 σ) fun x1 =>
  gtry x1 (fun k9 σ9 => some (Sum.inl k9, σ9)) (fun _ σ4 =>
    ob (gfR σ4 l0 10 0) fun x6 =>
    ob (gcl σ4 x6 9) fun _ =>
    ob (X11_rowsFulfilling_f E σ4 x6 l1) fun x8 =>
    some (Sum.inr x8, σ4))
set_option maxHeartbeats 4000000 in
set_option maxRecDepth 100000 in
theorem X12_matches_W {σ : gS} {l0 : Nat} {l1 : Int32} {res : ((Nat ⊕ Int32) × gS)} {ls : Array Slot} (hC : gC E D A p R s m args meth c cX12_matches 2 RX12 "matches" 7 111) (hQ : ∀ (r : Int32) (σ1 : gS), res = (.inr r, σ1) → gQI E D A p l e R s m args below meth c Q cX12_matches FieldType.int (r, σ1)) (hT : ∀ (k : Nat) (σ1 : gS), res = (.inl k, σ1) → gTN E D A p l e R s m args below meth c Q cX12_matches 2 RX12 k σ1) (hst : l.stackTraces = false) (hf : X12_matches E l0 l1 σ = some res) (hw : gW E D A s σ H locs) (hl : lv_has ls 2 [(0, .ref l0), (1, .int l1)]) : W p l e R s m args below meth c H locs cells slots Q (F0 m 0 ls []) := by
  have hC0 := hC
  obtain ⟨hx, hb, hml, hown, hts, -⟩ := hC0
  unfold X12_matches at hf
  refine lv_aload_n hx hb dX12_matches_0 rfl (lv_at hl 0 rfl) ?_
  refine lv_iload_n hx hb dX12_matches_1 rfl (lv_at hl 1 rfl) ?_
  obtain ⟨_, h3, hf⟩ := ob_some hf
  obtain ⟨x1, h2, hf⟩ := ob_some hf
  refine gg_yVV (As := [.int l1]) hC hw (X12_checkCondition_M l hst E D A h2) h3 rfl g_ml_X12_205 hd_X12_checkCondition (Nat.le_of_ble_eq_true rfl) (Nat.le_of_ble_eq_true rfl) hl.1 rfl (Nat.le_of_ble_eq_true rfl) dX12_matches_2 (fun k9 σ9 he => ?_) (fun σ4 he H locs cells slots hw => ?_)
  · subst he
    replace hf := gtry_inl.symm.trans hf
    cases hf
    exact (hT _ _ rfl).2.2 _ _ _
  · subst he
    replace hf := gtry_inr.symm.trans hf
    refine lv_aload_n hx hb dX12_matches_5 rfl (lv_at hl 0 rfl) ?_
    obtain ⟨x6, h7, hf⟩ := ob_some hf
    refine rR_fl_X12_10 hC hw h7 dX12_matches_6 ?_
    refine lv_iload_n hx hb dX12_matches_9 rfl (lv_at hl 1 rfl) ?_
    obtain ⟨_, h10, hf⟩ := ob_some hf
    obtain ⟨x8, h9, hf⟩ := ob_some hf
    refine gg_cVI (As := [.int l1]) hC hw (X11_rowsFulfilling_M l E D A h9) h10 rfl g_ml_X12_223 hd_X11_rowsFulfilling (Nat.le_of_ble_eq_true rfl) (Nat.le_of_ble_eq_true rfl) hl.1 rfl (Nat.le_of_ble_eq_true rfl) dX12_matches_10 (fun H locs cells slots hw => ?_)
    cases hf
    exact hQ _ _ rfl _ _ _ _ _ _ dX12_matches_13 rfl hw

def X12_matches_f (E : gE) (l0 : Nat) (l1 : Int32) (σ : gS) : Option ((Nat ⊕ Int32) × gS) := X12_matches E l0 l1 σ
set_option maxRecDepth 100000 in
theorem X12_matches_M (l : Launch) (hst : l.stackTraces = false) (E : gE) (D : va_G) (A : Nat → Prop) {l0 : Nat} {l1 : Int32} {σ : gS} {res : ((Nat ⊕ Int32) × gS)} (hf : X12_matches_f E l0 l1 σ = some res) : gYI l E D A yX12_matches (Cond.code yX12_matches cX12_matches 2 (some FieldType.int)) 7 111 [.ref l0, .int l1] σ res := by
  refine gg_entYI (own := RX12) (nm := "matches") (ty := FieldType.int) hst (Nat.le_of_ble_eq_true rfl) (Nat.le_of_ble_eq_true rfl) (by decide +kernel) rfl rfl (Nat.le_of_ble_eq_true rfl) rfl ?_
  intro p e R s m args below meth c Q ls hC hw hQ hT hl
  have hl : lv_has ls 2 [(0, .ref l0), (1, .int l1)] := hl
  exact X12_matches_W hC hQ hT hst hf hw hl

def X12_strictestCondition_42 (E : gE) (σ : gS) (r_7 : Nat → Int32 → Int32 → Int32 → Option Int32) (l0 : Nat) (l1 : Int32) (l2 : Int32) (l3 : Int32) : Option Int32 :=
  r_7 l0 l1 l2 (l3 + 1)
set_option maxHeartbeats 4000000 in
set_option maxRecDepth 100000 in
theorem X12_strictestCondition_42_W {σ : gS} {l0 : Nat} {l1 : Int32} {l2 : Int32} {l3 : Int32} {res : Int32} {ls : Array Slot} (hC : gC E D A p R s m args meth c cX12_strictestCondition 5 RX12 "strictestCondition" 4 87) (hQ : gQI E D A p l e R s m args below meth c Q cX12_strictestCondition FieldType.int (res, σ)) {r_7 : Nat → Int32 → Int32 → Int32 → Option Int32} (h_7 : ∀ {l0 : Nat} {l1 : Int32} {l2 : Int32} {l3 : Int32} {H : Heap} {locs : List Loc} {cells slots : Nat} {ls : Array Slot}, r_7 l0 l1 l2 l3 = some res → gW E D A s σ H locs → lv_has ls 5 [(0, .ref l0), (1, .int l1), (2, .int l2), (3, .int l3)] → W p l e R s m args below meth c H locs cells slots Q (F0 m 7 ls [])) (hf : X12_strictestCondition_42 E σ r_7 l0 l1 l2 l3 = some res) (hw : gW E D A s σ H locs) (hl : lv_has ls 5 [(0, .ref l0), (1, .int l1), (2, .int l2), (3, .int l3)]) : W p l e R s m args below meth c H locs cells slots Q (F0 m 42 ls []) := by
  have hC0 := hC
  obtain ⟨hx, hb, hml, hown, hts, -⟩ := hC0
  unfold X12_strictestCondition_42 at hf
  refine lv_iinc (v := (l3 + 1)) (lv' := [(3, .int (l3 + 1)), (0, .ref l0), (1, .int l1), (2, .int l2)]) hx hb dX12_strictestCondition_42 hl (k := 3) rfl rfl (by decide) rfl (fun ls hl => ?_)
  refine lv_goto (tgt := 7) hx hb dX12_strictestCondition_45 (by decide) ?_
  exact h_7 hf hw (lv_sub hl [1, 2, 3, 0] rfl)

def X12_strictestCondition_7_s (E : gE) (σ : gS) (r_7 : Nat → Int32 → Int32 → Int32 → Option Int32) (l0 : Nat) (l1 : Int32) (l2 : Int32) (l3 : Int32) : Option Int32 :=
  ob (gfR σ l0 10 0) fun x1 =>
  ob (gcl σ x1 9) fun _ =>
  ob (X11_filter_f E σ x1) fun x3 =>
  ob (gcl σ x3 3) fun _ =>
  ob (X4_size_f E σ x3) fun x6 =>
  if x6 ≤ l3 then
    some l1
  else
    ob (gfR σ l0 10 0) fun x9 =>
    ob (gcl σ x9 9) fun _ =>
    ob (X11_rowsFulfilling_f E σ x9 l3) fun x11 =>
    if l2 ≤ x11 then
      X12_strictestCondition_42 E σ r_7 l0 l1 l2 l3
    else
      X12_strictestCondition_42 E σ r_7 l0 l3 x11 l3
set_option maxHeartbeats 4000000 in
set_option maxRecDepth 100000 in
theorem X12_strictestCondition_7_s_W {σ : gS} {l0 : Nat} {l1 : Int32} {l2 : Int32} {l3 : Int32} {res : Int32} {ls : Array Slot} (hC : gC E D A p R s m args meth c cX12_strictestCondition 5 RX12 "strictestCondition" 4 87) (hQ : gQI E D A p l e R s m args below meth c Q cX12_strictestCondition FieldType.int (res, σ)) {r_7 : Nat → Int32 → Int32 → Int32 → Option Int32} (h_7 : ∀ {l0 : Nat} {l1 : Int32} {l2 : Int32} {l3 : Int32} {H : Heap} {locs : List Loc} {cells slots : Nat} {ls : Array Slot}, r_7 l0 l1 l2 l3 = some res → gW E D A s σ H locs → lv_has ls 5 [(0, .ref l0), (1, .int l1), (2, .int l2), (3, .int l3)] → W p l e R s m args below meth c H locs cells slots Q (F0 m 7 ls [])) (hf : X12_strictestCondition_7_s E σ r_7 l0 l1 l2 l3 = some res) (hw : gW E D A s σ H locs) (hl : lv_has ls 5 [(0, .ref l0), (1, .int l1), (2, .int l2), (3, .int l3)]) : W p l e R s m args below meth c H locs cells slots Q (F0 m 7 ls []) := by
  have hC0 := hC
  obtain ⟨hx, hb, hml, hown, hts, -⟩ := hC0
  unfold X12_strictestCondition_7_s at hf
  refine lv_iload_n hx hb dX12_strictestCondition_7 rfl (lv_at hl 3 rfl) ?_
  refine lv_aload_n hx hb dX12_strictestCondition_8 rfl (lv_at hl 0 rfl) ?_
  obtain ⟨x1, h2, hf⟩ := ob_some hf
  refine rR_fl_X12_10 hC hw h2 dX12_strictestCondition_9 ?_
  obtain ⟨_, h5, hf⟩ := ob_some hf
  obtain ⟨x3, h4, hf⟩ := ob_some hf
  refine gg_cVR (As := []) hC hw (X11_filter_M l E D A h4) h5 rfl g_ml_X12_198 hd_X11_filter (Nat.le_of_ble_eq_true rfl) (Nat.le_of_ble_eq_true rfl) hl.1 rfl (Nat.le_of_ble_eq_true rfl) dX12_strictestCondition_12 (fun H locs cells slots hw => ?_)
  obtain ⟨_, h8, hf⟩ := ob_some hf
  obtain ⟨x6, h7, hf⟩ := ob_some hf
  refine gg_cVI (As := []) hC hw (X4_size_M l E D A h7) h8 rfl g_ml_X12_202 hd_X4_size (Nat.le_of_ble_eq_true rfl) (Nat.le_of_ble_eq_true rfl) hl.1 rfl (Nat.le_of_ble_eq_true rfl) dX12_strictestCondition_15 (fun H locs cells slots hw => ?_)
  refine lv_icmp_ge (tgt := 48) hx hb dX12_strictestCondition_18 (by decide) (fun c15 => ?_) (fun c15 => ?_)
  · replace hf := (if_pos c15).symm.trans hf
    refine lv_iload_n hx hb dX12_strictestCondition_48 rfl (lv_at hl 1 rfl) ?_
    cases hf
    exact hQ _ _ _ _ _ _ dX12_strictestCondition_49 rfl hw
  · replace hf := (if_neg c15).symm.trans hf
    refine lv_aload_n hx hb dX12_strictestCondition_21 rfl (lv_at hl 0 rfl) ?_
    obtain ⟨x9, h10, hf⟩ := ob_some hf
    refine rR_fl_X12_10 hC hw h10 dX12_strictestCondition_22 ?_
    refine lv_iload_n hx hb dX12_strictestCondition_25 rfl (lv_at hl 3 rfl) ?_
    obtain ⟨_, h13, hf⟩ := ob_some hf
    obtain ⟨x11, h12, hf⟩ := ob_some hf
    refine gg_cVI (As := [.int l3]) hC hw (X11_rowsFulfilling_M l E D A h12) h13 rfl g_ml_X12_223 hd_X11_rowsFulfilling (Nat.le_of_ble_eq_true rfl) (Nat.le_of_ble_eq_true rfl) hl.1 rfl (Nat.le_of_ble_eq_true rfl) dX12_strictestCondition_26 (fun H locs cells slots hw => ?_)
    refine lv_istore (lv' := [(4, .int x11), (0, .ref l0), (1, .int l1), (2, .int l2), (3, .int l3)]) hx hb dX12_strictestCondition_29 hl (by decide) rfl (fun ls hl => ?_)
    refine lv_iload hx hb dX12_strictestCondition_31 (lv_at hl 0 rfl) ?_
    refine lv_iload_n hx hb dX12_strictestCondition_33 rfl (lv_at hl 3 rfl) ?_
    refine lv_icmp_ge (tgt := 42) hx hb dX12_strictestCondition_34 (by decide) (fun c14 => ?_) (fun c14 => ?_)
    · replace hf := (if_pos c14).symm.trans hf
      exact X12_strictestCondition_42_W hC hQ h_7 hf hw (lv_sub hl [1, 2, 3, 4] rfl)
    · replace hf := (if_neg c14).symm.trans hf
      refine lv_iload_n hx hb dX12_strictestCondition_37 rfl (lv_at hl 4 rfl) ?_
      refine lv_istore_n (lv' := [(1, .int l3), (4, .int x11), (0, .ref l0), (2, .int l2), (3, .int l3)]) hx hb dX12_strictestCondition_38 rfl hl (by decide) rfl (fun ls hl => ?_)
      refine lv_iload hx hb dX12_strictestCondition_39 (lv_at hl 1 rfl) ?_
      refine lv_istore_n (lv' := [(2, .int x11), (1, .int l3), (4, .int x11), (0, .ref l0), (3, .int l3)]) hx hb dX12_strictestCondition_41 rfl hl (by decide) rfl (fun ls hl => ?_)
      exact X12_strictestCondition_42_W hC hQ h_7 hf hw (lv_sub hl [3, 1, 0, 4] rfl)
def X12_strictestCondition_7 (E : gE) (σ : gS) : Nat → Nat → Int32 → Int32 → Int32 → Option Int32
  | 0 => fun _ _ _ _ => none
  | n + 1 => X12_strictestCondition_7_s E σ (X12_strictestCondition_7 E σ n)
theorem X12_strictestCondition_7_W {σ : gS} {res : Int32} (hC : gC E D A p R s m args meth c cX12_strictestCondition 5 RX12 "strictestCondition" 4 87) (hQ : gQI E D A p l e R s m args below meth c Q cX12_strictestCondition FieldType.int (res, σ)) : ∀ (n : Nat), ∀ {l0 : Nat} {l1 : Int32} {l2 : Int32} {l3 : Int32} {H : Heap} {locs : List Loc} {cells slots : Nat} {ls : Array Slot}, X12_strictestCondition_7 E σ n l0 l1 l2 l3 = some res → gW E D A s σ H locs → lv_has ls 5 [(0, .ref l0), (1, .int l1), (2, .int l2), (3, .int l3)] → W p l e R s m args below meth c H locs cells slots Q (F0 m 7 ls []) := by
  intro n
  induction n with
  | zero =>
    intros
    rename_i hf _ _
    exact absurd hf (fun h => by cases (show (none : Option Int32) = some res from h))
  | succ n ih =>
    intros
    rename_i hf hw hl
    exact X12_strictestCondition_7_s_W hC hQ ih hf hw hl

def X12_strictestCondition (E : gE) (σ : gS) (l0 : Nat) : Option Int32 :=
  X12_strictestCondition_7 E σ (gN E) l0 (-1 : Int32) (61 : Int32) (0 : Int32)
set_option maxHeartbeats 4000000 in
set_option maxRecDepth 100000 in
theorem X12_strictestCondition_W {σ : gS} {l0 : Nat} {res : Int32} {ls : Array Slot} (hC : gC E D A p R s m args meth c cX12_strictestCondition 5 RX12 "strictestCondition" 4 87) (hQ : gQI E D A p l e R s m args below meth c Q cX12_strictestCondition FieldType.int (res, σ)) (hf : X12_strictestCondition E σ l0 = some res) (hw : gW E D A s σ H locs) (hl : lv_has ls 5 [(0, .ref l0)]) : W p l e R s m args below meth c H locs cells slots Q (F0 m 0 ls []) := by
  have hC0 := hC
  obtain ⟨hx, hb, hml, hown, hts, -⟩ := hC0
  unfold X12_strictestCondition at hf
  refine lv_iconst (v := -1) hx hb dX12_strictestCondition_0 (by decide) ?_
  refine lv_istore_n (lv' := [(1, .int (-1 : Int32)), (0, .ref l0)]) hx hb dX12_strictestCondition_1 rfl hl (by decide) rfl (fun ls hl => ?_)
  refine lv_bipush (v := 61) hx hb dX12_strictestCondition_2 (by decide) ?_
  refine lv_istore_n (lv' := [(2, .int (61 : Int32)), (1, .int (-1 : Int32)), (0, .ref l0)]) hx hb dX12_strictestCondition_4 rfl hl (by decide) rfl (fun ls hl => ?_)
  refine lv_iconst (v := 0) hx hb dX12_strictestCondition_5 (by decide) ?_
  refine lv_istore_n (lv' := [(3, .int (0 : Int32)), (2, .int (61 : Int32)), (1, .int (-1 : Int32)), (0, .ref l0)]) hx hb dX12_strictestCondition_6 rfl hl (by decide) rfl (fun ls hl => ?_)
  exact X12_strictestCondition_7_W hC hQ (gN E) hf hw (lv_sub hl [3, 2, 1, 0] rfl)

def X12_strictestCondition_f (E : gE) (σ : gS) (l0 : Nat) : Option Int32 := X12_strictestCondition E σ l0
set_option maxRecDepth 100000 in
theorem X12_strictestCondition_M (l : Launch) (E : gE) (D : va_G) (A : Nat → Prop) {l0 : Nat} {σ : gS} {res : Int32} (hf : X12_strictestCondition_f E σ l0 = some res) : gCI l E D A yX12_strictestCondition cX12_strictestCondition 5 4 87 (some FieldType.int) [.ref l0] σ (res, σ) := by
  refine gg_entI (own := RX12) (nm := "strictestCondition") (ty := FieldType.int) (by decide +kernel) rfl rfl (Nat.le_of_ble_eq_true rfl) rfl ?_
  intro p e R s m args below meth c Q ls hC hw hQ hl
  have hl : lv_has ls 5 [(0, .ref l0)] := hl
  exact X12_strictestCondition_W hC hQ hf hw hl

def X12_isSelected (E : gE) (l0 : Nat) (l1 : Int32) (σ : gS) : Option ((Nat ⊕ Int32) × gS) :=
  ob (gcl σ l0 10) fun _ =>
  ob (X12_checkRow_f E l0 l1 σ) fun x1 =>
  gtry x1 (fun k9 σ9 => some (Sum.inl k9, σ9)) (fun _ σ4 =>
    ob (gfR σ4 l0 10 0) fun x6 =>
    ob (gcl σ4 x6 9) fun _ =>
    ob (X11_selects_f E σ4 x6 l1) fun x8 =>
    ob (gz x8) fun _ =>
    some (Sum.inr x8, σ4))
set_option maxHeartbeats 4000000 in
set_option maxRecDepth 100000 in
theorem X12_isSelected_W {σ : gS} {l0 : Nat} {l1 : Int32} {res : ((Nat ⊕ Int32) × gS)} {ls : Array Slot} (hC : gC E D A p R s m args meth c cX12_isSelected 2 RX12 "isSelected" 7 111) (hQ : ∀ (r : Int32) (σ1 : gS), res = (.inr r, σ1) → gQI E D A p l e R s m args below meth c Q cX12_isSelected FieldType.boolean (r, σ1)) (hT : ∀ (k : Nat) (σ1 : gS), res = (.inl k, σ1) → gTN E D A p l e R s m args below meth c Q cX12_isSelected 2 RX12 k σ1) (hst : l.stackTraces = false) (hf : X12_isSelected E l0 l1 σ = some res) (hw : gW E D A s σ H locs) (hl : lv_has ls 2 [(0, .ref l0), (1, .int l1)]) : W p l e R s m args below meth c H locs cells slots Q (F0 m 0 ls []) := by
  have hC0 := hC
  obtain ⟨hx, hb, hml, hown, hts, -⟩ := hC0
  unfold X12_isSelected at hf
  refine lv_aload_n hx hb dX12_isSelected_0 rfl (lv_at hl 0 rfl) ?_
  refine lv_iload_n hx hb dX12_isSelected_1 rfl (lv_at hl 1 rfl) ?_
  obtain ⟨_, h3, hf⟩ := ob_some hf
  obtain ⟨x1, h2, hf⟩ := ob_some hf
  refine gg_yVV (As := [.int l1]) hC hw (X12_checkRow_M l hst E D A h2) h3 rfl g_ml_X12_119 hd_X12_checkRow (Nat.le_of_ble_eq_true rfl) (Nat.le_of_ble_eq_true rfl) hl.1 rfl (Nat.le_of_ble_eq_true rfl) dX12_isSelected_2 (fun k9 σ9 he => ?_) (fun σ4 he H locs cells slots hw => ?_)
  · subst he
    replace hf := gtry_inl.symm.trans hf
    cases hf
    exact (hT _ _ rfl).2.2 _ _ _
  · subst he
    replace hf := gtry_inr.symm.trans hf
    refine lv_aload_n hx hb dX12_isSelected_5 rfl (lv_at hl 0 rfl) ?_
    obtain ⟨x6, h7, hf⟩ := ob_some hf
    refine rR_fl_X12_10 hC hw h7 dX12_isSelected_6 ?_
    refine lv_iload_n hx hb dX12_isSelected_9 rfl (lv_at hl 1 rfl) ?_
    obtain ⟨_, h10, hf⟩ := ob_some hf
    obtain ⟨x8, h9, hf⟩ := ob_some hf
    refine gg_cVI (As := [.int l1]) hC hw (X11_selects_M l E D A h9) h10 rfl g_ml_X12_226 hd_X11_selects (Nat.le_of_ble_eq_true rfl) (Nat.le_of_ble_eq_true rfl) hl.1 rfl (Nat.le_of_ble_eq_true rfl) dX12_isSelected_10 (fun H locs cells slots hw => ?_)
    obtain ⟨_, h11, hf⟩ := ob_some hf
    cases hf
    exact hQ _ _ rfl _ _ _ _ _ _ dX12_isSelected_13 (gz_some h11) hw

def X12_isSelected_f (E : gE) (l0 : Nat) (l1 : Int32) (σ : gS) : Option ((Nat ⊕ Int32) × gS) := X12_isSelected E l0 l1 σ
set_option maxRecDepth 100000 in
theorem X12_isSelected_M (l : Launch) (hst : l.stackTraces = false) (E : gE) (D : va_G) (A : Nat → Prop) {l0 : Nat} {l1 : Int32} {σ : gS} {res : ((Nat ⊕ Int32) × gS)} (hf : X12_isSelected_f E l0 l1 σ = some res) : gYI l E D A yX12_isSelected (Cond.code yX12_isSelected cX12_isSelected 2 (some FieldType.boolean)) 7 111 [.ref l0, .int l1] σ res := by
  refine gg_entYI (own := RX12) (nm := "isSelected") (ty := FieldType.boolean) hst (Nat.le_of_ble_eq_true rfl) (Nat.le_of_ble_eq_true rfl) (by decide +kernel) rfl rfl (Nat.le_of_ble_eq_true rfl) rfl ?_
  intro p e R s m args below meth c Q ls hC hw hQ hT hl
  have hl : lv_has ls 2 [(0, .ref l0), (1, .int l1)] := hl
  exact X12_isSelected_W hC hQ hT hst hf hw hl

def X12_selectedCount (E : gE) (σ : gS) (l0 : Nat) : Option Int32 :=
  ob (gfR σ l0 10 0) fun x1 =>
  ob (gcl σ x1 9) fun _ =>
  ob (X11_selectedRows_f E σ x1) fun x3 =>
  some x3
set_option maxHeartbeats 4000000 in
set_option maxRecDepth 100000 in
theorem X12_selectedCount_W {σ : gS} {l0 : Nat} {res : Int32} {ls : Array Slot} (hC : gC E D A p R s m args meth c cX12_selectedCount 1 RX12 "selectedCount" 6 129) (hQ : gQI E D A p l e R s m args below meth c Q cX12_selectedCount FieldType.int (res, σ)) (hf : X12_selectedCount E σ l0 = some res) (hw : gW E D A s σ H locs) (hl : lv_has ls 1 [(0, .ref l0)]) : W p l e R s m args below meth c H locs cells slots Q (F0 m 0 ls []) := by
  have hC0 := hC
  obtain ⟨hx, hb, hml, hown, hts, -⟩ := hC0
  unfold X12_selectedCount at hf
  refine lv_aload_n hx hb dX12_selectedCount_0 rfl (lv_at hl 0 rfl) ?_
  obtain ⟨x1, h2, hf⟩ := ob_some hf
  refine rR_fl_X12_10 hC hw h2 dX12_selectedCount_1 ?_
  obtain ⟨_, h5, hf⟩ := ob_some hf
  obtain ⟨x3, h4, hf⟩ := ob_some hf
  refine gg_cVI (As := []) hC hw (X11_selectedRows_M l E D A h4) h5 rfl g_ml_X12_229 hd_X11_selectedRows (Nat.le_of_ble_eq_true rfl) (Nat.le_of_ble_eq_true rfl) hl.1 rfl (Nat.le_of_ble_eq_true rfl) dX12_selectedCount_4 (fun H locs cells slots hw => ?_)
  cases hf
  exact hQ _ _ _ _ _ _ dX12_selectedCount_7 rfl hw

def X12_selectedCount_f (E : gE) (σ : gS) (l0 : Nat) : Option Int32 := X12_selectedCount E σ l0
set_option maxRecDepth 100000 in
theorem X12_selectedCount_M (l : Launch) (E : gE) (D : va_G) (A : Nat → Prop) {l0 : Nat} {σ : gS} {res : Int32} (hf : X12_selectedCount_f E σ l0 = some res) : gCI l E D A yX12_selectedCount cX12_selectedCount 1 6 129 (some FieldType.int) [.ref l0] σ (res, σ) := by
  refine gg_entI (own := RX12) (nm := "selectedCount") (ty := FieldType.int) (by decide +kernel) rfl rfl (Nat.le_of_ble_eq_true rfl) rfl ?_
  intro p e R s m args below meth c Q ls hC hw hQ hl
  have hl : lv_has ls 1 [(0, .ref l0)] := hl
  exact X12_selectedCount_W hC hQ hf hw hl

def X12_selectedRow_36 (E : gE) (σ : gS) (r_4 : Nat → Int32 → Int32 → Int32 → Option Int32) (l0 : Nat) (l1 : Int32) (l2 : Int32) (l3 : Int32) : Option Int32 :=
  r_4 l0 l1 l2 (l3 + 1)
set_option maxHeartbeats 4000000 in
set_option maxRecDepth 100000 in
theorem X12_selectedRow_36_W {σ : gS} {l0 : Nat} {l1 : Int32} {l2 : Int32} {l3 : Int32} {res : Int32} {ls : Array Slot} (hC : gC E D A p R s m args meth c cX12_selectedRow 4 RX12 "selectedRow" 5 107) (hQ : gQI E D A p l e R s m args below meth c Q cX12_selectedRow FieldType.int (res, σ)) {r_4 : Nat → Int32 → Int32 → Int32 → Option Int32} (h_4 : ∀ {l0 : Nat} {l1 : Int32} {l2 : Int32} {l3 : Int32} {H : Heap} {locs : List Loc} {cells slots : Nat} {ls : Array Slot}, r_4 l0 l1 l2 l3 = some res → gW E D A s σ H locs → lv_has ls 4 [(0, .ref l0), (1, .int l1), (2, .int l2), (3, .int l3)] → W p l e R s m args below meth c H locs cells slots Q (F0 m 4 ls [])) (hf : X12_selectedRow_36 E σ r_4 l0 l1 l2 l3 = some res) (hw : gW E D A s σ H locs) (hl : lv_has ls 4 [(0, .ref l0), (1, .int l1), (2, .int l2), (3, .int l3)]) : W p l e R s m args below meth c H locs cells slots Q (F0 m 36 ls []) := by
  have hC0 := hC
  obtain ⟨hx, hb, hml, hown, hts, -⟩ := hC0
  unfold X12_selectedRow_36 at hf
  refine lv_iinc (v := (l3 + 1)) (lv' := [(3, .int (l3 + 1)), (0, .ref l0), (1, .int l1), (2, .int l2)]) hx hb dX12_selectedRow_36 hl (k := 3) rfl rfl (by decide) rfl (fun ls hl => ?_)
  refine lv_goto (tgt := 4) hx hb dX12_selectedRow_39 (by decide) ?_
  exact h_4 hf hw (lv_sub hl [1, 2, 3, 0] rfl)

def X12_selectedRow_4_s (E : gE) (σ : gS) (r_4 : Nat → Int32 → Int32 → Int32 → Option Int32) (l0 : Nat) (l1 : Int32) (l2 : Int32) (l3 : Int32) : Option Int32 :=
  ob (gfR σ l0 10 0) fun x1 =>
  ob (gcl σ x1 9) fun _ =>
  ob (X11_rows_f E σ x1) fun x3 =>
  if x3 ≤ l3 then
    some (-1 : Int32)
  else
    ob (gfR σ l0 10 0) fun x6 =>
    ob (gcl σ x6 9) fun _ =>
    ob (X11_selects_f E σ x6 l3) fun x8 =>
    if x8 = 0 then
      X12_selectedRow_36 E σ r_4 l0 l1 l2 l3
    else
      if l2 = l1 then
        some l3
      else
        X12_selectedRow_36 E σ r_4 l0 l1 (l2 + 1) l3
set_option maxHeartbeats 4000000 in
set_option maxRecDepth 100000 in
theorem X12_selectedRow_4_s_W {σ : gS} {l0 : Nat} {l1 : Int32} {l2 : Int32} {l3 : Int32} {res : Int32} {ls : Array Slot} (hC : gC E D A p R s m args meth c cX12_selectedRow 4 RX12 "selectedRow" 5 107) (hQ : gQI E D A p l e R s m args below meth c Q cX12_selectedRow FieldType.int (res, σ)) {r_4 : Nat → Int32 → Int32 → Int32 → Option Int32} (h_4 : ∀ {l0 : Nat} {l1 : Int32} {l2 : Int32} {l3 : Int32} {H : Heap} {locs : List Loc} {cells slots : Nat} {ls : Array Slot}, r_4 l0 l1 l2 l3 = some res → gW E D A s σ H locs → lv_has ls 4 [(0, .ref l0), (1, .int l1), (2, .int l2), (3, .int l3)] → W p l e R s m args below meth c H locs cells slots Q (F0 m 4 ls [])) (hf : X12_selectedRow_4_s E σ r_4 l0 l1 l2 l3 = some res) (hw : gW E D A s σ H locs) (hl : lv_has ls 4 [(0, .ref l0), (1, .int l1), (2, .int l2), (3, .int l3)]) : W p l e R s m args below meth c H locs cells slots Q (F0 m 4 ls []) := by
  have hC0 := hC
  obtain ⟨hx, hb, hml, hown, hts, -⟩ := hC0
  unfold X12_selectedRow_4_s at hf
  refine lv_iload_n hx hb dX12_selectedRow_4 rfl (lv_at hl 3 rfl) ?_
  refine lv_aload_n hx hb dX12_selectedRow_5 rfl (lv_at hl 0 rfl) ?_
  obtain ⟨x1, h2, hf⟩ := ob_some hf
  refine rR_fl_X12_10 hC hw h2 dX12_selectedRow_6 ?_
  obtain ⟨_, h5, hf⟩ := ob_some hf
  obtain ⟨x3, h4, hf⟩ := ob_some hf
  refine gg_cVI (As := []) hC hw (X11_rows_M l E D A h4) h5 rfl g_ml_X12_108 hd_X11_rows (Nat.le_of_ble_eq_true rfl) (Nat.le_of_ble_eq_true rfl) hl.1 rfl (Nat.le_of_ble_eq_true rfl) dX12_selectedRow_9 (fun H locs cells slots hw => ?_)
  refine lv_icmp_ge (tgt := 42) hx hb dX12_selectedRow_12 (by decide) (fun c13 => ?_) (fun c13 => ?_)
  · replace hf := (if_pos c13).symm.trans hf
    refine lv_iconst (v := -1) hx hb dX12_selectedRow_42 (by decide) ?_
    cases hf
    exact hQ _ _ _ _ _ _ dX12_selectedRow_43 rfl hw
  · replace hf := (if_neg c13).symm.trans hf
    refine lv_aload_n hx hb dX12_selectedRow_15 rfl (lv_at hl 0 rfl) ?_
    obtain ⟨x6, h7, hf⟩ := ob_some hf
    refine rR_fl_X12_10 hC hw h7 dX12_selectedRow_16 ?_
    refine lv_iload_n hx hb dX12_selectedRow_19 rfl (lv_at hl 3 rfl) ?_
    obtain ⟨_, h10, hf⟩ := ob_some hf
    obtain ⟨x8, h9, hf⟩ := ob_some hf
    refine gg_cVI (As := [.int l3]) hC hw (X11_selects_M l E D A h9) h10 rfl g_ml_X12_226 hd_X11_selects (Nat.le_of_ble_eq_true rfl) (Nat.le_of_ble_eq_true rfl) hl.1 rfl (Nat.le_of_ble_eq_true rfl) dX12_selectedRow_20 (fun H locs cells slots hw => ?_)
    refine lv_if_eq (tgt := 36) hx hb dX12_selectedRow_23 (by decide) (fun c12 => ?_) (fun c12 => ?_)
    · replace hf := (if_pos c12).symm.trans hf
      exact X12_selectedRow_36_W hC hQ h_4 hf hw (lv_sub hl [0, 1, 2, 3] rfl)
    · replace hf := (if_neg c12).symm.trans hf
      refine lv_iload_n hx hb dX12_selectedRow_26 rfl (lv_at hl 2 rfl) ?_
      refine lv_iload_n hx hb dX12_selectedRow_27 rfl (lv_at hl 1 rfl) ?_
      refine lv_icmp_ne (tgt := 33) hx hb dX12_selectedRow_28 (by decide) (fun c11 => ?_) (fun c11 => ?_)
      · replace hf := (if_neg c11).symm.trans hf
        refine lv_iinc (v := (l2 + 1)) (lv' := [(2, .int (l2 + 1)), (0, .ref l0), (1, .int l1), (3, .int l3)]) hx hb dX12_selectedRow_33 hl (k := 2) rfl rfl (by decide) rfl (fun ls hl => ?_)
        exact X12_selectedRow_36_W hC hQ h_4 hf hw (lv_sub hl [1, 2, 0, 3] rfl)
      · replace hf := (if_pos c11).symm.trans hf
        refine lv_iload_n hx hb dX12_selectedRow_31 rfl (lv_at hl 3 rfl) ?_
        cases hf
        exact hQ _ _ _ _ _ _ dX12_selectedRow_32 rfl hw
def X12_selectedRow_4 (E : gE) (σ : gS) : Nat → Nat → Int32 → Int32 → Int32 → Option Int32
  | 0 => fun _ _ _ _ => none
  | n + 1 => X12_selectedRow_4_s E σ (X12_selectedRow_4 E σ n)
theorem X12_selectedRow_4_W {σ : gS} {res : Int32} (hC : gC E D A p R s m args meth c cX12_selectedRow 4 RX12 "selectedRow" 5 107) (hQ : gQI E D A p l e R s m args below meth c Q cX12_selectedRow FieldType.int (res, σ)) : ∀ (n : Nat), ∀ {l0 : Nat} {l1 : Int32} {l2 : Int32} {l3 : Int32} {H : Heap} {locs : List Loc} {cells slots : Nat} {ls : Array Slot}, X12_selectedRow_4 E σ n l0 l1 l2 l3 = some res → gW E D A s σ H locs → lv_has ls 4 [(0, .ref l0), (1, .int l1), (2, .int l2), (3, .int l3)] → W p l e R s m args below meth c H locs cells slots Q (F0 m 4 ls []) := by
  intro n
  induction n with
  | zero =>
    intros
    rename_i hf _ _
    exact absurd hf (fun h => by cases (show (none : Option Int32) = some res from h))
  | succ n ih =>
    intros
    rename_i hf hw hl
    exact X12_selectedRow_4_s_W hC hQ ih hf hw hl

def X12_selectedRow (E : gE) (σ : gS) (l0 : Nat) (l1 : Int32) : Option Int32 :=
  X12_selectedRow_4 E σ (gN E) l0 l1 (0 : Int32) (0 : Int32)
set_option maxHeartbeats 4000000 in
set_option maxRecDepth 100000 in
theorem X12_selectedRow_W {σ : gS} {l0 : Nat} {l1 : Int32} {res : Int32} {ls : Array Slot} (hC : gC E D A p R s m args meth c cX12_selectedRow 4 RX12 "selectedRow" 5 107) (hQ : gQI E D A p l e R s m args below meth c Q cX12_selectedRow FieldType.int (res, σ)) (hf : X12_selectedRow E σ l0 l1 = some res) (hw : gW E D A s σ H locs) (hl : lv_has ls 4 [(0, .ref l0), (1, .int l1)]) : W p l e R s m args below meth c H locs cells slots Q (F0 m 0 ls []) := by
  have hC0 := hC
  obtain ⟨hx, hb, hml, hown, hts, -⟩ := hC0
  unfold X12_selectedRow at hf
  refine lv_iconst (v := 0) hx hb dX12_selectedRow_0 (by decide) ?_
  refine lv_istore_n (lv' := [(2, .int (0 : Int32)), (0, .ref l0), (1, .int l1)]) hx hb dX12_selectedRow_1 rfl hl (by decide) rfl (fun ls hl => ?_)
  refine lv_iconst (v := 0) hx hb dX12_selectedRow_2 (by decide) ?_
  refine lv_istore_n (lv' := [(3, .int (0 : Int32)), (2, .int (0 : Int32)), (0, .ref l0), (1, .int l1)]) hx hb dX12_selectedRow_3 rfl hl (by decide) rfl (fun ls hl => ?_)
  exact X12_selectedRow_4_W hC hQ (gN E) hf hw (lv_sub hl [2, 3, 1, 0] rfl)

def X12_selectedRow_f (E : gE) (σ : gS) (l0 : Nat) (l1 : Int32) : Option Int32 := X12_selectedRow E σ l0 l1
set_option maxRecDepth 100000 in
theorem X12_selectedRow_M (l : Launch) (E : gE) (D : va_G) (A : Nat → Prop) {l0 : Nat} {l1 : Int32} {σ : gS} {res : Int32} (hf : X12_selectedRow_f E σ l0 l1 = some res) : gCI l E D A yX12_selectedRow cX12_selectedRow 4 5 107 (some FieldType.int) [.ref l0, .int l1] σ (res, σ) := by
  refine gg_entI (own := RX12) (nm := "selectedRow") (ty := FieldType.int) (by decide +kernel) rfl rfl (Nat.le_of_ble_eq_true rfl) rfl ?_
  intro p e R s m args below meth c Q ls hC hw hQ hl
  have hl : lv_has ls 4 [(0, .ref l0), (1, .int l1)] := hl
  exact X12_selectedRow_W hC hQ hf hw hl

def X12_rejectedBy (E : gE) (l0 : Nat) (l1 : Int32) (σ : gS) : Option ((Nat ⊕ Int32) × gS) :=
  ob (gcl σ l0 10) fun _ =>
  ob (X12_checkRow_f E l0 l1 σ) fun x1 =>
  gtry x1 (fun k9 σ9 => some (Sum.inl k9, σ9)) (fun _ σ4 =>
    ob (gfR σ4 l0 10 0) fun x6 =>
    ob (gcl σ4 x6 9) fun _ =>
    ob (X11_firstRejecting_f E σ4 x6 l1) fun x8 =>
    some (Sum.inr x8, σ4))
set_option maxHeartbeats 4000000 in
set_option maxRecDepth 100000 in
theorem X12_rejectedBy_W {σ : gS} {l0 : Nat} {l1 : Int32} {res : ((Nat ⊕ Int32) × gS)} {ls : Array Slot} (hC : gC E D A p R s m args meth c cX12_rejectedBy 2 RX12 "rejectedBy" 7 111) (hQ : ∀ (r : Int32) (σ1 : gS), res = (.inr r, σ1) → gQI E D A p l e R s m args below meth c Q cX12_rejectedBy FieldType.int (r, σ1)) (hT : ∀ (k : Nat) (σ1 : gS), res = (.inl k, σ1) → gTN E D A p l e R s m args below meth c Q cX12_rejectedBy 2 RX12 k σ1) (hst : l.stackTraces = false) (hf : X12_rejectedBy E l0 l1 σ = some res) (hw : gW E D A s σ H locs) (hl : lv_has ls 2 [(0, .ref l0), (1, .int l1)]) : W p l e R s m args below meth c H locs cells slots Q (F0 m 0 ls []) := by
  have hC0 := hC
  obtain ⟨hx, hb, hml, hown, hts, -⟩ := hC0
  unfold X12_rejectedBy at hf
  refine lv_aload_n hx hb dX12_rejectedBy_0 rfl (lv_at hl 0 rfl) ?_
  refine lv_iload_n hx hb dX12_rejectedBy_1 rfl (lv_at hl 1 rfl) ?_
  obtain ⟨_, h3, hf⟩ := ob_some hf
  obtain ⟨x1, h2, hf⟩ := ob_some hf
  refine gg_yVV (As := [.int l1]) hC hw (X12_checkRow_M l hst E D A h2) h3 rfl g_ml_X12_119 hd_X12_checkRow (Nat.le_of_ble_eq_true rfl) (Nat.le_of_ble_eq_true rfl) hl.1 rfl (Nat.le_of_ble_eq_true rfl) dX12_rejectedBy_2 (fun k9 σ9 he => ?_) (fun σ4 he H locs cells slots hw => ?_)
  · subst he
    replace hf := gtry_inl.symm.trans hf
    cases hf
    exact (hT _ _ rfl).2.2 _ _ _
  · subst he
    replace hf := gtry_inr.symm.trans hf
    refine lv_aload_n hx hb dX12_rejectedBy_5 rfl (lv_at hl 0 rfl) ?_
    obtain ⟨x6, h7, hf⟩ := ob_some hf
    refine rR_fl_X12_10 hC hw h7 dX12_rejectedBy_6 ?_
    refine lv_iload_n hx hb dX12_rejectedBy_9 rfl (lv_at hl 1 rfl) ?_
    obtain ⟨_, h10, hf⟩ := ob_some hf
    obtain ⟨x8, h9, hf⟩ := ob_some hf
    refine gg_cVI (As := [.int l1]) hC hw (X11_firstRejecting_M l E D A h9) h10 rfl g_ml_X12_232 hd_X11_firstRejecting (Nat.le_of_ble_eq_true rfl) (Nat.le_of_ble_eq_true rfl) hl.1 rfl (Nat.le_of_ble_eq_true rfl) dX12_rejectedBy_10 (fun H locs cells slots hw => ?_)
    cases hf
    exact hQ _ _ rfl _ _ _ _ _ _ dX12_rejectedBy_13 rfl hw

def X12_rejectedBy_f (E : gE) (l0 : Nat) (l1 : Int32) (σ : gS) : Option ((Nat ⊕ Int32) × gS) := X12_rejectedBy E l0 l1 σ
set_option maxRecDepth 100000 in
theorem X12_rejectedBy_M (l : Launch) (hst : l.stackTraces = false) (E : gE) (D : va_G) (A : Nat → Prop) {l0 : Nat} {l1 : Int32} {σ : gS} {res : ((Nat ⊕ Int32) × gS)} (hf : X12_rejectedBy_f E l0 l1 σ = some res) : gYI l E D A yX12_rejectedBy (Cond.code yX12_rejectedBy cX12_rejectedBy 2 (some FieldType.int)) 7 111 [.ref l0, .int l1] σ res := by
  refine gg_entYI (own := RX12) (nm := "rejectedBy") (ty := FieldType.int) hst (Nat.le_of_ble_eq_true rfl) (Nat.le_of_ble_eq_true rfl) (by decide +kernel) rfl rfl (Nat.le_of_ble_eq_true rfl) rfl ?_
  intro p e R s m args below meth c Q ls hC hw hQ hT hl
  have hl : lv_has ls 2 [(0, .ref l0), (1, .int l1)] := hl
  exact X12_rejectedBy_W hC hQ hT hst hf hw hl

def X12_bitWidthWith_40 (E : gE) (s0 : Int32) (σ : gS) : Option ((Nat ⊕ Int32) × gS) :=
  ob (X3_widthFor_f E σ s0) fun x1 =>
  some (Sum.inr x1, σ)
set_option maxHeartbeats 4000000 in
set_option maxRecDepth 100000 in
theorem X12_bitWidthWith_40_W {σ : gS} {s0 : Int32} {res : ((Nat ⊕ Int32) × gS)} {ls : Array Slot} (hC : gC E D A p R s m args meth c cX12_bitWidthWith 4 RX12 "bitWidthWith" 7 111) (hQ : ∀ (r : Int32) (σ1 : gS), res = (.inr r, σ1) → gQI E D A p l e R s m args below meth c Q cX12_bitWidthWith FieldType.int (r, σ1)) (hT : ∀ (k : Nat) (σ1 : gS), res = (.inl k, σ1) → gTN E D A p l e R s m args below meth c Q cX12_bitWidthWith 4 RX12 k σ1) (hst : l.stackTraces = false) (hf : X12_bitWidthWith_40 E s0 σ = some res) (hw : gW E D A s σ H locs) (hl : lv_has ls 4 []) : W p l e R s m args below meth c H locs cells slots Q (F0 m 40 ls [.int s0]) := by
  have hC0 := hC
  obtain ⟨hx, hb, hml, hown, hts, -⟩ := hC0
  unfold X12_bitWidthWith_40 at hf
  obtain ⟨x1, h2, hf⟩ := ob_some hf
  refine gg_cSI (As := [.int s0]) hC hw (X3_widthFor_M l E D A h2) g_ml_X12_250 hd_X3_widthFor.2 (Nat.le_of_ble_eq_true rfl) (Nat.le_of_ble_eq_true rfl) hl.1 rfl (Nat.le_of_ble_eq_true rfl) dX12_bitWidthWith_40 (fun H locs cells slots hw => ?_)
  cases hf
  exact hQ _ _ rfl _ _ _ _ _ _ dX12_bitWidthWith_43 rfl hw

def X12_bitWidthWith (E : gE) (l0 : Nat) (l1 : Int32) (l2 : Int32) (σ : gS) : Option ((Nat ⊕ Int32) × gS) :=
  ob (gcl σ l0 10) fun _ =>
  ob (X12_checkColumn_f E l0 l1 σ) fun x3 =>
  gtry x3 (fun k9 σ9 => some (Sum.inl k9, σ9)) (fun _ σ6 =>
    ob (gcl σ6 l0 10) fun _ =>
    ob (X12_checkValue_f E l0 l2 σ6) fun x8 =>
    gtry x8 (fun k9 σ9 => some (Sum.inl k9, σ9)) (fun _ σ11 =>
      ob (gfR σ11 l0 10 0) fun x13 =>
      ob (gcl σ11 x13 9) fun _ =>
      ob (X11_dictionary_f E σ11 x13 l1) fun x15 =>
      ob (gcl σ11 x15 2) fun _ =>
      ob (X3_holds_f E σ11 x15 l2) fun x18 =>
      if x18 = 0 then
        ob (gcl σ11 x15 2) fun _ =>
        ob (X3_size_f E σ11 x15) fun x21 =>
        X12_bitWidthWith_40 E (x21 + (1 : Int32)) σ11
      else
        ob (gcl σ11 x15 2) fun _ =>
        ob (X3_size_f E σ11 x15) fun x24 =>
        X12_bitWidthWith_40 E x24 σ11))
set_option maxHeartbeats 4000000 in
set_option maxRecDepth 100000 in
theorem X12_bitWidthWith_W {σ : gS} {l0 : Nat} {l1 : Int32} {l2 : Int32} {res : ((Nat ⊕ Int32) × gS)} {ls : Array Slot} (hC : gC E D A p R s m args meth c cX12_bitWidthWith 4 RX12 "bitWidthWith" 7 111) (hQ : ∀ (r : Int32) (σ1 : gS), res = (.inr r, σ1) → gQI E D A p l e R s m args below meth c Q cX12_bitWidthWith FieldType.int (r, σ1)) (hT : ∀ (k : Nat) (σ1 : gS), res = (.inl k, σ1) → gTN E D A p l e R s m args below meth c Q cX12_bitWidthWith 4 RX12 k σ1) (hst : l.stackTraces = false) (hf : X12_bitWidthWith E l0 l1 l2 σ = some res) (hw : gW E D A s σ H locs) (hl : lv_has ls 4 [(0, .ref l0), (1, .int l1), (2, .int l2)]) : W p l e R s m args below meth c H locs cells slots Q (F0 m 0 ls []) := by
  have hC0 := hC
  obtain ⟨hx, hb, hml, hown, hts, -⟩ := hC0
  unfold X12_bitWidthWith at hf
  refine lv_aload_n hx hb dX12_bitWidthWith_0 rfl (lv_at hl 0 rfl) ?_
  refine lv_iload_n hx hb dX12_bitWidthWith_1 rfl (lv_at hl 1 rfl) ?_
  obtain ⟨_, h5, hf⟩ := ob_some hf
  obtain ⟨x3, h4, hf⟩ := ob_some hf
  refine gg_yVV (As := [.int l1]) hC hw (X12_checkColumn_M l hst E D A h4) h5 rfl g_ml_X12_116 hd_X12_checkColumn (Nat.le_of_ble_eq_true rfl) (Nat.le_of_ble_eq_true rfl) hl.1 rfl (Nat.le_of_ble_eq_true rfl) dX12_bitWidthWith_2 (fun k9 σ9 he => ?_) (fun σ6 he H locs cells slots hw => ?_)
  · subst he
    replace hf := gtry_inl.symm.trans hf
    cases hf
    exact (hT _ _ rfl).2.2 _ _ _
  · subst he
    replace hf := gtry_inr.symm.trans hf
    refine lv_aload_n hx hb dX12_bitWidthWith_5 rfl (lv_at hl 0 rfl) ?_
    refine lv_iload_n hx hb dX12_bitWidthWith_6 rfl (lv_at hl 2 rfl) ?_
    obtain ⟨_, h10, hf⟩ := ob_some hf
    obtain ⟨x8, h9, hf⟩ := ob_some hf
    refine gg_yVV (As := [.int l2]) hC hw (X12_checkValue_M l hst E D A h9) h10 rfl g_ml_X12_244 hd_X12_checkValue (Nat.le_of_ble_eq_true rfl) (Nat.le_of_ble_eq_true rfl) hl.1 rfl (Nat.le_of_ble_eq_true rfl) dX12_bitWidthWith_7 (fun k9 σ9 he => ?_) (fun σ11 he H locs cells slots hw => ?_)
    · subst he
      replace hf := gtry_inl.symm.trans hf
      cases hf
      exact (hT _ _ rfl).2.2 _ _ _
    · subst he
      replace hf := gtry_inr.symm.trans hf
      refine lv_aload_n hx hb dX12_bitWidthWith_10 rfl (lv_at hl 0 rfl) ?_
      obtain ⟨x13, h14, hf⟩ := ob_some hf
      refine rR_fl_X12_10 hC hw h14 dX12_bitWidthWith_11 ?_
      refine lv_iload_n hx hb dX12_bitWidthWith_14 rfl (lv_at hl 1 rfl) ?_
      obtain ⟨_, h17, hf⟩ := ob_some hf
      obtain ⟨x15, h16, hf⟩ := ob_some hf
      refine gg_cVR (As := [.int l1]) hC hw (X11_dictionary_M l E D A h16) h17 rfl g_ml_X12_135 hd_X11_dictionary (Nat.le_of_ble_eq_true rfl) (Nat.le_of_ble_eq_true rfl) hl.1 rfl (Nat.le_of_ble_eq_true rfl) dX12_bitWidthWith_15 (fun H locs cells slots hw => ?_)
      refine lv_astore_n (lv' := [(3, .ref x15), (0, .ref l0), (1, .int l1), (2, .int l2)]) hx hb dX12_bitWidthWith_18 rfl hl (by decide) rfl (fun ls hl => ?_)
      refine lv_aload_n hx hb dX12_bitWidthWith_19 rfl (lv_at hl 0 rfl) ?_
      refine lv_iload_n hx hb dX12_bitWidthWith_20 rfl (lv_at hl 3 rfl) ?_
      obtain ⟨_, h20, hf⟩ := ob_some hf
      obtain ⟨x18, h19, hf⟩ := ob_some hf
      refine gg_cVI (As := [.int l2]) hC hw (X3_holds_M l E D A h19) h20 rfl g_ml_X12_247 hd_X3_holds (Nat.le_of_ble_eq_true rfl) (Nat.le_of_ble_eq_true rfl) hl.1 rfl (Nat.le_of_ble_eq_true rfl) dX12_bitWidthWith_21 (fun H locs cells slots hw => ?_)
      refine lv_if_eq (tgt := 34) hx hb dX12_bitWidthWith_24 (by decide) (fun c27 => ?_) (fun c27 => ?_)
      · replace hf := (if_pos c27).symm.trans hf
        refine lv_aload_n hx hb dX12_bitWidthWith_34 rfl (lv_at hl 0 rfl) ?_
        obtain ⟨_, h23, hf⟩ := ob_some hf
        obtain ⟨x21, h22, hf⟩ := ob_some hf
        refine gg_cVI (As := []) hC hw (X3_size_M l E D A h22) h23 rfl g_ml_X12_139 hd_X3_size (Nat.le_of_ble_eq_true rfl) (Nat.le_of_ble_eq_true rfl) hl.1 rfl (Nat.le_of_ble_eq_true rfl) dX12_bitWidthWith_35 (fun H locs cells slots hw => ?_)
        refine lv_iconst (v := 1) hx hb dX12_bitWidthWith_38 (by decide) ?_
        refine lv_iadd hx hb dX12_bitWidthWith_39 ?_
        exact X12_bitWidthWith_40_W hC hQ hT hst hf hw (lv_sub hl [] rfl)
      · replace hf := (if_neg c27).symm.trans hf
        refine lv_aload_n hx hb dX12_bitWidthWith_27 rfl (lv_at hl 0 rfl) ?_
        obtain ⟨_, h26, hf⟩ := ob_some hf
        obtain ⟨x24, h25, hf⟩ := ob_some hf
        refine gg_cVI (As := []) hC hw (X3_size_M l E D A h25) h26 rfl g_ml_X12_139 hd_X3_size (Nat.le_of_ble_eq_true rfl) (Nat.le_of_ble_eq_true rfl) hl.1 rfl (Nat.le_of_ble_eq_true rfl) dX12_bitWidthWith_28 (fun H locs cells slots hw => ?_)
        refine lv_goto (tgt := 40) hx hb dX12_bitWidthWith_31 (by decide) ?_
        exact X12_bitWidthWith_40_W hC hQ hT hst hf hw (lv_sub hl [] rfl)

def X12_bitWidthWith_f (E : gE) (l0 : Nat) (l1 : Int32) (l2 : Int32) (σ : gS) : Option ((Nat ⊕ Int32) × gS) := X12_bitWidthWith E l0 l1 l2 σ
set_option maxRecDepth 100000 in
theorem X12_bitWidthWith_M (l : Launch) (hst : l.stackTraces = false) (E : gE) (D : va_G) (A : Nat → Prop) {l0 : Nat} {l1 : Int32} {l2 : Int32} {σ : gS} {res : ((Nat ⊕ Int32) × gS)} (hf : X12_bitWidthWith_f E l0 l1 l2 σ = some res) : gYI l E D A yX12_bitWidthWith (Cond.code yX12_bitWidthWith cX12_bitWidthWith 4 (some FieldType.int)) 7 111 [.ref l0, .int l1, .int l2] σ res := by
  refine gg_entYI (own := RX12) (nm := "bitWidthWith") (ty := FieldType.int) hst (Nat.le_of_ble_eq_true rfl) (Nat.le_of_ble_eq_true rfl) (by decide +kernel) rfl rfl (Nat.le_of_ble_eq_true rfl) rfl ?_
  intro p e R s m args below meth c Q ls hC hw hQ hT hl
  have hl : lv_has ls 4 [(0, .ref l0), (1, .int l1), (2, .int l2)] := hl
  exact X12_bitWidthWith_W hC hQ hT hst hf hw hl

def X12_saveSnapshot (E : gE) (l0 : Nat) (σ : gS) : Option gS :=
  ob (gfR σ l0 10 1) fun x1 =>
  ob (gfR σ l0 10 0) fun x3 =>
  ob (gcl σ x1 9) fun _ =>
  ob (X11_copyFrom_f E x1 x3 σ) fun x5 =>
  ob (gz (1 : Int32)) fun _ =>
  ob (gpf E x5 l0 10 2 (.int (1 : Int32))) fun σ8 =>
  some σ8
set_option maxHeartbeats 4000000 in
set_option maxRecDepth 100000 in
theorem X12_saveSnapshot_W {σ : gS} {l0 : Nat} {σz : gS} {ls : Array Slot} (hC : gC E D A p R s m args meth c cX12_saveSnapshot 1 RX12 "saveSnapshot" 6 144) (hQ : gQV E D A p l e R s m args below meth c Q cX12_saveSnapshot σz) (hf : X12_saveSnapshot E l0 σ = some σz) (hw : gW E D A s σ H locs) (hl : lv_has ls 1 [(0, .ref l0)]) : W p l e R s m args below meth c H locs cells slots Q (F0 m 0 ls []) := by
  have hC0 := hC
  obtain ⟨hx, hb, hml, hown, hts, -⟩ := hC0
  unfold X12_saveSnapshot at hf
  refine lv_aload_n hx hb dX12_saveSnapshot_0 rfl (lv_at hl 0 rfl) ?_
  obtain ⟨x1, h2, hf⟩ := ob_some hf
  refine rR_fl_X12_16 hC hw h2 dX12_saveSnapshot_1 ?_
  refine lv_aload_n hx hb dX12_saveSnapshot_4 rfl (lv_at hl 0 rfl) ?_
  obtain ⟨x3, h4, hf⟩ := ob_some hf
  refine rR_fl_X12_10 hC hw h4 dX12_saveSnapshot_5 ?_
  obtain ⟨_, h7, hf⟩ := ob_some hf
  obtain ⟨x5, h6, hf⟩ := ob_some hf
  refine gg_cVV (As := [.ref x3]) hC hw (X11_copyFrom_M l E D A h6) h7 rfl g_ml_X12_342 hd_X11_copyFrom (Nat.le_of_ble_eq_true rfl) (Nat.le_of_ble_eq_true rfl) hl.1 rfl (Nat.le_of_ble_eq_true rfl) dX12_saveSnapshot_8 (fun H locs cells slots hw => ?_)
  refine lv_aload_n hx hb dX12_saveSnapshot_11 rfl (lv_at hl 0 rfl) ?_
  refine lv_iconst (v := 1) hx hb dX12_saveSnapshot_12 (by decide) ?_
  obtain ⟨_, h10, hf⟩ := ob_some hf
  obtain ⟨σ8, h9, hf⟩ := ob_some hf
  refine p_fl_X12_104 hC hw h9 (gz_some h10) (gz_fits h10) dX12_saveSnapshot_13 (fun H locs hw => ?_)
  cases hf
  exact hQ _ _ _ _ _ _ dX12_saveSnapshot_16 hw

def X12_saveSnapshot_f (E : gE) (l0 : Nat) (σ : gS) : Option gS := X12_saveSnapshot E l0 σ
set_option maxRecDepth 100000 in
theorem X12_saveSnapshot_M (l : Launch) (E : gE) (D : va_G) (A : Nat → Prop) {l0 : Nat} {σ : gS} {σz : gS} (hf : X12_saveSnapshot_f E l0 σ = some σz) : gCV l E D A yX12_saveSnapshot cX12_saveSnapshot 1 6 144 none [.ref l0] σ σz := by
  refine gg_entV (own := RX12) (nm := "saveSnapshot") (by decide +kernel) rfl rfl (Nat.le_of_ble_eq_true rfl) rfl ?_
  intro p e R s m args below meth c Q ls hC hw hQ hl
  have hl : lv_has ls 1 [(0, .ref l0)] := hl
  exact X12_saveSnapshot_W hC hQ hf hw hl

end MC1
