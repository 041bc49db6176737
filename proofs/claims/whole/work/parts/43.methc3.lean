/-! decompiled: X12_sort, X12_removeCondition, X12_deleteSelected, X12_compact, X12_writeRow, X12_undo, X12_addCondition, X12_execute, X12_init, X12_addLess, X12_addEqual, X12_addGreater, X12_addRow, X12_loadTable, X12_runScript -/
section MC3
variable {p : Program} {l : Launch} {e : Env} {R : Room} {s : State} {m : MethodId} {args : Array Value} {below : List Frame} {meth : Method} {c : Code} {H : Heap} {locs : List Loc} {cells slots : Nat} {Q : State → Prop} {E : gE} {D : va_G} {A : Nat → Prop}
def X12_sort (E : gE) (l0 : Nat) (l1 : Int32) (l2 : Int32) (σ : gS) : Option ((Nat ⊕ Int32) × gS) :=
  ob (gcl σ l0 10) fun _ =>
  ob (X12_checkColumn_f E l0 l1 σ) fun x1 =>
  gtry x1 (fun k9 σ9 => some (Sum.inl k9, σ9)) (fun _ σ4 =>
    ob (gfR σ4 l0 10 3) fun x6 =>
    ob (gfR σ4 l0 10 0) fun x8 =>
    ob (gcl σ4 x6 4) fun _ =>
    ob (X5_record_f E x6 x8 σ4) fun x10 =>
    ob (gcl x10 l0 10) fun _ =>
    ob (X12_sortRows_f E l0 l1 l2 x10) fun x13 =>
    ob (gfR x13 l0 10 8) fun x16 =>
    ob (gfR x13 l0 10 0) fun x18 =>
    ob (gcl x13 x18 9) fun _ =>
    ob (X11_rows_f E x13 x18) fun x20 =>
    ob (gcl x13 x16 8) fun _ =>
    ob (X10_reset_f E x16 x20 x13) fun x23 =>
    ob (gfR x23 l0 10 0) fun x26 =>
    ob (gcl x23 x26 9) fun _ =>
    ob (X11_column_f E x23 x26 l1) fun x28 =>
    ob (gfR x23 l0 10 8) fun x31 =>
    ob (gcl x23 x28 0) fun _ =>
    ob (X1_runsIn_f E x23 x28 x31) fun x33 =>
    some (Sum.inr x33, x23))
set_option maxHeartbeats 4000000 in
set_option maxRecDepth 100000 in
theorem X12_sort_W {σ : gS} {l0 : Nat} {l1 : Int32} {l2 : Int32} {res : ((Nat ⊕ Int32) × gS)} {ls : Array Slot} (hC : gC E D A p R s m args meth c cX12_sort 3 RX12 "sort" 7 167) (hQ : ∀ (r : Int32) (σ1 : gS), res = (.inr r, σ1) → gQI E D A p l e R s m args below meth c Q cX12_sort FieldType.int (r, σ1)) (hT : ∀ (k : Nat) (σ1 : gS), res = (.inl k, σ1) → gTN E D A p l e R s m args below meth c Q cX12_sort 3 RX12 k σ1) (hst : l.stackTraces = false) (hf : X12_sort E l0 l1 l2 σ = some res) (hw : gW E D A s σ H locs) (hl : lv_has ls 3 [(0, .ref l0), (1, .int l1), (2, .int l2)]) : W p l e R s m args below meth c H locs cells slots Q (F0 m 0 ls []) := by
  have hC0 := hC
  obtain ⟨hx, hb, hml, hown, hts, -⟩ := hC0
  unfold X12_sort at hf
  refine lv_aload_n hx hb dX12_sort_0 rfl (lv_at hl 0 rfl) ?_
  refine lv_iload_n hx hb dX12_sort_1 rfl (lv_at hl 1 rfl) ?_
  obtain ⟨_, h3, hf⟩ := ob_some hf
  obtain ⟨x1, h2, hf⟩ := ob_some hf
  refine gg_yVV (As := [.int l1]) hC hw (X12_checkColumn_M l hst E D A h2) h3 rfl g_ml_X12_116 hd_X12_checkColumn (Nat.le_of_ble_eq_true rfl) (Nat.le_of_ble_eq_true rfl) hl.1 rfl (Nat.le_of_ble_eq_true rfl) dX12_sort_2 (fun k9 σ9 he => ?_) (fun σ4 he H locs cells slots hw => ?_)
  · subst he
    replace hf := gtry_inl.symm.trans hf
    cases hf
    exact (hT _ _ rfl).2.2 _ _ _
  · subst he
    replace hf := gtry_inr.symm.trans hf
    refine lv_aload_n hx hb dX12_sort_5 rfl (lv_at hl 0 rfl) ?_
    obtain ⟨x6, h7, hf⟩ := ob_some hf
    refine rR_fl_X12_22 hC hw h7 dX12_sort_6 ?_
    refine lv_aload_n hx hb dX12_sort_9 rfl (lv_at hl 0 rfl) ?_
    obtain ⟨x8, h9, hf⟩ := ob_some hf
    refine rR_fl_X12_10 hC hw h9 dX12_sort_10 ?_
    obtain ⟨_, h12, hf⟩ := ob_some hf
    obtain ⟨x10, h11, hf⟩ := ob_some hf
    refine gg_cVV (As := [.ref x8]) hC hw (X5_record_M l E D A h11) h12 rfl g_ml_X12_275 hd_X5_record (Nat.le_of_ble_eq_true rfl) (Nat.le_of_ble_eq_true rfl) hl.1 rfl (Nat.le_of_ble_eq_true rfl) dX12_sort_13 (fun H locs cells slots hw => ?_)
    refine lv_aload_n hx hb dX12_sort_16 rfl (lv_at hl 0 rfl) ?_
    refine lv_iload_n hx hb dX12_sort_17 rfl (lv_at hl 1 rfl) ?_
    refine lv_iload_n hx hb dX12_sort_18 rfl (lv_at hl 2 rfl) ?_
    obtain ⟨_, h15, hf⟩ := ob_some hf
    obtain ⟨x13, h14, hf⟩ := ob_some hf
    refine gg_cVV (As := [.int l1, .int l2]) hC hw (X12_sortRows_M l E D A h14) h15 rfl g_ml_X12_289 hd_X12_sortRows (Nat.le_of_ble_eq_true rfl) (Nat.le_of_ble_eq_true rfl) hl.1 rfl (Nat.le_of_ble_eq_true rfl) dX12_sort_19 (fun H locs cells slots hw => ?_)
    refine lv_aload_n hx hb dX12_sort_22 rfl (lv_at hl 0 rfl) ?_
    obtain ⟨x16, h17, hf⟩ := ob_some hf
    refine rR_fl_X12_49 hC hw h17 dX12_sort_23 ?_
    refine lv_aload_n hx hb dX12_sort_26 rfl (lv_at hl 0 rfl) ?_
    obtain ⟨x18, h19, hf⟩ := ob_some hf
    refine rR_fl_X12_10 hC hw h19 dX12_sort_27 ?_
    obtain ⟨_, h22, hf⟩ := ob_some hf
    obtain ⟨x20, h21, hf⟩ := ob_some hf
    refine gg_cVI (As := []) hC hw (X11_rows_M l E D A h21) h22 rfl g_ml_X12_108 hd_X11_rows (Nat.le_of_ble_eq_true rfl) (Nat.le_of_ble_eq_true rfl) hl.1 rfl (Nat.le_of_ble_eq_true rfl) dX12_sort_30 (fun H locs cells slots hw => ?_)
    obtain ⟨_, h25, hf⟩ := ob_some hf
    obtain ⟨x23, h24, hf⟩ := ob_some hf
    refine gg_cVV (As := [.int x20]) hC hw (X10_reset_M l E D A h24) h25 rfl g_ml_X12_184 hd_X10_reset (Nat.le_of_ble_eq_true rfl) (Nat.le_of_ble_eq_true rfl) hl.1 rfl (Nat.le_of_ble_eq_true rfl) dX12_sort_33 (fun H locs cells slots hw => ?_)
    refine lv_aload_n hx hb dX12_sort_36 rfl (lv_at hl 0 rfl) ?_
    obtain ⟨x26, h27, hf⟩ := ob_some hf
    refine rR_fl_X12_10 hC hw h27 dX12_sort_37 ?_
    refine lv_iload_n hx hb dX12_sort_40 rfl (lv_at hl 1 rfl) ?_
    obtain ⟨_, h30, hf⟩ := ob_some hf
    obtain ⟨x28, h29, hf⟩ := ob_some hf
    refine gg_cVR (As := [.int l1]) hC hw (X11_column_M l E D A h29) h30 rfl g_ml_X12_122 hd_X11_column (Nat.le_of_ble_eq_true rfl) (Nat.le_of_ble_eq_true rfl) hl.1 rfl (Nat.le_of_ble_eq_true rfl) dX12_sort_41 (fun H locs cells slots hw => ?_)
    refine lv_aload_n hx hb dX12_sort_44 rfl (lv_at hl 0 rfl) ?_
    obtain ⟨x31, h32, hf⟩ := ob_some hf
    refine rR_fl_X12_49 hC hw h32 dX12_sort_45 ?_
    obtain ⟨_, h35, hf⟩ := ob_some hf
    obtain ⟨x33, h34, hf⟩ := ob_some hf
    refine gg_cVI (As := [.ref x31]) hC hw (X1_runsIn_M l E D A h34) h35 rfl g_ml_X12_187 hd_X1_runsIn (Nat.le_of_ble_eq_true rfl) (Nat.le_of_ble_eq_true rfl) hl.1 rfl (Nat.le_of_ble_eq_true rfl) dX12_sort_48 (fun H locs cells slots hw => ?_)
    cases hf
    exact hQ _ _ rfl _ _ _ _ _ _ dX12_sort_51 rfl hw

def X12_sort_f (E : gE) (l0 : Nat) (l1 : Int32) (l2 : Int32) (σ : gS) : Option ((Nat ⊕ Int32) × gS) := X12_sort E l0 l1 l2 σ
set_option maxRecDepth 100000 in
theorem X12_sort_M (l : Launch) (hst : l.stackTraces = false) (E : gE) (D : va_G) (A : Nat → Prop) {l0 : Nat} {l1 : Int32} {l2 : Int32} {σ : gS} {res : ((Nat ⊕ Int32) × gS)} (hf : X12_sort_f E l0 l1 l2 σ = some res) : gYI l E D A yX12_sort (Cond.code yX12_sort cX12_sort 3 (some FieldType.int)) 7 167 [.ref l0, .int l1, .int l2] σ res := by
  refine gg_entYI (own := RX12) (nm := "sort") (ty := FieldType.int) hst (Nat.le_of_ble_eq_true rfl) (Nat.le_of_ble_eq_true rfl) (by decide +kernel) rfl rfl (Nat.le_of_ble_eq_true rfl) rfl ?_
  intro p e R s m args below meth c Q ls hC hw hQ hT hl
  have hl : lv_has ls 3 [(0, .ref l0), (1, .int l1), (2, .int l2)] := hl
  exact X12_sort_W hC hQ hT hst hf hw hl

def X12_removeCondition (E : gE) (l0 : Nat) (l1 : Int32) (σ : gS) : Option ((Nat ⊕ Int32) × gS) :=
  ob (gcl σ l0 10) fun _ =>
  ob (X12_checkCondition_f E l0 l1 σ) fun x1 =>
  gtry x1 (fun k9 σ9 => some (Sum.inl k9, σ9)) (fun _ σ4 =>
    ob (gfR σ4 l0 10 3) fun x6 =>
    ob (gfR σ4 l0 10 0) fun x8 =>
    ob (gcl σ4 x6 4) fun _ =>
    ob (X5_record_f E x6 x8 σ4) fun x10 =>
    ob (gfR x10 l0 10 0) fun x13 =>
    ob (gcl x10 x13 9) fun _ =>
    ob (X11_filter_f E x10 x13) fun x15 =>
    ob (gcl x10 x15 3) fun _ =>
    ob (X4_remove_f E x15 l1 x10) fun x18 =>
    ob (gfR x18 l0 10 0) fun x21 =>
    ob (gcl x18 x21 9) fun _ =>
    ob (X11_selectedRows_f E x18 x21) fun x23 =>
    some (Sum.inr x23, x18))
set_option maxHeartbeats 4000000 in
set_option maxRecDepth 100000 in
theorem X12_removeCondition_W {σ : gS} {l0 : Nat} {l1 : Int32} {res : ((Nat ⊕ Int32) × gS)} {ls : Array Slot} (hC : gC E D A p R s m args meth c cX12_removeCondition 2 RX12 "removeCondition" 7 165) (hQ : ∀ (r : Int32) (σ1 : gS), res = (.inr r, σ1) → gQI E D A p l e R s m args below meth c Q cX12_removeCondition FieldType.int (r, σ1)) (hT : ∀ (k : Nat) (σ1 : gS), res = (.inl k, σ1) → gTN E D A p l e R s m args below meth c Q cX12_removeCondition 2 RX12 k σ1) (hst : l.stackTraces = false) (hf : X12_removeCondition E l0 l1 σ = some res) (hw : gW E D A s σ H locs) (hl : lv_has ls 2 [(0, .ref l0), (1, .int l1)]) : W p l e R s m args below meth c H locs cells slots Q (F0 m 0 ls []) := by
  have hC0 := hC
  obtain ⟨hx, hb, hml, hown, hts, -⟩ := hC0
  unfold X12_removeCondition at hf
  refine lv_aload_n hx hb dX12_removeCondition_0 rfl (lv_at hl 0 rfl) ?_
  refine lv_iload_n hx hb dX12_removeCondition_1 rfl (lv_at hl 1 rfl) ?_
  obtain ⟨_, h3, hf⟩ := ob_some hf
  obtain ⟨x1, h2, hf⟩ := ob_some hf
  refine gg_yVV (As := [.int l1]) hC hw (X12_checkCondition_M l hst E D A h2) h3 rfl g_ml_X12_205 hd_X12_checkCondition (Nat.le_of_ble_eq_true rfl) (Nat.le_of_ble_eq_true rfl) hl.1 rfl (Nat.le_of_ble_eq_true rfl) dX12_removeCondition_2 (fun k9 σ9 he => ?_) (fun σ4 he H locs cells slots hw => ?_)
  · subst he
    replace hf := gtry_inl.symm.trans hf
    cases hf
    exact (hT _ _ rfl).2.2 _ _ _
  · subst he
    replace hf := gtry_inr.symm.trans hf
    refine lv_aload_n hx hb dX12_removeCondition_5 rfl (lv_at hl 0 rfl) ?_
    obtain ⟨x6, h7, hf⟩ := ob_some hf
    refine rR_fl_X12_22 hC hw h7 dX12_removeCondition_6 ?_
    refine lv_aload_n hx hb dX12_removeCondition_9 rfl (lv_at hl 0 rfl) ?_
    obtain ⟨x8, h9, hf⟩ := ob_some hf
    refine rR_fl_X12_10 hC hw h9 dX12_removeCondition_10 ?_
    obtain ⟨_, h12, hf⟩ := ob_some hf
    obtain ⟨x10, h11, hf⟩ := ob_some hf
    refine gg_cVV (As := [.ref x8]) hC hw (X5_record_M l E D A h11) h12 rfl g_ml_X12_275 hd_X5_record (Nat.le_of_ble_eq_true rfl) (Nat.le_of_ble_eq_true rfl) hl.1 rfl (Nat.le_of_ble_eq_true rfl) dX12_removeCondition_13 (fun H locs cells slots hw => ?_)
    refine lv_aload_n hx hb dX12_removeCondition_16 rfl (lv_at hl 0 rfl) ?_
    obtain ⟨x13, h14, hf⟩ := ob_some hf
    refine rR_fl_X12_10 hC hw h14 dX12_removeCondition_17 ?_
    obtain ⟨_, h17, hf⟩ := ob_some hf
    obtain ⟨x15, h16, hf⟩ := ob_some hf
    refine gg_cVR (As := []) hC hw (X11_filter_M l E D A h16) h17 rfl g_ml_X12_198 hd_X11_filter (Nat.le_of_ble_eq_true rfl) (Nat.le_of_ble_eq_true rfl) hl.1 rfl (Nat.le_of_ble_eq_true rfl) dX12_removeCondition_20 (fun H locs cells slots hw => ?_)
    refine lv_iload_n hx hb dX12_removeCondition_23 rfl (lv_at hl 1 rfl) ?_
    obtain ⟨_, h20, hf⟩ := ob_some hf
    obtain ⟨x18, h19, hf⟩ := ob_some hf
    refine gg_cVV (As := [.int l1]) hC hw (X4_remove_M l E D A h19) h20 rfl g_ml_X12_297 hd_X4_remove (Nat.le_of_ble_eq_true rfl) (Nat.le_of_ble_eq_true rfl) hl.1 rfl (Nat.le_of_ble_eq_true rfl) dX12_removeCondition_24 (fun H locs cells slots hw => ?_)
    refine lv_aload_n hx hb dX12_removeCondition_27 rfl (lv_at hl 0 rfl) ?_
    obtain ⟨x21, h22, hf⟩ := ob_some hf
    refine rR_fl_X12_10 hC hw h22 dX12_removeCondition_28 ?_
    obtain ⟨_, h25, hf⟩ := ob_some hf
    obtain ⟨x23, h24, hf⟩ := ob_some hf
    refine gg_cVI (As := []) hC hw (X11_selectedRows_M l E D A h24) h25 rfl g_ml_X12_229 hd_X11_selectedRows (Nat.le_of_ble_eq_true rfl) (Nat.le_of_ble_eq_true rfl) hl.1 rfl (Nat.le_of_ble_eq_true rfl) dX12_removeCondition_31 (fun H locs cells slots hw => ?_)
    cases hf
    exact hQ _ _ rfl _ _ _ _ _ _ dX12_removeCondition_34 rfl hw

def X12_removeCondition_f (E : gE) (l0 : Nat) (l1 : Int32) (σ : gS) : Option ((Nat ⊕ Int32) × gS) := X12_removeCondition E l0 l1 σ
set_option maxRecDepth 100000 in
theorem X12_removeCondition_M (l : Launch) (hst : l.stackTraces = false) (E : gE) (D : va_G) (A : Nat → Prop) {l0 : Nat} {l1 : Int32} {σ : gS} {res : ((Nat ⊕ Int32) × gS)} (hf : X12_removeCondition_f E l0 l1 σ = some res) : gYI l E D A yX12_removeCondition (Cond.code yX12_removeCondition cX12_removeCondition 2 (some FieldType.int)) 7 165 [.ref l0, .int l1] σ res := by
  refine gg_entYI (own := RX12) (nm := "removeCondition") (ty := FieldType.int) hst (Nat.le_of_ble_eq_true rfl) (Nat.le_of_ble_eq_true rfl) (by decide +kernel) rfl rfl (Nat.le_of_ble_eq_true rfl) rfl ?_
  intro p e R s m args below meth c Q ls hC hw hQ hT hl
  have hl : lv_has ls 2 [(0, .ref l0), (1, .int l1)] := hl
  exact X12_removeCondition_W hC hQ hT hst hf hw hl

def X12_deleteSelected (E : gE) (l0 : Nat) (σ : gS) : Option (Int32 × gS) :=
  ob (gfR σ l0 10 3) fun x1 =>
  ob (gfR σ l0 10 0) fun x3 =>
  ob (gcl σ x1 4) fun _ =>
  ob (X5_record_f E x1 x3 σ) fun x5 =>
  ob (gfR x5 l0 10 0) fun x8 =>
  ob (gcl x5 x8 9) fun _ =>
  ob (X11_deleteSelectedRows_f E x8 x5) fun x10 =>
  some (x10.1, x10.2)
set_option maxHeartbeats 4000000 in
set_option maxRecDepth 100000 in
theorem X12_deleteSelected_W {σ : gS} {l0 : Nat} {res : (Int32 × gS)} {ls : Array Slot} (hC : gC E D A p R s m args meth c cX12_deleteSelected 1 RX12 "deleteSelected" 7 165) (hQ : gQI E D A p l e R s m args below meth c Q cX12_deleteSelected FieldType.int res) (hf : X12_deleteSelected E l0 σ = some res) (hw : gW E D A s σ H locs) (hl : lv_has ls 1 [(0, .ref l0)]) : W p l e R s m args below meth c H locs cells slots Q (F0 m 0 ls []) := by
  have hC0 := hC
  obtain ⟨hx, hb, hml, hown, hts, -⟩ := hC0
  unfold X12_deleteSelected at hf
  refine lv_aload_n hx hb dX12_deleteSelected_0 rfl (lv_at hl 0 rfl) ?_
  obtain ⟨x1, h2, hf⟩ := ob_some hf
  refine rR_fl_X12_22 hC hw h2 dX12_deleteSelected_1 ?_
  refine lv_aload_n hx hb dX12_deleteSelected_4 rfl (lv_at hl 0 rfl) ?_
  obtain ⟨x3, h4, hf⟩ := ob_some hf
  refine rR_fl_X12_10 hC hw h4 dX12_deleteSelected_5 ?_
  obtain ⟨_, h7, hf⟩ := ob_some hf
  obtain ⟨x5, h6, hf⟩ := ob_some hf
  refine gg_cVV (As := [.ref x3]) hC hw (X5_record_M l E D A h6) h7 rfl g_ml_X12_275 hd_X5_record (Nat.le_of_ble_eq_true rfl) (Nat.le_of_ble_eq_true rfl) hl.1 rfl (Nat.le_of_ble_eq_true rfl) dX12_deleteSelected_8 (fun H locs cells slots hw => ?_)
  refine lv_aload_n hx hb dX12_deleteSelected_11 rfl (lv_at hl 0 rfl) ?_
  obtain ⟨x8, h9, hf⟩ := ob_some hf
  refine rR_fl_X12_10 hC hw h9 dX12_deleteSelected_12 ?_
  obtain ⟨_, h12, hf⟩ := ob_some hf
  obtain ⟨x10, h11, hf⟩ := ob_some hf
  refine gg_cVI (As := []) hC hw (X11_deleteSelectedRows_M l E D A h11) h12 rfl g_ml_X12_300 hd_X11_deleteSelectedRows (Nat.le_of_ble_eq_true rfl) (Nat.le_of_ble_eq_true rfl) hl.1 rfl (Nat.le_of_ble_eq_true rfl) dX12_deleteSelected_15 (fun H locs cells slots hw => ?_)
  cases hf
  exact hQ _ _ _ _ _ _ dX12_deleteSelected_18 rfl hw

def X12_deleteSelected_f (E : gE) (l0 : Nat) (σ : gS) : Option (Int32 × gS) := X12_deleteSelected E l0 σ
set_option maxRecDepth 100000 in
theorem X12_deleteSelected_M (l : Launch) (E : gE) (D : va_G) (A : Nat → Prop) {l0 : Nat} {σ : gS} {res : (Int32 × gS)} (hf : X12_deleteSelected_f E l0 σ = some res) : gCI l E D A yX12_deleteSelected cX12_deleteSelected 1 7 165 (some FieldType.int) [.ref l0] σ res := by
  refine gg_entI (own := RX12) (nm := "deleteSelected") (ty := FieldType.int) (by decide +kernel) rfl rfl (Nat.le_of_ble_eq_true rfl) rfl ?_
  intro p e R s m args below meth c Q ls hC hw hQ hl
  have hl : lv_has ls 1 [(0, .ref l0)] := hl
  exact X12_deleteSelected_W hC hQ hf hw hl

def X12_compact (E : gE) (l0 : Nat) (l1 : Int32) (σ : gS) : Option ((Nat ⊕ Int32) × gS) :=
  ob (gcl σ l0 10) fun _ =>
  ob (X12_checkColumn_f E l0 l1 σ) fun x1 =>
  gtry x1 (fun k9 σ9 => some (Sum.inl k9, σ9)) (fun _ σ4 =>
    ob (gfR σ4 l0 10 3) fun x6 =>
    ob (gfR σ4 l0 10 0) fun x8 =>
    ob (gcl σ4 x6 4) fun _ =>
    ob (X5_record_f E x6 x8 σ4) fun x10 =>
    ob (gfR x10 l0 10 0) fun x13 =>
    ob (gcl x10 x13 9) fun _ =>
    ob (X11_dictionary_f E x10 x13 l1) fun x15 =>
    ob (gcl x10 x15 2) fun _ =>
    ob (X3_size_f E x10 x15) fun x18 =>
    ob (gfR x10 l0 10 0) fun x21 =>
    ob (gcl x10 x21 9) fun _ =>
    ob (X11_column_f E x10 x21 l1) fun x23 =>
    ob (gcl x10 x23 0) fun _ =>
    ob (X1_dropStale_f E x23 x10) fun x26 =>
    ob (gfR x26 l0 10 0) fun x29 =>
    ob (gcl x26 x29 9) fun _ =>
    ob (X11_dictionary_f E x26 x29 l1) fun x31 =>
    ob (gcl x26 x31 2) fun _ =>
    ob (X3_size_f E x26 x31) fun x34 =>
    some (Sum.inr (x18 - x34), x26))
set_option maxHeartbeats 4000000 in
set_option maxRecDepth 100000 in
theorem X12_compact_W {σ : gS} {l0 : Nat} {l1 : Int32} {res : ((Nat ⊕ Int32) × gS)} {ls : Array Slot} (hC : gC E D A p R s m args meth c cX12_compact 3 RX12 "compact" 7 166) (hQ : ∀ (r : Int32) (σ1 : gS), res = (.inr r, σ1) → gQI E D A p l e R s m args below meth c Q cX12_compact FieldType.int (r, σ1)) (hT : ∀ (k : Nat) (σ1 : gS), res = (.inl k, σ1) → gTN E D A p l e R s m args below meth c Q cX12_compact 3 RX12 k σ1) (hst : l.stackTraces = false) (hf : X12_compact E l0 l1 σ = some res) (hw : gW E D A s σ H locs) (hl : lv_has ls 3 [(0, .ref l0), (1, .int l1)]) : W p l e R s m args below meth c H locs cells slots Q (F0 m 0 ls []) := by
  have hC0 := hC
  obtain ⟨hx, hb, hml, hown, hts, -⟩ := hC0
  unfold X12_compact at hf
  refine lv_aload_n hx hb dX12_compact_0 rfl (lv_at hl 0 rfl) ?_
  refine lv_iload_n hx hb dX12_compact_1 rfl (lv_at hl 1 rfl) ?_
  obtain ⟨_, h3, hf⟩ := ob_some hf
  obtain ⟨x1, h2, hf⟩ := ob_some hf
  refine gg_yVV (As := [.int l1]) hC hw (X12_checkColumn_M l hst E D A h2) h3 rfl g_ml_X12_116 hd_X12_checkColumn (Nat.le_of_ble_eq_true rfl) (Nat.le_of_ble_eq_true rfl) hl.1 rfl (Nat.le_of_ble_eq_true rfl) dX12_compact_2 (fun k9 σ9 he => ?_) (fun σ4 he H locs cells slots hw => ?_)
  · subst he
    replace hf := gtry_inl.symm.trans hf
    cases hf
    exact (hT _ _ rfl).2.2 _ _ _
  · subst he
    replace hf := gtry_inr.symm.trans hf
    refine lv_aload_n hx hb dX12_compact_5 rfl (lv_at hl 0 rfl) ?_
    obtain ⟨x6, h7, hf⟩ := ob_some hf
    refine rR_fl_X12_22 hC hw h7 dX12_compact_6 ?_
    refine lv_aload_n hx hb dX12_compact_9 rfl (lv_at hl 0 rfl) ?_
    obtain ⟨x8, h9, hf⟩ := ob_some hf
    refine rR_fl_X12_10 hC hw h9 dX12_compact_10 ?_
    obtain ⟨_, h12, hf⟩ := ob_some hf
    obtain ⟨x10, h11, hf⟩ := ob_some hf
    refine gg_cVV (As := [.ref x8]) hC hw (X5_record_M l E D A h11) h12 rfl g_ml_X12_275 hd_X5_record (Nat.le_of_ble_eq_true rfl) (Nat.le_of_ble_eq_true rfl) hl.1 rfl (Nat.le_of_ble_eq_true rfl) dX12_compact_13 (fun H locs cells slots hw => ?_)
    refine lv_aload_n hx hb dX12_compact_16 rfl (lv_at hl 0 rfl) ?_
    obtain ⟨x13, h14, hf⟩ := ob_some hf
    refine rR_fl_X12_10 hC hw h14 dX12_compact_17 ?_
    refine lv_iload_n hx hb dX12_compact_20 rfl (lv_at hl 1 rfl) ?_
    obtain ⟨_, h17, hf⟩ := ob_some hf
    obtain ⟨x15, h16, hf⟩ := ob_some hf
    refine gg_cVR (As := [.int l1]) hC hw (X11_dictionary_M l E D A h16) h17 rfl g_ml_X12_135 hd_X11_dictionary (Nat.le_of_ble_eq_true rfl) (Nat.le_of_ble_eq_true rfl) hl.1 rfl (Nat.le_of_ble_eq_true rfl) dX12_compact_21 (fun H locs cells slots hw => ?_)
    obtain ⟨_, h20, hf⟩ := ob_some hf
    obtain ⟨x18, h19, hf⟩ := ob_some hf
    refine gg_cVI (As := []) hC hw (X3_size_M l E D A h19) h20 rfl g_ml_X12_139 hd_X3_size (Nat.le_of_ble_eq_true rfl) (Nat.le_of_ble_eq_true rfl) hl.1 rfl (Nat.le_of_ble_eq_true rfl) dX12_compact_24 (fun H locs cells slots hw => ?_)
    refine lv_istore_n (lv' := [(2, .int x18), (0, .ref l0), (1, .int l1)]) hx hb dX12_compact_27 rfl hl (by decide) rfl (fun ls hl => ?_)
    refine lv_aload_n hx hb dX12_compact_28 rfl (lv_at hl 1 rfl) ?_
    obtain ⟨x21, h22, hf⟩ := ob_some hf
    refine rR_fl_X12_10 hC hw h22 dX12_compact_29 ?_
    refine lv_iload_n hx hb dX12_compact_32 rfl (lv_at hl 2 rfl) ?_
    obtain ⟨_, h25, hf⟩ := ob_some hf
    obtain ⟨x23, h24, hf⟩ := ob_some hf
    refine gg_cVR (As := [.int l1]) hC hw (X11_column_M l E D A h24) h25 rfl g_ml_X12_122 hd_X11_column (Nat.le_of_ble_eq_true rfl) (Nat.le_of_ble_eq_true rfl) hl.1 rfl (Nat.le_of_ble_eq_true rfl) dX12_compact_33 (fun H locs cells slots hw => ?_)
    obtain ⟨_, h28, hf⟩ := ob_some hf
    obtain ⟨x26, h27, hf⟩ := ob_some hf
    refine gg_cVV (As := []) hC hw (X1_dropStale_M l E D A h27) h28 rfl g_ml_X12_303 hd_X1_dropStale (Nat.le_of_ble_eq_true rfl) (Nat.le_of_ble_eq_true rfl) hl.1 rfl (Nat.le_of_ble_eq_true rfl) dX12_compact_36 (fun H locs cells slots hw => ?_)
    refine lv_iload_n hx hb dX12_compact_39 rfl (lv_at hl 0 rfl) ?_
    refine lv_aload_n hx hb dX12_compact_40 rfl (lv_at hl 1 rfl) ?_
    obtain ⟨x29, h30, hf⟩ := ob_some hf
    refine rR_fl_X12_10 hC hw h30 dX12_compact_41 ?_
    refine lv_iload_n hx hb dX12_compact_44 rfl (lv_at hl 2 rfl) ?_
    obtain ⟨_, h33, hf⟩ := ob_some hf
    obtain ⟨x31, h32, hf⟩ := ob_some hf
    refine gg_cVR (As := [.int l1]) hC hw (X11_dictionary_M l E D A h32) h33 rfl g_ml_X12_135 hd_X11_dictionary (Nat.le_of_ble_eq_true rfl) (Nat.le_of_ble_eq_true rfl) hl.1 rfl (Nat.le_of_ble_eq_true rfl) dX12_compact_45 (fun H locs cells slots hw => ?_)
    obtain ⟨_, h36, hf⟩ := ob_some hf
    obtain ⟨x34, h35, hf⟩ := ob_some hf
    refine gg_cVI (As := []) hC hw (X3_size_M l E D A h35) h36 rfl g_ml_X12_139 hd_X3_size (Nat.le_of_ble_eq_true rfl) (Nat.le_of_ble_eq_true rfl) hl.1 rfl (Nat.le_of_ble_eq_true rfl) dX12_compact_48 (fun H locs cells slots hw => ?_)
    refine lv_isub hx hb dX12_compact_51 ?_
    cases hf
    exact hQ _ _ rfl _ _ _ _ _ _ dX12_compact_52 rfl hw

def X12_compact_f (E : gE) (l0 : Nat) (l1 : Int32) (σ : gS) : Option ((Nat ⊕ Int32) × gS) := X12_compact E l0 l1 σ
set_option maxRecDepth 100000 in
theorem X12_compact_M (l : Launch) (hst : l.stackTraces = false) (E : gE) (D : va_G) (A : Nat → Prop) {l0 : Nat} {l1 : Int32} {σ : gS} {res : ((Nat ⊕ Int32) × gS)} (hf : X12_compact_f E l0 l1 σ = some res) : gYI l E D A yX12_compact (Cond.code yX12_compact cX12_compact 3 (some FieldType.int)) 7 166 [.ref l0, .int l1] σ res := by
  refine gg_entYI (own := RX12) (nm := "compact") (ty := FieldType.int) hst (Nat.le_of_ble_eq_true rfl) (Nat.le_of_ble_eq_true rfl) (by decide +kernel) rfl rfl (Nat.le_of_ble_eq_true rfl) rfl ?_
  intro p e R s m args below meth c Q ls hC hw hQ hT hl
  have hl : lv_has ls 3 [(0, .ref l0), (1, .int l1)] := hl
  exact X12_compact_W hC hQ hT hst hf hw hl

def X12_writeRow_33 (E : gE) (r_12 : Nat → Int32 → Int32 → gS → Option ((Nat ⊕ Int32) × gS)) (l0 : Nat) (l1 : Int32) (l2 : Int32) (σ : gS) : Option ((Nat ⊕ Int32) × gS) :=
  ob (gfR σ l0 10 0) fun x1 =>
  ob (gcl σ x1 9) fun _ =>
  ob (X11_column_f E σ x1 l2) fun x3 =>
  ob (gcl σ x3 0) fun _ =>
  ob (X1_valueAt_f E σ x3 l1) fun x6 =>
  ob (gcl σ l0 10) fun _ =>
  ob (X12_putNumber_f E l0 x6 σ) fun x9 =>
  r_12 l0 l1 (l2 + 1) x9
set_option maxHeartbeats 4000000 in
set_option maxRecDepth 100000 in
theorem X12_writeRow_33_W {σ : gS} {l0 : Nat} {l1 : Int32} {l2 : Int32} {res : ((Nat ⊕ Int32) × gS)} {ls : Array Slot} (hC : gC E D A p R s m args meth c cX12_writeRow 3 RX12 "writeRow" 7 111) (hQ : ∀ (r : Int32) (σ1 : gS), res = (.inr r, σ1) → gQI E D A p l e R s m args below meth c Q cX12_writeRow FieldType.int (r, σ1)) (hT : ∀ (k : Nat) (σ1 : gS), res = (.inl k, σ1) → gTN E D A p l e R s m args below meth c Q cX12_writeRow 3 RX12 k σ1) (hst : l.stackTraces = false) {r_12 : Nat → Int32 → Int32 → gS → Option ((Nat ⊕ Int32) × gS)} (h_12 : ∀ {l0 : Nat} {l1 : Int32} {l2 : Int32} {σ : gS} {H : Heap} {locs : List Loc} {cells slots : Nat} {ls : Array Slot}, r_12 l0 l1 l2 σ = some res → gW E D A s σ H locs → lv_has ls 3 [(0, .ref l0), (1, .int l1), (2, .int l2)] → W p l e R s m args below meth c H locs cells slots Q (F0 m 12 ls [])) (hf : X12_writeRow_33 E r_12 l0 l1 l2 σ = some res) (hw : gW E D A s σ H locs) (hl : lv_has ls 3 [(0, .ref l0), (1, .int l1), (2, .int l2)]) : W p l e R s m args below meth c H locs cells slots Q (F0 m 33 ls []) := by
  have hC0 := hC
  obtain ⟨hx, hb, hml, hown, hts, -⟩ := hC0
  unfold X12_writeRow_33 at hf
  refine lv_aload_n hx hb dX12_writeRow_33 rfl (lv_at hl 0 rfl) ?_
  refine lv_aload_n hx hb dX12_writeRow_34 rfl (lv_at hl 0 rfl) ?_
  obtain ⟨x1, h2, hf⟩ := ob_some hf
  refine rR_fl_X12_10 hC hw h2 dX12_writeRow_35 ?_
  refine lv_iload_n hx hb dX12_writeRow_38 rfl (lv_at hl 2 rfl) ?_
  obtain ⟨_, h5, hf⟩ := ob_some hf
  obtain ⟨x3, h4, hf⟩ := ob_some hf
  refine gg_cVR (As := [.int l2]) hC hw (X11_column_M l E D A h4) h5 rfl g_ml_X12_122 hd_X11_column (Nat.le_of_ble_eq_true rfl) (Nat.le_of_ble_eq_true rfl) hl.1 rfl (Nat.le_of_ble_eq_true rfl) dX12_writeRow_39 (fun H locs cells slots hw => ?_)
  refine lv_iload_n hx hb dX12_writeRow_42 rfl (lv_at hl 1 rfl) ?_
  obtain ⟨_, h8, hf⟩ := ob_some hf
  obtain ⟨x6, h7, hf⟩ := ob_some hf
  refine gg_cVI (As := [.int l1]) hC hw (X1_valueAt_M l E D A h7) h8 rfl g_ml_X12_126 hd_X1_valueAt (Nat.le_of_ble_eq_true rfl) (Nat.le_of_ble_eq_true rfl) hl.1 rfl (Nat.le_of_ble_eq_true rfl) dX12_writeRow_43 (fun H locs cells slots hw => ?_)
  obtain ⟨_, h11, hf⟩ := ob_some hf
  obtain ⟨x9, h10, hf⟩ := ob_some hf
  refine gg_cVV (As := [.int x6]) hC hw (X12_putNumber_M l E D A h10) h11 rfl g_ml_X12_331 hd_X12_putNumber (Nat.le_of_ble_eq_true rfl) (Nat.le_of_ble_eq_true rfl) hl.1 rfl (Nat.le_of_ble_eq_true rfl) dX12_writeRow_46 (fun H locs cells slots hw => ?_)
  refine lv_iinc (v := (l2 + 1)) (lv' := [(2, .int (l2 + 1)), (0, .ref l0), (1, .int l1)]) hx hb dX12_writeRow_49 hl (k := 2) rfl rfl (by decide) rfl (fun ls hl => ?_)
  refine lv_goto (tgt := 12) hx hb dX12_writeRow_52 (by decide) ?_
  exact h_12 hf hw (lv_sub hl [1, 2, 0] rfl)

def X12_writeRow_72 (E : gE) (l0 : Nat) (σ : gS) : Option ((Nat ⊕ Int32) × gS) :=
  ob (gfI σ l0 10 7) fun x12 =>
  some (Sum.inr x12, σ)
set_option maxHeartbeats 4000000 in
set_option maxRecDepth 100000 in
theorem X12_writeRow_72_W {σ : gS} {l0 : Nat} {res : ((Nat ⊕ Int32) × gS)} {ls : Array Slot} (hC : gC E D A p R s m args meth c cX12_writeRow 3 RX12 "writeRow" 7 111) (hQ : ∀ (r : Int32) (σ1 : gS), res = (.inr r, σ1) → gQI E D A p l e R s m args below meth c Q cX12_writeRow FieldType.int (r, σ1)) (hT : ∀ (k : Nat) (σ1 : gS), res = (.inl k, σ1) → gTN E D A p l e R s m args below meth c Q cX12_writeRow 3 RX12 k σ1) (hst : l.stackTraces = false) (hf : X12_writeRow_72 E l0 σ = some res) (hw : gW E D A s σ H locs) (hl : lv_has ls 3 [(0, .ref l0)]) : W p l e R s m args below meth c H locs cells slots Q (F0 m 72 ls []) := by
  have hC0 := hC
  obtain ⟨hx, hb, hml, hown, hts, -⟩ := hC0
  unfold X12_writeRow_72 at hf
  refine lv_aload_n hx hb dX12_writeRow_72 rfl (lv_at hl 0 rfl) ?_
  obtain ⟨x12, h13, hf⟩ := ob_some hf
  refine rI_fl_X12_324 hC hw h13 dX12_writeRow_73 ?_
  cases hf
  exact hQ _ _ rfl _ _ _ _ _ _ dX12_writeRow_76 rfl hw

def X12_writeRow_12_s (E : gE) (r_12 : Nat → Int32 → Int32 → gS → Option ((Nat ⊕ Int32) × gS)) (l0 : Nat) (l1 : Int32) (l2 : Int32) (σ : gS) : Option ((Nat ⊕ Int32) × gS) :=
  ob (gfR σ l0 10 0) fun x14 =>
  ob (gcl σ x14 9) fun _ =>
  ob (X11_columns_f E σ x14) fun x16 =>
  if x16 ≤ l2 then
    ob (gfR σ l0 10 0) fun x19 =>
    ob (gcl σ x19 9) fun _ =>
    ob (X11_selects_f E σ x19 l1) fun x21 =>
    if x21 = 0 then
      X12_writeRow_72 E l0 σ
    else
      ob (gcl σ l0 10) fun _ =>
      ob (X12_putByte_f E l0 (42 : Int32) σ) fun x24 =>
      X12_writeRow_72 E l0 x24
  else
    if l2 ≤ 0 then
      X12_writeRow_33 E r_12 l0 l1 l2 σ
    else
      ob (gcl σ l0 10) fun _ =>
      ob (X12_putByte_f E l0 (32 : Int32) σ) fun x28 =>
      X12_writeRow_33 E r_12 l0 l1 l2 x28
set_option maxHeartbeats 4000000 in
set_option maxRecDepth 100000 in
theorem X12_writeRow_12_s_W {σ : gS} {l0 : Nat} {l1 : Int32} {l2 : Int32} {res : ((Nat ⊕ Int32) × gS)} {ls : Array Slot} (hC : gC E D A p R s m args meth c cX12_writeRow 3 RX12 "writeRow" 7 111) (hQ : ∀ (r : Int32) (σ1 : gS), res = (.inr r, σ1) → gQI E D A p l e R s m args below meth c Q cX12_writeRow FieldType.int (r, σ1)) (hT : ∀ (k : Nat) (σ1 : gS), res = (.inl k, σ1) → gTN E D A p l e R s m args below meth c Q cX12_writeRow 3 RX12 k σ1) (hst : l.stackTraces = false) {r_12 : Nat → Int32 → Int32 → gS → Option ((Nat ⊕ Int32) × gS)} (h_12 : ∀ {l0 : Nat} {l1 : Int32} {l2 : Int32} {σ : gS} {H : Heap} {locs : List Loc} {cells slots : Nat} {ls : Array Slot}, r_12 l0 l1 l2 σ = some res → gW E D A s σ H locs → lv_has ls 3 [(0, .ref l0), (1, .int l1), (2, .int l2)] → W p l e R s m args below meth c H locs cells slots Q (F0 m 12 ls [])) (hf : X12_writeRow_12_s E r_12 l0 l1 l2 σ = some res) (hw : gW E D A s σ H locs) (hl : lv_has ls 3 [(0, .ref l0), (1, .int l1), (2, .int l2)]) : W p l e R s m args below meth c H locs cells slots Q (F0 m 12 ls []) := by
  have hC0 := hC
  obtain ⟨hx, hb, hml, hown, hts, -⟩ := hC0
  unfold X12_writeRow_12_s at hf
  refine lv_iload_n hx hb dX12_writeRow_12 rfl (lv_at hl 2 rfl) ?_
  refine lv_aload_n hx hb dX12_writeRow_13 rfl (lv_at hl 0 rfl) ?_
  obtain ⟨x14, h15, hf⟩ := ob_some hf
  refine rR_fl_X12_10 hC hw h15 dX12_writeRow_14 ?_
  obtain ⟨_, h18, hf⟩ := ob_some hf
  obtain ⟨x16, h17, hf⟩ := ob_some hf
  refine gg_cVI (As := []) hC hw (X11_columns_M l E D A h17) h18 rfl g_ml_X12_115 hd_X11_columns (Nat.le_of_ble_eq_true rfl) (Nat.le_of_ble_eq_true rfl) hl.1 rfl (Nat.le_of_ble_eq_true rfl) dX12_writeRow_17 (fun H locs cells slots hw => ?_)
  refine lv_icmp_ge (tgt := 55) hx hb dX12_writeRow_20 (by decide) (fun c32 => ?_) (fun c32 => ?_)
  · replace hf := (if_pos c32).symm.trans hf
    refine lv_aload_n hx hb dX12_writeRow_55 rfl (lv_at hl 0 rfl) ?_
    obtain ⟨x19, h20, hf⟩ := ob_some hf
    refine rR_fl_X12_10 hC hw h20 dX12_writeRow_56 ?_
    refine lv_iload_n hx hb dX12_writeRow_59 rfl (lv_at hl 1 rfl) ?_
    obtain ⟨_, h23, hf⟩ := ob_some hf
    obtain ⟨x21, h22, hf⟩ := ob_some hf
    refine gg_cVI (As := [.int l1]) hC hw (X11_selects_M l E D A h22) h23 rfl g_ml_X12_226 hd_X11_selects (Nat.le_of_ble_eq_true rfl) (Nat.le_of_ble_eq_true rfl) hl.1 rfl (Nat.le_of_ble_eq_true rfl) dX12_writeRow_60 (fun H locs cells slots hw => ?_)
    refine lv_if_eq (tgt := 72) hx hb dX12_writeRow_63 (by decide) (fun c27 => ?_) (fun c27 => ?_)
    · replace hf := (if_pos c27).symm.trans hf
      exact X12_writeRow_72_W hC hQ hT hst hf hw (lv_sub hl [0] rfl)
    · replace hf := (if_neg c27).symm.trans hf
      refine lv_aload_n hx hb dX12_writeRow_66 rfl (lv_at hl 0 rfl) ?_
      refine lv_bipush (v := 42) hx hb dX12_writeRow_67 (by decide) ?_
      obtain ⟨_, h26, hf⟩ := ob_some hf
      obtain ⟨x24, h25, hf⟩ := ob_some hf
      refine gg_cVV (As := [.int (42 : Int32)]) hC hw (X12_putByte_M l E D A h25) h26 rfl g_ml_X12_328 hd_X12_putByte (Nat.le_of_ble_eq_true rfl) (Nat.le_of_ble_eq_true rfl) hl.1 rfl (Nat.le_of_ble_eq_true rfl) dX12_writeRow_69 (fun H locs cells slots hw => ?_)
      exact X12_writeRow_72_W hC hQ hT hst hf hw (lv_sub hl [0] rfl)
  · replace hf := (if_neg c32).symm.trans hf
    refine lv_iload_n hx hb dX12_writeRow_23 rfl (lv_at hl 2 rfl) ?_
    refine lv_if_le (tgt := 33) hx hb dX12_writeRow_24 (by decide) (fun c31 => ?_) (fun c31 => ?_)
    · replace hf := (if_pos c31).symm.trans hf
      exact X12_writeRow_33_W hC hQ hT hst h_12 hf hw (lv_sub hl [0, 1, 2] rfl)
    · replace hf := (if_neg c31).symm.trans hf
      refine lv_aload_n hx hb dX12_writeRow_27 rfl (lv_at hl 0 rfl) ?_
      refine lv_bipush (v := 32) hx hb dX12_writeRow_28 (by decide) ?_
      obtain ⟨_, h30, hf⟩ := ob_some hf
      obtain ⟨x28, h29, hf⟩ := ob_some hf
      refine gg_cVV (As := [.int (32 : Int32)]) hC hw (X12_putByte_M l E D A h29) h30 rfl g_ml_X12_328 hd_X12_putByte (Nat.le_of_ble_eq_true rfl) (Nat.le_of_ble_eq_true rfl) hl.1 rfl (Nat.le_of_ble_eq_true rfl) dX12_writeRow_30 (fun H locs cells slots hw => ?_)
      exact X12_writeRow_33_W hC hQ hT hst h_12 hf hw (lv_sub hl [0, 1, 2] rfl)
def X12_writeRow_12 (E : gE) : Nat → Nat → Int32 → Int32 → gS → Option ((Nat ⊕ Int32) × gS)
  | 0 => fun _ _ _ _ => none
  | n + 1 => X12_writeRow_12_s E (X12_writeRow_12 E n)
theorem X12_writeRow_12_W {res : ((Nat ⊕ Int32) × gS)} (hC : gC E D A p R s m args meth c cX12_writeRow 3 RX12 "writeRow" 7 111) (hQ : ∀ (r : Int32) (σ1 : gS), res = (.inr r, σ1) → gQI E D A p l e R s m args below meth c Q cX12_writeRow FieldType.int (r, σ1)) (hT : ∀ (k : Nat) (σ1 : gS), res = (.inl k, σ1) → gTN E D A p l e R s m args below meth c Q cX12_writeRow 3 RX12 k σ1) (hst : l.stackTraces = false) : ∀ (n : Nat), ∀ {l0 : Nat} {l1 : Int32} {l2 : Int32} {σ : gS} {H : Heap} {locs : List Loc} {cells slots : Nat} {ls : Array Slot}, X12_writeRow_12 E n l0 l1 l2 σ = some res → gW E D A s σ H locs → lv_has ls 3 [(0, .ref l0), (1, .int l1), (2, .int l2)] → W p l e R s m args below meth c H locs cells slots Q (F0 m 12 ls []) := by
  intro n
  induction n with
  | zero =>
    intros
    rename_i hf _ _
    exact absurd hf (fun h => by cases (show (none : Option ((Nat ⊕ Int32) × gS)) = some res from h))
  | succ n ih =>
    intros
    rename_i hf hw hl
    exact X12_writeRow_12_s_W hC hQ hT hst ih hf hw hl

def X12_writeRow (E : gE) (l0 : Nat) (l1 : Int32) (σ : gS) : Option ((Nat ⊕ Int32) × gS) :=
  ob (gcl σ l0 10) fun _ =>
  ob (X12_checkRow_f E l0 l1 σ) fun x33 =>
  gtry x33 (fun k9 σ9 => some (Sum.inl k9, σ9)) (fun _ σ36 =>
    ob (gpf E σ36 l0 10 7 (.int (0 : Int32))) fun σ38 =>
    X12_writeRow_12 E (gN E) l0 l1 (0 : Int32) σ38)
set_option maxHeartbeats 4000000 in
set_option maxRecDepth 100000 in
theorem X12_writeRow_W {σ : gS} {l0 : Nat} {l1 : Int32} {res : ((Nat ⊕ Int32) × gS)} {ls : Array Slot} (hC : gC E D A p R s m args meth c cX12_writeRow 3 RX12 "writeRow" 7 111) (hQ : ∀ (r : Int32) (σ1 : gS), res = (.inr r, σ1) → gQI E D A p l e R s m args below meth c Q cX12_writeRow FieldType.int (r, σ1)) (hT : ∀ (k : Nat) (σ1 : gS), res = (.inl k, σ1) → gTN E D A p l e R s m args below meth c Q cX12_writeRow 3 RX12 k σ1) (hst : l.stackTraces = false) (hf : X12_writeRow E l0 l1 σ = some res) (hw : gW E D A s σ H locs) (hl : lv_has ls 3 [(0, .ref l0), (1, .int l1)]) : W p l e R s m args below meth c H locs cells slots Q (F0 m 0 ls []) := by
  have hC0 := hC
  obtain ⟨hx, hb, hml, hown, hts, -⟩ := hC0
  unfold X12_writeRow at hf
  refine lv_aload_n hx hb dX12_writeRow_0 rfl (lv_at hl 0 rfl) ?_
  refine lv_iload_n hx hb dX12_writeRow_1 rfl (lv_at hl 1 rfl) ?_
  obtain ⟨_, h35, hf⟩ := ob_some hf
  obtain ⟨x33, h34, hf⟩ := ob_some hf
  refine gg_yVV (As := [.int l1]) hC hw (X12_checkRow_M l hst E D A h34) h35 rfl g_ml_X12_119 hd_X12_checkRow (Nat.le_of_ble_eq_true rfl) (Nat.le_of_ble_eq_true rfl) hl.1 rfl (Nat.le_of_ble_eq_true rfl) dX12_writeRow_2 (fun k9 σ9 he => ?_) (fun σ36 he H locs cells slots hw => ?_)
  · subst he
    replace hf := gtry_inl.symm.trans hf
    cases hf
    exact (hT _ _ rfl).2.2 _ _ _
  · subst he
    replace hf := gtry_inr.symm.trans hf
    refine lv_aload_n hx hb dX12_writeRow_5 rfl (lv_at hl 0 rfl) ?_
    refine lv_iconst (v := 0) hx hb dX12_writeRow_6 (by decide) ?_
    obtain ⟨σ38, h39, hf⟩ := ob_some hf
    refine p_fl_X12_324 hC hw h39 rfl rfl dX12_writeRow_7 (fun H locs hw => ?_)
    refine lv_iconst (v := 0) hx hb dX12_writeRow_10 (by decide) ?_
    refine lv_istore_n (lv' := [(2, .int (0 : Int32)), (0, .ref l0), (1, .int l1)]) hx hb dX12_writeRow_11 rfl hl (by decide) rfl (fun ls hl => ?_)
    exact X12_writeRow_12_W hC hQ hT hst (gN E) hf hw (lv_sub hl [1, 2, 0] rfl)

def X12_writeRow_f (E : gE) (l0 : Nat) (l1 : Int32) (σ : gS) : Option ((Nat ⊕ Int32) × gS) := X12_writeRow E l0 l1 σ
set_option maxRecDepth 100000 in
theorem X12_writeRow_M (l : Launch) (hst : l.stackTraces = false) (E : gE) (D : va_G) (A : Nat → Prop) {l0 : Nat} {l1 : Int32} {σ : gS} {res : ((Nat ⊕ Int32) × gS)} (hf : X12_writeRow_f E l0 l1 σ = some res) : gYI l E D A yX12_writeRow (Cond.code yX12_writeRow cX12_writeRow 3 (some FieldType.int)) 7 111 [.ref l0, .int l1] σ res := by
  refine gg_entYI (own := RX12) (nm := "writeRow") (ty := FieldType.int) hst (Nat.le_of_ble_eq_true rfl) (Nat.le_of_ble_eq_true rfl) (by decide +kernel) rfl rfl (Nat.le_of_ble_eq_true rfl) rfl ?_
  intro p e R s m args below meth c Q ls hC hw hQ hT hl
  have hl : lv_has ls 3 [(0, .ref l0), (1, .int l1)] := hl
  exact X12_writeRow_W hC hQ hT hst hf hw hl

def X12_undo (E : gE) (l0 : Nat) (σ : gS) : Option ((Nat ⊕ Int32) × gS) :=
  ob (gfR σ l0 10 3) fun x1 =>
  ob (gcl σ x1 4) fun _ =>
  ob (X5_size_f E σ x1) fun x3 =>
  if x3 = 0 then
    ob (gthr E σ) fun σ18 =>
    some (Sum.inl 2, σ18)
  else
    ob (gfR σ l0 10 3) fun x6 =>
    ob (gfR σ l0 10 0) fun x8 =>
    ob (gcl σ x6 4) fun _ =>
    ob (X5_takeBack_f E x6 x8 σ) fun x10 =>
    ob (gfR x10 l0 10 3) fun x13 =>
    ob (gcl x10 x13 4) fun _ =>
    ob (X5_size_f E x10 x13) fun x15 =>
    some (Sum.inr x15, x10)
set_option maxHeartbeats 4000000 in
set_option maxRecDepth 100000 in
theorem X12_undo_W {σ : gS} {l0 : Nat} {res : ((Nat ⊕ Int32) × gS)} {ls : Array Slot} (hC : gC E D A p R s m args meth c cX12_undo 1 RX12 "undo" 7 165) (hQ : ∀ (r : Int32) (σ1 : gS), res = (.inr r, σ1) → gQI E D A p l e R s m args below meth c Q cX12_undo FieldType.int (r, σ1)) (hT : ∀ (k : Nat) (σ1 : gS), res = (.inl k, σ1) → gTN E D A p l e R s m args below meth c Q cX12_undo 1 RX12 k σ1) (hst : l.stackTraces = false) (hf : X12_undo E l0 σ = some res) (hw : gW E D A s σ H locs) (hl : lv_has ls 1 [(0, .ref l0)]) : W p l e R s m args below meth c H locs cells slots Q (F0 m 0 ls []) := by
  have hC0 := hC
  obtain ⟨hx, hb, hml, hown, hts, -⟩ := hC0
  unfold X12_undo at hf
  refine lv_aload_n hx hb dX12_undo_0 rfl (lv_at hl 0 rfl) ?_
  obtain ⟨x1, h2, hf⟩ := ob_some hf
  refine rR_fl_X12_22 hC hw h2 dX12_undo_1 ?_
  obtain ⟨_, h5, hf⟩ := ob_some hf
  obtain ⟨x3, h4, hf⟩ := ob_some hf
  refine gg_cVI (As := []) hC hw (X5_size_M l E D A h4) h5 rfl g_ml_X12_336 hd_X5_size (Nat.le_of_ble_eq_true rfl) (Nat.le_of_ble_eq_true rfl) hl.1 rfl (Nat.le_of_ble_eq_true rfl) dX12_undo_4 (fun H locs cells slots hw => ?_)
  refine lv_if_ne (tgt := 21) hx hb dX12_undo_7 (by decide) (fun c20 => ?_) (fun c20 => ?_)
  · replace hf := (if_neg c20).symm.trans hf
    refine lv_aload_n hx hb dX12_undo_21 rfl (lv_at hl 0 rfl) ?_
    obtain ⟨x6, h7, hf⟩ := ob_some hf
    refine rR_fl_X12_22 hC hw h7 dX12_undo_22 ?_
    refine lv_aload_n hx hb dX12_undo_25 rfl (lv_at hl 0 rfl) ?_
    obtain ⟨x8, h9, hf⟩ := ob_some hf
    refine rR_fl_X12_10 hC hw h9 dX12_undo_26 ?_
    obtain ⟨_, h12, hf⟩ := ob_some hf
    obtain ⟨x10, h11, hf⟩ := ob_some hf
    refine gg_cVV (As := [.ref x8]) hC hw (X5_takeBack_M l E D A h11) h12 rfl g_ml_X12_339 hd_X5_takeBack (Nat.le_of_ble_eq_true rfl) (Nat.le_of_ble_eq_true rfl) hl.1 rfl (Nat.le_of_ble_eq_true rfl) dX12_undo_29 (fun H locs cells slots hw => ?_)
    refine lv_aload_n hx hb dX12_undo_32 rfl (lv_at hl 0 rfl) ?_
    obtain ⟨x13, h14, hf⟩ := ob_some hf
    refine rR_fl_X12_22 hC hw h14 dX12_undo_33 ?_
    obtain ⟨_, h17, hf⟩ := ob_some hf
    obtain ⟨x15, h16, hf⟩ := ob_some hf
    refine gg_cVI (As := []) hC hw (X5_size_M l E D A h16) h17 rfl g_ml_X12_336 hd_X5_size (Nat.le_of_ble_eq_true rfl) (Nat.le_of_ble_eq_true rfl) hl.1 rfl (Nat.le_of_ble_eq_true rfl) dX12_undo_36 (fun H locs cells slots hw => ?_)
    cases hf
    exact hQ _ _ rfl _ _ _ _ _ _ dX12_undo_39 rfl hw
  · replace hf := (if_pos c20).symm.trans hf
    obtain ⟨σ18, h19, hf⟩ := ob_some hf
    cases hf
    exact (hT _ _ rfl).2.1 _ _ _ _ 33 _ _ _ _ _ _ _ h19 hw hl.1 tw_2 rfl rfl rfl dX12_undo_10 dX12_undo_13 dX12_undo_14 dX12_undo_17 dX12_undo_20

def X12_undo_f (E : gE) (l0 : Nat) (σ : gS) : Option ((Nat ⊕ Int32) × gS) := X12_undo E l0 σ
set_option maxRecDepth 100000 in
theorem X12_undo_M (l : Launch) (hst : l.stackTraces = false) (E : gE) (D : va_G) (A : Nat → Prop) {l0 : Nat} {σ : gS} {res : ((Nat ⊕ Int32) × gS)} (hf : X12_undo_f E l0 σ = some res) : gYI l E D A yX12_undo (Cond.code yX12_undo cX12_undo 1 (some FieldType.int)) 7 165 [.ref l0] σ res := by
  refine gg_entYI (own := RX12) (nm := "undo") (ty := FieldType.int) hst (Nat.le_of_ble_eq_true rfl) (Nat.le_of_ble_eq_true rfl) (by decide +kernel) rfl rfl (Nat.le_of_ble_eq_true rfl) rfl ?_
  intro p e R s m args below meth c Q ls hC hw hQ hT hl
  have hl : lv_has ls 1 [(0, .ref l0)] := hl
  exact X12_undo_W hC hQ hT hst hf hw hl

def X12_addCondition (E : gE) (l0 : Nat) (l1 : Int32) (l2 : Int32) (l3 : Int32) (σ : gS) : Option ((Nat ⊕ Int32) × gS) :=
  ob (gcl σ l0 10) fun _ =>
  ob (X12_checkColumn_f E l0 l1 σ) fun x1 =>
  gtry x1 (fun k9 σ9 => some (Sum.inl k9, σ9)) (fun _ σ4 =>
    ob (gcl σ4 l0 10) fun _ =>
    ob (X12_checkValue_f E l0 l2 σ4) fun x6 =>
    gtry x6 (fun k9 σ9 => some (Sum.inl k9, σ9)) (fun _ σ9 =>
      ob (gfR σ9 l0 10 0) fun x11 =>
      ob (gcl σ9 x11 9) fun _ =>
      ob (X11_filter_f E σ9 x11) fun x13 =>
      ob (gcl σ9 x13 3) fun _ =>
      ob (X4_isFull_f E σ9 x13) fun x16 =>
      if x16 = 0 then
        ob (gfR σ9 l0 10 3) fun x19 =>
        ob (gfR σ9 l0 10 0) fun x21 =>
        ob (gcl σ9 x19 4) fun _ =>
        ob (X5_record_f E x19 x21 σ9) fun x23 =>
        ob (gfR x23 l0 10 0) fun x26 =>
        ob (gcl x23 x26 9) fun _ =>
        ob (X11_filter_f E x23 x26) fun x28 =>
        ob (gcl x23 x28 3) fun _ =>
        ob (X4_add_f E x28 l1 l2 l3 x23) fun x31 =>
        ob (gfR x31 l0 10 0) fun x34 =>
        ob (gcl x31 x34 9) fun _ =>
        ob (X11_selectedRows_f E x31 x34) fun x36 =>
        some (Sum.inr x36, x31)
      else
        ob (gthr E σ9) fun σ39 =>
        some (Sum.inl 2, σ39)))
set_option maxHeartbeats 4000000 in
set_option maxRecDepth 100000 in
theorem X12_addCondition_W {σ : gS} {l0 : Nat} {l1 : Int32} {l2 : Int32} {l3 : Int32} {res : ((Nat ⊕ Int32) × gS)} {ls : Array Slot} (hC : gC E D A p R s m args meth c cX12_addCondition 4 RX12 "addCondition" 7 165) (hQ : ∀ (r : Int32) (σ1 : gS), res = (.inr r, σ1) → gQI E D A p l e R s m args below meth c Q cX12_addCondition FieldType.int (r, σ1)) (hT : ∀ (k : Nat) (σ1 : gS), res = (.inl k, σ1) → gTN E D A p l e R s m args below meth c Q cX12_addCondition 4 RX12 k σ1) (hst : l.stackTraces = false) (hf : X12_addCondition E l0 l1 l2 l3 σ = some res) (hw : gW E D A s σ H locs) (hl : lv_has ls 4 [(0, .ref l0), (1, .int l1), (2, .int l2), (3, .int l3)]) : W p l e R s m args below meth c H locs cells slots Q (F0 m 0 ls []) := by
  have hC0 := hC
  obtain ⟨hx, hb, hml, hown, hts, -⟩ := hC0
  unfold X12_addCondition at hf
  refine lv_aload_n hx hb dX12_addCondition_0 rfl (lv_at hl 0 rfl) ?_
  refine lv_iload_n hx hb dX12_addCondition_1 rfl (lv_at hl 1 rfl) ?_
  obtain ⟨_, h3, hf⟩ := ob_some hf
  obtain ⟨x1, h2, hf⟩ := ob_some hf
  refine gg_yVV (As := [.int l1]) hC hw (X12_checkColumn_M l hst E D A h2) h3 rfl g_ml_X12_116 hd_X12_checkColumn (Nat.le_of_ble_eq_true rfl) (Nat.le_of_ble_eq_true rfl) hl.1 rfl (Nat.le_of_ble_eq_true rfl) dX12_addCondition_2 (fun k9 σ9 he => ?_) (fun σ4 he H locs cells slots hw => ?_)
  · subst he
    replace hf := gtry_inl.symm.trans hf
    cases hf
    exact (hT _ _ rfl).2.2 _ _ _
  · subst he
    replace hf := gtry_inr.symm.trans hf
    refine lv_aload_n hx hb dX12_addCondition_5 rfl (lv_at hl 0 rfl) ?_
    refine lv_iload_n hx hb dX12_addCondition_6 rfl (lv_at hl 2 rfl) ?_
    obtain ⟨_, h8, hf⟩ := ob_some hf
    obtain ⟨x6, h7, hf⟩ := ob_some hf
    refine gg_yVV (As := [.int l2]) hC hw (X12_checkValue_M l hst E D A h7) h8 rfl g_ml_X12_244 hd_X12_checkValue (Nat.le_of_ble_eq_true rfl) (Nat.le_of_ble_eq_true rfl) hl.1 rfl (Nat.le_of_ble_eq_true rfl) dX12_addCondition_7 (fun k9 σ9 he => ?_) (fun σ9 he H locs cells slots hw => ?_)
    · subst he
      replace hf := gtry_inl.symm.trans hf
      cases hf
      exact (hT _ _ rfl).2.2 _ _ _
    · subst he
      replace hf := gtry_inr.symm.trans hf
      refine lv_aload_n hx hb dX12_addCondition_10 rfl (lv_at hl 0 rfl) ?_
      obtain ⟨x11, h12, hf⟩ := ob_some hf
      refine rR_fl_X12_10 hC hw h12 dX12_addCondition_11 ?_
      obtain ⟨_, h15, hf⟩ := ob_some hf
      obtain ⟨x13, h14, hf⟩ := ob_some hf
      refine gg_cVR (As := []) hC hw (X11_filter_M l E D A h14) h15 rfl g_ml_X12_198 hd_X11_filter (Nat.le_of_ble_eq_true rfl) (Nat.le_of_ble_eq_true rfl) hl.1 rfl (Nat.le_of_ble_eq_true rfl) dX12_addCondition_14 (fun H locs cells slots hw => ?_)
      obtain ⟨_, h18, hf⟩ := ob_some hf
      obtain ⟨x16, h17, hf⟩ := ob_some hf
      refine gg_cVI (As := []) hC hw (X4_isFull_M l E D A h17) h18 rfl g_ml_X12_387 hd_X4_isFull (Nat.le_of_ble_eq_true rfl) (Nat.le_of_ble_eq_true rfl) hl.1 rfl (Nat.le_of_ble_eq_true rfl) dX12_addCondition_17 (fun H locs cells slots hw => ?_)
      refine lv_if_eq (tgt := 34) hx hb dX12_addCondition_20 (by decide) (fun c41 => ?_) (fun c41 => ?_)
      · replace hf := (if_pos c41).symm.trans hf
        refine lv_aload_n hx hb dX12_addCondition_34 rfl (lv_at hl 0 rfl) ?_
        obtain ⟨x19, h20, hf⟩ := ob_some hf
        refine rR_fl_X12_22 hC hw h20 dX12_addCondition_35 ?_
        refine lv_aload_n hx hb dX12_addCondition_38 rfl (lv_at hl 0 rfl) ?_
        obtain ⟨x21, h22, hf⟩ := ob_some hf
        refine rR_fl_X12_10 hC hw h22 dX12_addCondition_39 ?_
        obtain ⟨_, h25, hf⟩ := ob_some hf
        obtain ⟨x23, h24, hf⟩ := ob_some hf
        refine gg_cVV (As := [.ref x21]) hC hw (X5_record_M l E D A h24) h25 rfl g_ml_X12_275 hd_X5_record (Nat.le_of_ble_eq_true rfl) (Nat.le_of_ble_eq_true rfl) hl.1 rfl (Nat.le_of_ble_eq_true rfl) dX12_addCondition_42 (fun H locs cells slots hw => ?_)
        refine lv_aload_n hx hb dX12_addCondition_45 rfl (lv_at hl 0 rfl) ?_
        obtain ⟨x26, h27, hf⟩ := ob_some hf
        refine rR_fl_X12_10 hC hw h27 dX12_addCondition_46 ?_
        obtain ⟨_, h30, hf⟩ := ob_some hf
        obtain ⟨x28, h29, hf⟩ := ob_some hf
        refine gg_cVR (As := []) hC hw (X11_filter_M l E D A h29) h30 rfl g_ml_X12_198 hd_X11_filter (Nat.le_of_ble_eq_true rfl) (Nat.le_of_ble_eq_true rfl) hl.1 rfl (Nat.le_of_ble_eq_true rfl) dX12_addCondition_49 (fun H locs cells slots hw => ?_)
        refine lv_iload_n hx hb dX12_addCondition_52 rfl (lv_at hl 1 rfl) ?_
        refine lv_iload_n hx hb dX12_addCondition_53 rfl (lv_at hl 2 rfl) ?_
        refine lv_iload_n hx hb dX12_addCondition_54 rfl (lv_at hl 3 rfl) ?_
        obtain ⟨_, h33, hf⟩ := ob_some hf
        obtain ⟨x31, h32, hf⟩ := ob_some hf
        refine gg_cVV (As := [.int l1, .int l2, .int l3]) hC hw (X4_add_M l E D A h32) h33 rfl g_ml_X12_390 hd_X4_add (Nat.le_of_ble_eq_true rfl) (Nat.le_of_ble_eq_true rfl) hl.1 rfl (Nat.le_of_ble_eq_true rfl) dX12_addCondition_55 (fun H locs cells slots hw => ?_)
        refine lv_aload_n hx hb dX12_addCondition_58 rfl (lv_at hl 0 rfl) ?_
        obtain ⟨x34, h35, hf⟩ := ob_some hf
        refine rR_fl_X12_10 hC hw h35 dX12_addCondition_59 ?_
        obtain ⟨_, h38, hf⟩ := ob_some hf
        obtain ⟨x36, h37, hf⟩ := ob_some hf
        refine gg_cVI (As := []) hC hw (X11_selectedRows_M l E D A h37) h38 rfl g_ml_X12_229 hd_X11_selectedRows (Nat.le_of_ble_eq_true rfl) (Nat.le_of_ble_eq_true rfl) hl.1 rfl (Nat.le_of_ble_eq_true rfl) dX12_addCondition_62 (fun H locs cells slots hw => ?_)
        cases hf
        exact hQ _ _ rfl _ _ _ _ _ _ dX12_addCondition_65 rfl hw
      · replace hf := (if_neg c41).symm.trans hf
        obtain ⟨σ39, h40, hf⟩ := ob_some hf
        cases hf
        exact (hT _ _ rfl).2.1 _ _ _ _ 31 _ _ _ _ _ _ _ h40 hw hl.1 tw_2 rfl rfl rfl dX12_addCondition_23 dX12_addCondition_26 dX12_addCondition_27 dX12_addCondition_30 dX12_addCondition_33

def X12_addCondition_f (E : gE) (l0 : Nat) (l1 : Int32) (l2 : Int32) (l3 : Int32) (σ : gS) : Option ((Nat ⊕ Int32) × gS) := X12_addCondition E l0 l1 l2 l3 σ
set_option maxRecDepth 100000 in
theorem X12_addCondition_M (l : Launch) (hst : l.stackTraces = false) (E : gE) (D : va_G) (A : Nat → Prop) {l0 : Nat} {l1 : Int32} {l2 : Int32} {l3 : Int32} {σ : gS} {res : ((Nat ⊕ Int32) × gS)} (hf : X12_addCondition_f E l0 l1 l2 l3 σ = some res) : gYI l E D A yX12_addCondition (Cond.code yX12_addCondition cX12_addCondition 4 (some FieldType.int)) 7 165 [.ref l0, .int l1, .int l2, .int l3] σ res := by
  refine gg_entYI (own := RX12) (nm := "addCondition") (ty := FieldType.int) hst (Nat.le_of_ble_eq_true rfl) (Nat.le_of_ble_eq_true rfl) (by decide +kernel) rfl rfl (Nat.le_of_ble_eq_true rfl) rfl ?_
  intro p e R s m args below meth c Q ls hC hw hQ hT hl
  have hl : lv_has ls 4 [(0, .ref l0), (1, .int l1), (2, .int l2), (3, .int l3)] := hl
  exact X12_addCondition_W hC hQ hT hst hf hw hl

def X12_execute_117 (E : gE) (s0 : Int32) (s1 : Int32) (s2 : Nat) (σ : gS) : Option gS :=
  ob (gcl σ s2 10) fun _ =>
  ob (X12_sortRows_f E s2 s1 s0 σ) fun x1 =>
  some x1
set_option maxHeartbeats 4000000 in
set_option maxRecDepth 100000 in
theorem X12_execute_117_W {σ : gS} {s0 : Int32} {s1 : Int32} {s2 : Nat} {σz : gS} {ls : Array Slot} (hC : gC E D A p R s m args meth c cX12_execute 2 RX12 "execute" 7 168) (hQ : gQV E D A p l e R s m args below meth c Q cX12_execute σz) (hf : X12_execute_117 E s0 s1 s2 σ = some σz) (hw : gW E D A s σ H locs) (hl : lv_has ls 2 []) : W p l e R s m args below meth c H locs cells slots Q (F0 m 117 ls [.int s0, .int s1, .ref s2]) := by
  have hC0 := hC
  obtain ⟨hx, hb, hml, hown, hts, -⟩ := hC0
  unfold X12_execute_117 at hf
  obtain ⟨_, h3, hf⟩ := ob_some hf
  obtain ⟨x1, h2, hf⟩ := ob_some hf
  refine gg_cVV (As := [.int s1, .int s0]) hC hw (X12_sortRows_M l E D A h2) h3 rfl g_ml_X12_289 hd_X12_sortRows (Nat.le_of_ble_eq_true rfl) (Nat.le_of_ble_eq_true rfl) hl.1 rfl (Nat.le_of_ble_eq_true rfl) dX12_execute_117 (fun H locs cells slots hw => ?_)
  refine lv_goto (tgt := 234) hx hb dX12_execute_120 (by decide) ?_
  cases hf
  exact hQ _ _ _ _ _ _ dX12_execute_234 hw

def X12_execute (E : gE) (l0 : Nat) (l1 : Nat) (σ : gS) : Option gS :=
  ob (gfR σ l1 1 0) fun x4 =>
  ob (gxc E x4 101) fun _ =>
  ob (Jx29ce0_ordinal_8abf5_f E σ x4) fun x6 =>
  ob (graI E 0 σ (gst E 42) x6) fun x9 =>
  if x9 = (1 : Int32) then
    ob (gfR σ l0 10 0) fun x12 =>
    ob (gfR σ l1 1 5) fun x14 =>
    ob (gcl σ x12 9) fun _ =>
    ob (X11_appendRow_f E x12 x14 (0 : Int32) σ) fun x16 =>
    some x16
  else
    if x9 = (2 : Int32) then
      ob (gfR σ l0 10 0) fun x20 =>
      ob (gfI σ l1 1 1) fun x22 =>
      ob (gcl σ x20 9) fun _ =>
      ob (X11_column_f E σ x20 x22) fun x24 =>
      ob (gfI σ l1 1 2) fun x27 =>
      ob (gfI σ l1 1 3) fun x29 =>
      ob (gcl σ x24 0) fun _ =>
      ob (X1_put_f E x24 x27 x29 σ) fun x31 =>
      some x31
    else
      if x9 = (3 : Int32) then
        ob (gfR σ l0 10 0) fun x35 =>
        ob (gcl σ x35 9) fun _ =>
        ob (X11_filter_f E σ x35) fun x37 =>
        ob (gfI σ l1 1 1) fun x40 =>
        ob (gfI σ l1 1 3) fun x42 =>
        ob (gcl σ x37 3) fun _ =>
        ob (X4_add_f E x37 x40 x42 (-1 : Int32) σ) fun x44 =>
        some x44
      else
        if x9 = (4 : Int32) then
          ob (gfR σ l0 10 0) fun x48 =>
          ob (gcl σ x48 9) fun _ =>
          ob (X11_filter_f E σ x48) fun x50 =>
          ob (gfI σ l1 1 1) fun x53 =>
          ob (gfI σ l1 1 3) fun x55 =>
          ob (gcl σ x50 3) fun _ =>
          ob (X4_add_f E x50 x53 x55 (0 : Int32) σ) fun x57 =>
          some x57
        else
          if x9 = (5 : Int32) then
            ob (gfR σ l0 10 0) fun x61 =>
            ob (gcl σ x61 9) fun _ =>
            ob (X11_filter_f E σ x61) fun x63 =>
            ob (gfI σ l1 1 1) fun x66 =>
            ob (gfI σ l1 1 3) fun x68 =>
            ob (gcl σ x63 3) fun _ =>
            ob (X4_add_f E x63 x66 x68 (1 : Int32) σ) fun x70 =>
            some x70
          else
            if x9 = (6 : Int32) then
              ob (gfR σ l0 10 0) fun x74 =>
              ob (gcl σ x74 9) fun _ =>
              ob (X11_filter_f E σ x74) fun x76 =>
              ob (gfI σ l1 1 2) fun x79 =>
              ob (gcl σ x76 3) fun _ =>
              ob (X4_remove_f E x76 x79 σ) fun x81 =>
              some x81
            else
              if x9 = (7 : Int32) then
                ob (gfI σ l1 1 1) fun x85 =>
                ob (gfI σ l1 1 4) fun x87 =>
                if x87 = 0 then
                  X12_execute_117 E (1 : Int32) x85 l0 σ
                else
                  X12_execute_117 E (0 : Int32) x85 l0 σ
              else
                if x9 = (8 : Int32) then
                  ob (gfR σ l0 10 0) fun x91 =>
                  ob (gcl σ x91 9) fun _ =>
                  ob (X11_deleteSelectedRows_f E x91 σ) fun x93 =>
                  some x93.2
                else
                  if x9 = (9 : Int32) then
                    ob (gfR σ l0 10 0) fun x97 =>
                    ob (gfI σ l1 1 1) fun x99 =>
                    ob (gcl σ x97 9) fun _ =>
                    ob (X11_column_f E σ x97 x99) fun x101 =>
                    ob (gcl σ x101 0) fun _ =>
                    ob (X1_dropStale_f E x101 σ) fun x104 =>
                    some x104
                  else
                    some σ
set_option maxHeartbeats 4000000 in
set_option maxRecDepth 100000 in
theorem X12_execute_W {σ : gS} {l0 : Nat} {l1 : Nat} {σz : gS} {ls : Array Slot} (hC : gC E D A p R s m args meth c cX12_execute 2 RX12 "execute" 7 168) (hQ : gQV E D A p l e R s m args below meth c Q cX12_execute σz) (hf : X12_execute E l0 l1 σ = some σz) (hw : gW E D A s σ H locs) (hl : lv_has ls 2 [(0, .ref l0), (1, .ref l1)]) : W p l e R s m args below meth c H locs cells slots Q (F0 m 0 ls []) := by
  have hC0 := hC
  obtain ⟨hx, hb, hml, hown, hts, -⟩ := hC0
  unfold X12_execute at hf
  refine gg_gets hC hw (k := 2) rfl fl_X12_398 dX12_execute_0 ?_
  refine lv_aload_n hx hb dX12_execute_3 rfl (lv_at hl 1 rfl) ?_
  obtain ⟨x4, h5, hf⟩ := ob_some hf
  refine rR_fn_X12_403 hC hw h5 dX12_execute_4 ?_
  obtain ⟨_, h8, hf⟩ := ob_some hf
  obtain ⟨x6, h7, hf⟩ := ob_some hf
  refine gg_cUI (As := []) hC hw (Jx29ce0_ordinal_8abf5_M l E D A h7) h8 rfl uo_X12_409 rfl hd_ord (Nat.le_of_ble_eq_true rfl) (Nat.le_of_ble_eq_true rfl) hl.1 rfl (Nat.le_of_ble_eq_true rfl) dX12_execute_7 (fun H locs cells slots hw => ?_)
  obtain ⟨x9, h10, hf⟩ := ob_some hf
  refine gg_aldI hC hw h10 dX12_execute_10 ?_
  by_cases c11 : x9 = (1 : Int32)
  · replace hf := (if_pos c11).symm.trans hf
    refine lv_tableIn (off := 49) (tgt := 60) hx hb dX12_execute_11 (by rw [c11]; decide) (by rw [c11]; decide) (by rw [c11]; rfl) (by decide) ?_
    refine lv_aload_n hx hb dX12_execute_60 rfl (lv_at hl 0 rfl) ?_
    obtain ⟨x12, h13, hf⟩ := ob_some hf
    refine rR_fl_X12_10 hC hw h13 dX12_execute_61 ?_
    refine lv_aload_n hx hb dX12_execute_64 rfl (lv_at hl 1 rfl) ?_
    obtain ⟨x14, h15, hf⟩ := ob_some hf
    refine rR_fn_X12_417 hC hw h15 dX12_execute_65 ?_
    refine lv_iconst (v := 0) hx hb dX12_execute_68 (by decide) ?_
    obtain ⟨_, h18, hf⟩ := ob_some hf
    obtain ⟨x16, h17, hf⟩ := ob_some hf
    refine gg_cVV (As := [.ref x14, .int (0 : Int32)]) hC hw (X11_appendRow_M l E D A h17) h18 rfl g_ml_X12_279 hd_X11_appendRow (Nat.le_of_ble_eq_true rfl) (Nat.le_of_ble_eq_true rfl) hl.1 rfl (Nat.le_of_ble_eq_true rfl) dX12_execute_69 (fun H locs cells slots hw => ?_)
    refine lv_goto (tgt := 234) hx hb dX12_execute_72 (by decide) ?_
    cases hf
    exact hQ _ _ _ _ _ _ dX12_execute_234 hw
  · replace hf := (if_neg c11).symm.trans hf
    by_cases c19 : x9 = (2 : Int32)
    · replace hf := (if_pos c19).symm.trans hf
      refine lv_tableIn (off := 64) (tgt := 75) hx hb dX12_execute_11 (by rw [c19]; decide) (by rw [c19]; decide) (by rw [c19]; rfl) (by decide) ?_
      refine lv_aload_n hx hb dX12_execute_75 rfl (lv_at hl 0 rfl) ?_
      obtain ⟨x20, h21, hf⟩ := ob_some hf
      refine rR_fl_X12_10 hC hw h21 dX12_execute_76 ?_
      refine lv_aload_n hx hb dX12_execute_79 rfl (lv_at hl 1 rfl) ?_
      obtain ⟨x22, h23, hf⟩ := ob_some hf
      refine rI_fn_X12_419 hC hw h23 dX12_execute_80 ?_
      obtain ⟨_, h26, hf⟩ := ob_some hf
      obtain ⟨x24, h25, hf⟩ := ob_some hf
      refine gg_cVR (As := [.int x22]) hC hw (X11_column_M l E D A h25) h26 rfl g_ml_X12_122 hd_X11_column (Nat.le_of_ble_eq_true rfl) (Nat.le_of_ble_eq_true rfl) hl.1 rfl (Nat.le_of_ble_eq_true rfl) dX12_execute_83 (fun H locs cells slots hw => ?_)
      refine lv_aload_n hx hb dX12_execute_86 rfl (lv_at hl 1 rfl) ?_
      obtain ⟨x27, h28, hf⟩ := ob_some hf
      refine rI_fn_X12_414 hC hw h28 dX12_execute_87 ?_
      refine lv_aload_n hx hb dX12_execute_90 rfl (lv_at hl 1 rfl) ?_
      obtain ⟨x29, h30, hf⟩ := ob_some hf
      refine rI_fn_X12_421 hC hw h30 dX12_execute_91 ?_
      obtain ⟨_, h33, hf⟩ := ob_some hf
      obtain ⟨x31, h32, hf⟩ := ob_some hf
      refine gg_cVV (As := [.int x27, .int x29]) hC hw (X1_put_M l E D A h32) h33 rfl g_ml_X12_286 hd_X1_put (Nat.le_of_ble_eq_true rfl) (Nat.le_of_ble_eq_true rfl) hl.1 rfl (Nat.le_of_ble_eq_true rfl) dX12_execute_94 (fun H locs cells slots hw => ?_)
      refine lv_goto (tgt := 234) hx hb dX12_execute_97 (by decide) ?_
      cases hf
      exact hQ _ _ _ _ _ _ dX12_execute_234 hw
    · replace hf := (if_neg c19).symm.trans hf
      by_cases c34 : x9 = (3 : Int32)
      · replace hf := (if_pos c34).symm.trans hf
        refine lv_tableIn (off := 112) (tgt := 123) hx hb dX12_execute_11 (by rw [c34]; decide) (by rw [c34]; decide) (by rw [c34]; rfl) (by decide) ?_
        refine lv_aload_n hx hb dX12_execute_123 rfl (lv_at hl 0 rfl) ?_
        obtain ⟨x35, h36, hf⟩ := ob_some hf
        refine rR_fl_X12_10 hC hw h36 dX12_execute_124 ?_
        obtain ⟨_, h39, hf⟩ := ob_some hf
        obtain ⟨x37, h38, hf⟩ := ob_some hf
        refine gg_cVR (As := []) hC hw (X11_filter_M l E D A h38) h39 rfl g_ml_X12_198 hd_X11_filter (Nat.le_of_ble_eq_true rfl) (Nat.le_of_ble_eq_true rfl) hl.1 rfl (Nat.le_of_ble_eq_true rfl) dX12_execute_127 (fun H locs cells slots hw => ?_)
        refine lv_aload_n hx hb dX12_execute_130 rfl (lv_at hl 1 rfl) ?_
        obtain ⟨x40, h41, hf⟩ := ob_some hf
        refine rI_fn_X12_419 hC hw h41 dX12_execute_131 ?_
        refine lv_aload_n hx hb dX12_execute_134 rfl (lv_at hl 1 rfl) ?_
        obtain ⟨x42, h43, hf⟩ := ob_some hf
        refine rI_fn_X12_421 hC hw h43 dX12_execute_135 ?_
        refine lv_iconst (v := -1) hx hb dX12_execute_138 (by decide) ?_
        obtain ⟨_, h46, hf⟩ := ob_some hf
        obtain ⟨x44, h45, hf⟩ := ob_some hf
        refine gg_cVV (As := [.int x40, .int x42, .int (-1 : Int32)]) hC hw (X4_add_M l E D A h45) h46 rfl g_ml_X12_390 hd_X4_add (Nat.le_of_ble_eq_true rfl) (Nat.le_of_ble_eq_true rfl) hl.1 rfl (Nat.le_of_ble_eq_true rfl) dX12_execute_139 (fun H locs cells slots hw => ?_)
        refine lv_goto (tgt := 234) hx hb dX12_execute_142 (by decide) ?_
        cases hf
        exact hQ _ _ _ _ _ _ dX12_execute_234 hw
      · replace hf := (if_neg c34).symm.trans hf
        by_cases c47 : x9 = (4 : Int32)
        · replace hf := (if_pos c47).symm.trans hf
          refine lv_tableIn (off := 134) (tgt := 145) hx hb dX12_execute_11 (by rw [c47]; decide) (by rw [c47]; decide) (by rw [c47]; rfl) (by decide) ?_
          refine lv_aload_n hx hb dX12_execute_145 rfl (lv_at hl 0 rfl) ?_
          obtain ⟨x48, h49, hf⟩ := ob_some hf
          refine rR_fl_X12_10 hC hw h49 dX12_execute_146 ?_
          obtain ⟨_, h52, hf⟩ := ob_some hf
          obtain ⟨x50, h51, hf⟩ := ob_some hf
          refine gg_cVR (As := []) hC hw (X11_filter_M l E D A h51) h52 rfl g_ml_X12_198 hd_X11_filter (Nat.le_of_ble_eq_true rfl) (Nat.le_of_ble_eq_true rfl) hl.1 rfl (Nat.le_of_ble_eq_true rfl) dX12_execute_149 (fun H locs cells slots hw => ?_)
          refine lv_aload_n hx hb dX12_execute_152 rfl (lv_at hl 1 rfl) ?_
          obtain ⟨x53, h54, hf⟩ := ob_some hf
          refine rI_fn_X12_419 hC hw h54 dX12_execute_153 ?_
          refine lv_aload_n hx hb dX12_execute_156 rfl (lv_at hl 1 rfl) ?_
          obtain ⟨x55, h56, hf⟩ := ob_some hf
          refine rI_fn_X12_421 hC hw h56 dX12_execute_157 ?_
          refine lv_iconst (v := 0) hx hb dX12_execute_160 (by decide) ?_
          obtain ⟨_, h59, hf⟩ := ob_some hf
          obtain ⟨x57, h58, hf⟩ := ob_some hf
          refine gg_cVV (As := [.int x53, .int x55, .int (0 : Int32)]) hC hw (X4_add_M l E D A h58) h59 rfl g_ml_X12_390 hd_X4_add (Nat.le_of_ble_eq_true rfl) (Nat.le_of_ble_eq_true rfl) hl.1 rfl (Nat.le_of_ble_eq_true rfl) dX12_execute_161 (fun H locs cells slots hw => ?_)
          refine lv_goto (tgt := 234) hx hb dX12_execute_164 (by decide) ?_
          cases hf
          exact hQ _ _ _ _ _ _ dX12_execute_234 hw
        · replace hf := (if_neg c47).symm.trans hf
          by_cases c60 : x9 = (5 : Int32)
          · replace hf := (if_pos c60).symm.trans hf
            refine lv_tableIn (off := 156) (tgt := 167) hx hb dX12_execute_11 (by rw [c60]; decide) (by rw [c60]; decide) (by rw [c60]; rfl) (by decide) ?_
            refine lv_aload_n hx hb dX12_execute_167 rfl (lv_at hl 0 rfl) ?_
            obtain ⟨x61, h62, hf⟩ := ob_some hf
            refine rR_fl_X12_10 hC hw h62 dX12_execute_168 ?_
            obtain ⟨_, h65, hf⟩ := ob_some hf
            obtain ⟨x63, h64, hf⟩ := ob_some hf
            refine gg_cVR (As := []) hC hw (X11_filter_M l E D A h64) h65 rfl g_ml_X12_198 hd_X11_filter (Nat.le_of_ble_eq_true rfl) (Nat.le_of_ble_eq_true rfl) hl.1 rfl (Nat.le_of_ble_eq_true rfl) dX12_execute_171 (fun H locs cells slots hw => ?_)
            refine lv_aload_n hx hb dX12_execute_174 rfl (lv_at hl 1 rfl) ?_
            obtain ⟨x66, h67, hf⟩ := ob_some hf
            refine rI_fn_X12_419 hC hw h67 dX12_execute_175 ?_
            refine lv_aload_n hx hb dX12_execute_178 rfl (lv_at hl 1 rfl) ?_
            obtain ⟨x68, h69, hf⟩ := ob_some hf
            refine rI_fn_X12_421 hC hw h69 dX12_execute_179 ?_
            refine lv_iconst (v := 1) hx hb dX12_execute_182 (by decide) ?_
            obtain ⟨_, h72, hf⟩ := ob_some hf
            obtain ⟨x70, h71, hf⟩ := ob_some hf
            refine gg_cVV (As := [.int x66, .int x68, .int (1 : Int32)]) hC hw (X4_add_M l E D A h71) h72 rfl g_ml_X12_390 hd_X4_add (Nat.le_of_ble_eq_true rfl) (Nat.le_of_ble_eq_true rfl) hl.1 rfl (Nat.le_of_ble_eq_true rfl) dX12_execute_183 (fun H locs cells slots hw => ?_)
            refine lv_goto (tgt := 234) hx hb dX12_execute_186 (by decide) ?_
            cases hf
            exact hQ _ _ _ _ _ _ dX12_execute_234 hw
          · replace hf := (if_neg c60).symm.trans hf
            by_cases c73 : x9 = (6 : Int32)
            · replace hf := (if_pos c73).symm.trans hf
              refine lv_tableIn (off := 178) (tgt := 189) hx hb dX12_execute_11 (by rw [c73]; decide) (by rw [c73]; decide) (by rw [c73]; rfl) (by decide) ?_
              refine lv_aload_n hx hb dX12_execute_189 rfl (lv_at hl 0 rfl) ?_
              obtain ⟨x74, h75, hf⟩ := ob_some hf
              refine rR_fl_X12_10 hC hw h75 dX12_execute_190 ?_
              obtain ⟨_, h78, hf⟩ := ob_some hf
              obtain ⟨x76, h77, hf⟩ := ob_some hf
              refine gg_cVR (As := []) hC hw (X11_filter_M l E D A h77) h78 rfl g_ml_X12_198 hd_X11_filter (Nat.le_of_ble_eq_true rfl) (Nat.le_of_ble_eq_true rfl) hl.1 rfl (Nat.le_of_ble_eq_true rfl) dX12_execute_193 (fun H locs cells slots hw => ?_)
              refine lv_aload_n hx hb dX12_execute_196 rfl (lv_at hl 1 rfl) ?_
              obtain ⟨x79, h80, hf⟩ := ob_some hf
              refine rI_fn_X12_414 hC hw h80 dX12_execute_197 ?_
              obtain ⟨_, h83, hf⟩ := ob_some hf
              obtain ⟨x81, h82, hf⟩ := ob_some hf
              refine gg_cVV (As := [.int x79]) hC hw (X4_remove_M l E D A h82) h83 rfl g_ml_X12_297 hd_X4_remove (Nat.le_of_ble_eq_true rfl) (Nat.le_of_ble_eq_true rfl) hl.1 rfl (Nat.le_of_ble_eq_true rfl) dX12_execute_200 (fun H locs cells slots hw => ?_)
              refine lv_goto (tgt := 234) hx hb dX12_execute_203 (by decide) ?_
              cases hf
              exact hQ _ _ _ _ _ _ dX12_execute_234 hw
            · replace hf := (if_neg c73).symm.trans hf
              by_cases c84 : x9 = (7 : Int32)
              · replace hf := (if_pos c84).symm.trans hf
                refine lv_tableIn (off := 89) (tgt := 100) hx hb dX12_execute_11 (by rw [c84]; decide) (by rw [c84]; decide) (by rw [c84]; rfl) (by decide) ?_
                refine lv_aload_n hx hb dX12_execute_100 rfl (lv_at hl 0 rfl) ?_
                refine lv_aload_n hx hb dX12_execute_101 rfl (lv_at hl 1 rfl) ?_
                obtain ⟨x85, h86, hf⟩ := ob_some hf
                refine rI_fn_X12_419 hC hw h86 dX12_execute_102 ?_
                refine lv_aload_n hx hb dX12_execute_105 rfl (lv_at hl 1 rfl) ?_
                obtain ⟨x87, h88, hf⟩ := ob_some hf
                refine rI_fn_X12_424 hC hw h88 dX12_execute_106 ?_
                refine lv_if_ne (tgt := 116) hx hb dX12_execute_109 (by decide) (fun c89 => ?_) (fun c89 => ?_)
                · replace hf := (if_neg c89).symm.trans hf
                  refine lv_iconst (v := 0) hx hb dX12_execute_116 (by decide) ?_
                  exact X12_execute_117_W hC hQ hf hw (lv_sub hl [] rfl)
                · replace hf := (if_pos c89).symm.trans hf
                  refine lv_iconst (v := 1) hx hb dX12_execute_112 (by decide) ?_
                  refine lv_goto (tgt := 117) hx hb dX12_execute_113 (by decide) ?_
                  exact X12_execute_117_W hC hQ hf hw (lv_sub hl [] rfl)
              · replace hf := (if_neg c84).symm.trans hf
                by_cases c90 : x9 = (8 : Int32)
                · replace hf := (if_pos c90).symm.trans hf
                  refine lv_tableIn (off := 195) (tgt := 206) hx hb dX12_execute_11 (by rw [c90]; decide) (by rw [c90]; decide) (by rw [c90]; rfl) (by decide) ?_
                  refine lv_aload_n hx hb dX12_execute_206 rfl (lv_at hl 0 rfl) ?_
                  obtain ⟨x91, h92, hf⟩ := ob_some hf
                  refine rR_fl_X12_10 hC hw h92 dX12_execute_207 ?_
                  obtain ⟨_, h95, hf⟩ := ob_some hf
                  obtain ⟨x93, h94, hf⟩ := ob_some hf
                  refine gg_cVI (As := []) hC hw (X11_deleteSelectedRows_M l E D A h94) h95 rfl g_ml_X12_300 hd_X11_deleteSelectedRows (Nat.le_of_ble_eq_true rfl) (Nat.le_of_ble_eq_true rfl) hl.1 rfl (Nat.le_of_ble_eq_true rfl) dX12_execute_210 (fun H locs cells slots hw => ?_)
                  refine lv_pop hx hb dX12_execute_213 rfl ?_
                  refine lv_goto (tgt := 234) hx hb dX12_execute_214 (by decide) ?_
                  cases hf
                  exact hQ _ _ _ _ _ _ dX12_execute_234 hw
                · replace hf := (if_neg c90).symm.trans hf
                  by_cases c96 : x9 = (9 : Int32)
                  · replace hf := (if_pos c96).symm.trans hf
                    refine lv_tableIn (off := 206) (tgt := 217) hx hb dX12_execute_11 (by rw [c96]; decide) (by rw [c96]; decide) (by rw [c96]; rfl) (by decide) ?_
                    refine lv_aload_n hx hb dX12_execute_217 rfl (lv_at hl 0 rfl) ?_
                    obtain ⟨x97, h98, hf⟩ := ob_some hf
                    refine rR_fl_X12_10 hC hw h98 dX12_execute_218 ?_
                    refine lv_aload_n hx hb dX12_execute_221 rfl (lv_at hl 1 rfl) ?_
                    obtain ⟨x99, h100, hf⟩ := ob_some hf
                    refine rI_fn_X12_419 hC hw h100 dX12_execute_222 ?_
                    obtain ⟨_, h103, hf⟩ := ob_some hf
                    obtain ⟨x101, h102, hf⟩ := ob_some hf
                    refine gg_cVR (As := [.int x99]) hC hw (X11_column_M l E D A h102) h103 rfl g_ml_X12_122 hd_X11_column (Nat.le_of_ble_eq_true rfl) (Nat.le_of_ble_eq_true rfl) hl.1 rfl (Nat.le_of_ble_eq_true rfl) dX12_execute_225 (fun H locs cells slots hw => ?_)
                    obtain ⟨_, h106, hf⟩ := ob_some hf
                    obtain ⟨x104, h105, hf⟩ := ob_some hf
                    refine gg_cVV (As := []) hC hw (X1_dropStale_M l E D A h105) h106 rfl g_ml_X12_303 hd_X1_dropStale (Nat.le_of_ble_eq_true rfl) (Nat.le_of_ble_eq_true rfl) hl.1 rfl (Nat.le_of_ble_eq_true rfl) dX12_execute_228 (fun H locs cells slots hw => ?_)
                    refine lv_goto (tgt := 234) hx hb dX12_execute_231 (by decide) ?_
                    cases hf
                    exact hQ _ _ _ _ _ _ dX12_execute_234 hw
                  · replace hf := (if_neg c96).symm.trans hf
                    refine lv_tableOut (tgt := 234) hx hb dX12_execute_11 (gtab [1, 2, 3, 4, 5, 6, 7, 8, 9] (by decide) (by decide) (gvc c11 (gvc c19 (gvc c34 (gvc c47 (gvc c60 (gvc c73 (gvc c84 (gvc c90 (gvc c96 gvn)))))))))) (by decide) ?_
                    cases hf
                    exact hQ _ _ _ _ _ _ dX12_execute_234 hw

def X12_execute_f (E : gE) (l0 : Nat) (l1 : Nat) (σ : gS) : Option gS := X12_execute E l0 l1 σ
set_option maxRecDepth 100000 in
theorem X12_execute_M (l : Launch) (E : gE) (D : va_G) (A : Nat → Prop) {l0 : Nat} {l1 : Nat} {σ : gS} {σz : gS} (hf : X12_execute_f E l0 l1 σ = some σz) : gCV l E D A yX12_execute cX12_execute 2 7 168 none [.ref l0, .ref l1] σ σz := by
  refine gg_entV (own := RX12) (nm := "execute") (by decide +kernel) rfl rfl (Nat.le_of_ble_eq_true rfl) rfl ?_
  intro p e R s m args below meth c Q ls hC hw hQ hl
  have hl : lv_has ls 2 [(0, .ref l0), (1, .ref l1)] := hl
  exact X12_execute_W hC hQ hf hw hl

def X12_init (E : gE) (l0 : Nat) (σ : gS) : Option gS :=
  ob (gnew E σ 9 [.null, .int 0, .null]) fun q1 =>
  ob (X11_init_f E q1.1 q1.2) fun x3 =>
  ob (gpf E x3 l0 10 0 (.ref q1.1)) fun σ5 =>
  ob (gnew E σ5 9 [.null, .int 0, .null]) fun q7 =>
  ob (X11_init_f E q7.1 q7.2) fun x9 =>
  ob (gpf E x9 l0 10 1 (.ref q7.1)) fun σ11 =>
  ob (gnew E σ11 4 [.null, .int 0, .int 0]) fun q13 =>
  ob (X5_init_f E q13.1 q13.2) fun x15 =>
  ob (gpf E x15 l0 10 3 (.ref q13.1)) fun σ17 =>
  ob (gnew E σ17 5 [.null, .int 0, .int 0, .int 0, .int 0, .int 0, .int 0]) fun q19 =>
  ob (X6_init_f E q19.1 q19.2) fun x21 =>
  ob (gpf E x21 l0 10 4 (.ref q19.1)) fun σ23 =>
  ob (gnew E σ23 7 [.null, .int 0, .int 0, .int 0, .int 0, .int 0, .null, .null, .int 0]) fun q25 =>
  ob (gfR q25.2 l0 10 4) fun x27 =>
  ob (X9_init_f E q25.1 x27 q25.2) fun x29 =>
  ob (gpf E x29 l0 10 5 (.ref q25.1)) fun σ31 =>
  ob (gnaB E σ31 (36 : Int32)) fun q33 =>
  ob (gpf E q33.2 l0 10 6 (.ref q33.1)) fun σ35 =>
  ob (gnew E σ35 8 [.null, .null, .int 0]) fun q37 =>
  ob (X10_init_f E q37.1 q37.2) fun x39 =>
  ob (gpf E x39 l0 10 8 (.ref q37.1)) fun σ41 =>
  ob (gnew E σ41 2 [.null, .int 0]) fun q43 =>
  ob (X3_init_f E q43.1 q43.2) fun x45 =>
  ob (gpf E x45 l0 10 9 (.ref q43.1)) fun σ47 =>
  ob (gnew E σ47 6 [.null, .int 0]) fun q49 =>
  ob (X8_init_f E q49.1 q49.2) fun x51 =>
  ob (gpf E x51 l0 10 10 (.ref q49.1)) fun σ53 =>
  ob (gfR σ53 l0 10 0) fun x55 =>
  ob (gcl σ53 x55 9) fun _ =>
  ob (X11_replace_f E x55 (3 : Int32) (6 : Int32) (gst E 40) σ53) fun x57 =>
  some x57
set_option maxHeartbeats 4000000 in
set_option maxRecDepth 100000 in
theorem X12_init_W {σ : gS} {l0 : Nat} {σz : gS} {ls : Array Slot} (hC : gC E D A p R s m args meth c cX12_init 1 RX12 "<init>" 8 192) (hQ : gQV E D A p l e R s m args below meth c Q cX12_init σz) (hf : X12_init E l0 σ = some σz) (hw : gW E D A s σ H locs) (hl : lv_has ls 1 [(0, .ref l0)]) : W p l e R s m args below meth c H locs cells slots Q (F0 m 0 ls []) := by
  have hC0 := hC
  obtain ⟨hx, hb, hml, hown, hts, -⟩ := hC0
  unfold X12_init at hf
  refine lv_aload_n hx hb dX12_init_0 rfl (lv_at hl 0 rfl) ?_
  refine gg_obj hC rfl (hts _ ml_X12_1) hl.1 (Nat.le_of_ble_eq_true rfl) dX12_init_1 (Nat.le_of_ble_eq_true rfl) (Nat.le_of_ble_eq_true rfl) ?_
  refine lv_aload_n hx hb dX12_init_4 rfl (lv_at hl 0 rfl) ?_
  obtain ⟨q1, h2, hf⟩ := ob_some hf
  refine n_cl_X12_7 hC hw h2 dX12_init_5 (fun H locs cells slots hw => ?_)
  refine lv_dup hx hb dX12_init_8 rfl ?_
  obtain ⟨x3, h4, hf⟩ := ob_some hf
  refine gg_cIV (rt := none) (As := []) hC hw (X11_init_M l E D A h4) co_X11_init in_X11 ml_X12_9 im_X11_init rfl hd_X11_init.2 (Nat.le_of_ble_eq_true rfl) (Nat.le_of_ble_eq_true rfl) hl.1 rfl (Nat.le_of_ble_eq_true rfl) dX12_init_9 (fun H locs cells slots hw => ?_)
  obtain ⟨σ5, h6, hf⟩ := ob_some hf
  refine pF_fl_X12_10 hC hw h6 rfl rfl dX12_init_12 (fun H locs hw => ?_)
  refine lv_aload_n hx hb dX12_init_15 rfl (lv_at hl 0 rfl) ?_
  obtain ⟨q7, h8, hf⟩ := ob_some hf
  refine n_cl_X12_7 hC hw h8 dX12_init_16 (fun H locs cells slots hw => ?_)
  refine lv_dup hx hb dX12_init_19 rfl ?_
  obtain ⟨x9, h10, hf⟩ := ob_some hf
  refine gg_cIV (rt := none) (As := []) hC hw (X11_init_M l E D A h10) co_X11_init in_X11 ml_X12_9 im_X11_init rfl hd_X11_init.2 (Nat.le_of_ble_eq_true rfl) (Nat.le_of_ble_eq_true rfl) hl.1 rfl (Nat.le_of_ble_eq_true rfl) dX12_init_20 (fun H locs cells slots hw => ?_)
  obtain ⟨σ11, h12, hf⟩ := ob_some hf
  refine pF_fl_X12_16 hC hw h12 rfl rfl dX12_init_23 (fun H locs hw => ?_)
  refine lv_aload_n hx hb dX12_init_26 rfl (lv_at hl 0 rfl) ?_
  obtain ⟨q13, h14, hf⟩ := ob_some hf
  refine n_cl_X12_19 hC hw h14 dX12_init_27 (fun H locs cells slots hw => ?_)
  refine lv_dup hx hb dX12_init_30 rfl ?_
  obtain ⟨x15, h16, hf⟩ := ob_some hf
  refine gg_cIV (rt := none) (As := []) hC hw (X5_init_M l E D A h16) co_X5_init in_X5 ml_X12_21 im_X5_init rfl hd_X5_init.2 (Nat.le_of_ble_eq_true rfl) (Nat.le_of_ble_eq_true rfl) hl.1 rfl (Nat.le_of_ble_eq_true rfl) dX12_init_31 (fun H locs cells slots hw => ?_)
  obtain ⟨σ17, h18, hf⟩ := ob_some hf
  refine pF_fl_X12_22 hC hw h18 rfl rfl dX12_init_34 (fun H locs hw => ?_)
  refine lv_aload_n hx hb dX12_init_37 rfl (lv_at hl 0 rfl) ?_
  obtain ⟨q19, h20, hf⟩ := ob_some hf
  refine n_cl_X12_26 hC hw h20 dX12_init_38 (fun H locs cells slots hw => ?_)
  refine lv_dup hx hb dX12_init_41 rfl ?_
  obtain ⟨x21, h22, hf⟩ := ob_some hf
  refine gg_cNV (As := []) hC hw (X6_init_M l E D A h22) co_X6_init in_X6 mn_X12_28 im_X6_init rfl hd_X6_init.2 (Nat.le_of_ble_eq_true rfl) (Nat.le_of_ble_eq_true rfl) hl.1 rfl (Nat.le_of_ble_eq_true rfl) dX12_init_42 (fun H locs cells slots hw => ?_)
  obtain ⟨σ23, h24, hf⟩ := ob_some hf
  refine pF_fl_X12_29 hC hw h24 rfl rfl dX12_init_45 (fun H locs hw => ?_)
  refine lv_aload_n hx hb dX12_init_48 rfl (lv_at hl 0 rfl) ?_
  obtain ⟨q25, h26, hf⟩ := ob_some hf
  refine n_cl_X12_33 hC hw h26 dX12_init_49 (fun H locs cells slots hw => ?_)
  refine lv_dup hx hb dX12_init_52 rfl ?_
  refine lv_aload_n hx hb dX12_init_53 rfl (lv_at hl 0 rfl) ?_
  obtain ⟨x27, h28, hf⟩ := ob_some hf
  refine rR_fl_X12_29 hC hw h28 dX12_init_54 ?_
  obtain ⟨x29, h30, hf⟩ := ob_some hf
  refine gg_cIV (rt := none) (As := [.ref x27]) hC hw (X9_init_M l E D A h30) co_X9_init in_X9 ml_X12_35 im_X9_init rfl hd_X9_init.2 (Nat.le_of_ble_eq_true rfl) (Nat.le_of_ble_eq_true rfl) hl.1 rfl (Nat.le_of_ble_eq_true rfl) dX12_init_57 (fun H locs cells slots hw => ?_)
  obtain ⟨σ31, h32, hf⟩ := ob_some hf
  refine pF_fl_X12_38 hC hw h32 rfl rfl dX12_init_60 (fun H locs hw => ?_)
  refine lv_aload_n hx hb dX12_init_63 rfl (lv_at hl 0 rfl) ?_
  refine lv_bipush (v := 36) hx hb dX12_init_64 (by decide) ?_
  obtain ⟨q33, h34, hf⟩ := ob_some hf
  refine gg_naB hC hw h34 dX12_init_66 (fun H locs cells slots hw => ?_)
  obtain ⟨σ35, h36, hf⟩ := ob_some hf
  refine pF_fl_X12_42 hC hw h36 rfl rfl dX12_init_68 (fun H locs hw => ?_)
  refine lv_aload_n hx hb dX12_init_71 rfl (lv_at hl 0 rfl) ?_
  obtain ⟨q37, h38, hf⟩ := ob_some hf
  refine n_cl_X12_46 hC hw h38 dX12_init_72 (fun H locs cells slots hw => ?_)
  refine lv_dup hx hb dX12_init_75 rfl ?_
  obtain ⟨x39, h40, hf⟩ := ob_some hf
  refine gg_cNV (As := []) hC hw (X10_init_M l E D A h40) co_X10_init in_X10 mn_X12_48 im_X10_init rfl hd_X10_init.2 (Nat.le_of_ble_eq_true rfl) (Nat.le_of_ble_eq_true rfl) hl.1 rfl (Nat.le_of_ble_eq_true rfl) dX12_init_76 (fun H locs cells slots hw => ?_)
  obtain ⟨σ41, h42, hf⟩ := ob_some hf
  refine pF_fl_X12_49 hC hw h42 rfl rfl dX12_init_79 (fun H locs hw => ?_)
  refine lv_aload_n hx hb dX12_init_82 rfl (lv_at hl 0 rfl) ?_
  obtain ⟨q43, h44, hf⟩ := ob_some hf
  refine n_cl_X12_53 hC hw h44 dX12_init_83 (fun H locs cells slots hw => ?_)
  refine lv_dup hx hb dX12_init_86 rfl ?_
  obtain ⟨x45, h46, hf⟩ := ob_some hf
  refine gg_cNV (As := []) hC hw (X3_init_M l E D A h46) co_X3_init in_X3 mn_X12_55 im_X3_init rfl hd_X3_init.2 (Nat.le_of_ble_eq_true rfl) (Nat.le_of_ble_eq_true rfl) hl.1 rfl (Nat.le_of_ble_eq_true rfl) dX12_init_87 (fun H locs cells slots hw => ?_)
  obtain ⟨σ47, h48, hf⟩ := ob_some hf
  refine pF_fl_X12_56 hC hw h48 rfl rfl dX12_init_90 (fun H locs hw => ?_)
  refine lv_aload_n hx hb dX12_init_93 rfl (lv_at hl 0 rfl) ?_
  obtain ⟨q49, h50, hf⟩ := ob_some hf
  refine n_cl_X12_60 hC hw h50 dX12_init_94 (fun H locs cells slots hw => ?_)
  refine lv_dup hx hb dX12_init_97 rfl ?_
  obtain ⟨x51, h52, hf⟩ := ob_some hf
  refine gg_cNV (As := []) hC hw (X8_init_M l E D A h52) co_X8_init in_X8 mn_X12_62 im_X8_init rfl hd_X8_init.2 (Nat.le_of_ble_eq_true rfl) (Nat.le_of_ble_eq_true rfl) hl.1 rfl (Nat.le_of_ble_eq_true rfl) dX12_init_98 (fun H locs cells slots hw => ?_)
  obtain ⟨σ53, h54, hf⟩ := ob_some hf
  refine pF_fl_X12_63 hC hw h54 rfl rfl dX12_init_101 (fun H locs hw => ?_)
  refine lv_aload_n hx hb dX12_init_104 rfl (lv_at hl 0 rfl) ?_
  obtain ⟨x55, h56, hf⟩ := ob_some hf
  refine rR_fl_X12_10 hC hw h56 dX12_init_105 ?_
  refine lv_iconst (v := 3) hx hb dX12_init_108 (by decide) ?_
  refine lv_bipush (v := 6) hx hb dX12_init_109 (by decide) ?_
  refine gg_gets hC hw (k := 0) rfl fl_X12_67 dX12_init_111 ?_
  obtain ⟨_, h59, hf⟩ := ob_some hf
  obtain ⟨x57, h58, hf⟩ := ob_some hf
  refine gg_cVV (As := [.int (3 : Int32), .int (6 : Int32), .ref (gst E 40)]) hC hw (X11_replace_M l E D A h58) h59 rfl g_ml_X12_71 hd_X11_replace (Nat.le_of_ble_eq_true rfl) (Nat.le_of_ble_eq_true rfl) hl.1 rfl (Nat.le_of_ble_eq_true rfl) dX12_init_114 (fun H locs cells slots hw => ?_)
  cases hf
  exact hQ _ _ _ _ _ _ dX12_init_117 hw

def X12_init_f (E : gE) (l0 : Nat) (σ : gS) : Option gS := X12_init E l0 σ
set_option maxRecDepth 100000 in
theorem X12_init_M (l : Launch) (E : gE) (D : va_G) (A : Nat → Prop) {l0 : Nat} {σ : gS} {σz : gS} (hf : X12_init_f E l0 σ = some σz) : gCV l E D A yX12_init cX12_init 1 8 192 none [.ref l0] σ σz := by
  refine gg_entV (own := RX12) (nm := "<init>") (by decide +kernel) rfl rfl (Nat.le_of_ble_eq_true rfl) rfl ?_
  intro p e R s m args below meth c Q ls hC hw hQ hl
  have hl : lv_has ls 1 [(0, .ref l0)] := hl
  exact X12_init_W hC hQ hf hw hl

def X12_addLess (E : gE) (l0 : Nat) (l1 : Int32) (l2 : Int32) (σ : gS) : Option ((Nat ⊕ Int32) × gS) :=
  ob (gcl σ l0 10) fun _ =>
  ob (X12_addCondition_f E l0 l1 l2 (-1 : Int32) σ) fun x1 =>
  gtry x1 (fun k9 σ9 => some (Sum.inl k9, σ9)) (fun x5 σ4 =>
    some (Sum.inr x5, σ4))
set_option maxHeartbeats 4000000 in
set_option maxRecDepth 100000 in
theorem X12_addLess_W {σ : gS} {l0 : Nat} {l1 : Int32} {l2 : Int32} {res : ((Nat ⊕ Int32) × gS)} {ls : Array Slot} (hC : gC E D A p R s m args meth c cX12_addLess 3 RX12 "addLess" 8 188) (hQ : ∀ (r : Int32) (σ1 : gS), res = (.inr r, σ1) → gQI E D A p l e R s m args below meth c Q cX12_addLess FieldType.int (r, σ1)) (hT : ∀ (k : Nat) (σ1 : gS), res = (.inl k, σ1) → gTN E D A p l e R s m args below meth c Q cX12_addLess 3 RX12 k σ1) (hst : l.stackTraces = false) (hf : X12_addLess E l0 l1 l2 σ = some res) (hw : gW E D A s σ H locs) (hl : lv_has ls 3 [(0, .ref l0), (1, .int l1), (2, .int l2)]) : W p l e R s m args below meth c H locs cells slots Q (F0 m 0 ls []) := by
  have hC0 := hC
  obtain ⟨hx, hb, hml, hown, hts, -⟩ := hC0
  unfold X12_addLess at hf
  refine lv_aload_n hx hb dX12_addLess_0 rfl (lv_at hl 0 rfl) ?_
  refine lv_iload_n hx hb dX12_addLess_1 rfl (lv_at hl 1 rfl) ?_
  refine lv_iload_n hx hb dX12_addLess_2 rfl (lv_at hl 2 rfl) ?_
  refine lv_iconst (v := -1) hx hb dX12_addLess_3 (by decide) ?_
  obtain ⟨_, h3, hf⟩ := ob_some hf
  obtain ⟨x1, h2, hf⟩ := ob_some hf
  refine gg_yVI (As := [.int l1, .int l2, .int (-1 : Int32)]) hC hw (X12_addCondition_M l hst E D A h2) h3 rfl g_ml_X12_293 hd_X12_addCondition (Nat.le_of_ble_eq_true rfl) (Nat.le_of_ble_eq_true rfl) hl.1 rfl (Nat.le_of_ble_eq_true rfl) dX12_addLess_4 (fun k9 σ9 he => ?_) (fun x5 σ4 he H locs cells slots hw => ?_)
  · subst he
    replace hf := gtry_inl.symm.trans hf
    cases hf
    exact (hT _ _ rfl).2.2 _ _ _
  · subst he
    replace hf := gtry_inr.symm.trans hf
    cases hf
    exact hQ _ _ rfl _ _ _ _ _ _ dX12_addLess_7 rfl hw

def X12_addLess_f (E : gE) (l0 : Nat) (l1 : Int32) (l2 : Int32) (σ : gS) : Option ((Nat ⊕ Int32) × gS) := X12_addLess E l0 l1 l2 σ
set_option maxRecDepth 100000 in
theorem X12_addLess_M (l : Launch) (hst : l.stackTraces = false) (E : gE) (D : va_G) (A : Nat → Prop) {l0 : Nat} {l1 : Int32} {l2 : Int32} {σ : gS} {res : ((Nat ⊕ Int32) × gS)} (hf : X12_addLess_f E l0 l1 l2 σ = some res) : gYI l E D A yX12_addLess (Cond.code yX12_addLess cX12_addLess 3 (some FieldType.int)) 8 188 [.ref l0, .int l1, .int l2] σ res := by
  refine gg_entYI (own := RX12) (nm := "addLess") (ty := FieldType.int) hst (Nat.le_of_ble_eq_true rfl) (Nat.le_of_ble_eq_true rfl) (by decide +kernel) rfl rfl (Nat.le_of_ble_eq_true rfl) rfl ?_
  intro p e R s m args below meth c Q ls hC hw hQ hT hl
  have hl : lv_has ls 3 [(0, .ref l0), (1, .int l1), (2, .int l2)] := hl
  exact X12_addLess_W hC hQ hT hst hf hw hl

def X12_addEqual (E : gE) (l0 : Nat) (l1 : Int32) (l2 : Int32) (σ : gS) : Option ((Nat ⊕ Int32) × gS) :=
  ob (gcl σ l0 10) fun _ =>
  ob (X12_addCondition_f E l0 l1 l2 (0 : Int32) σ) fun x1 =>
  gtry x1 (fun k9 σ9 => some (Sum.inl k9, σ9)) (fun x5 σ4 =>
    some (Sum.inr x5, σ4))
set_option maxHeartbeats 4000000 in
set_option maxRecDepth 100000 in
theorem X12_addEqual_W {σ : gS} {l0 : Nat} {l1 : Int32} {l2 : Int32} {res : ((Nat ⊕ Int32) × gS)} {ls : Array Slot} (hC : gC E D A p R s m args meth c cX12_addEqual 3 RX12 "addEqual" 8 188) (hQ : ∀ (r : Int32) (σ1 : gS), res = (.inr r, σ1) → gQI E D A p l e R s m args below meth c Q cX12_addEqual FieldType.int (r, σ1)) (hT : ∀ (k : Nat) (σ1 : gS), res = (.inl k, σ1) → gTN E D A p l e R s m args below meth c Q cX12_addEqual 3 RX12 k σ1) (hst : l.stackTraces = false) (hf : X12_addEqual E l0 l1 l2 σ = some res) (hw : gW E D A s σ H locs) (hl : lv_has ls 3 [(0, .ref l0), (1, .int l1), (2, .int l2)]) : W p l e R s m args below meth c H locs cells slots Q (F0 m 0 ls []) := by
  have hC0 := hC
  obtain ⟨hx, hb, hml, hown, hts, -⟩ := hC0
  unfold X12_addEqual at hf
  refine lv_aload_n hx hb dX12_addEqual_0 rfl (lv_at hl 0 rfl) ?_
  refine lv_iload_n hx hb dX12_addEqual_1 rfl (lv_at hl 1 rfl) ?_
  refine lv_iload_n hx hb dX12_addEqual_2 rfl (lv_at hl 2 rfl) ?_
  refine lv_iconst (v := 0) hx hb dX12_addEqual_3 (by decide) ?_
  obtain ⟨_, h3, hf⟩ := ob_some hf
  obtain ⟨x1, h2, hf⟩ := ob_some hf
  refine gg_yVI (As := [.int l1, .int l2, .int (0 : Int32)]) hC hw (X12_addCondition_M l hst E D A h2) h3 rfl g_ml_X12_293 hd_X12_addCondition (Nat.le_of_ble_eq_true rfl) (Nat.le_of_ble_eq_true rfl) hl.1 rfl (Nat.le_of_ble_eq_true rfl) dX12_addEqual_4 (fun k9 σ9 he => ?_) (fun x5 σ4 he H locs cells slots hw => ?_)
  · subst he
    replace hf := gtry_inl.symm.trans hf
    cases hf
    exact (hT _ _ rfl).2.2 _ _ _
  · subst he
    replace hf := gtry_inr.symm.trans hf
    cases hf
    exact hQ _ _ rfl _ _ _ _ _ _ dX12_addEqual_7 rfl hw

def X12_addEqual_f (E : gE) (l0 : Nat) (l1 : Int32) (l2 : Int32) (σ : gS) : Option ((Nat ⊕ Int32) × gS) := X12_addEqual E l0 l1 l2 σ
set_option maxRecDepth 100000 in
theorem X12_addEqual_M (l : Launch) (hst : l.stackTraces = false) (E : gE) (D : va_G) (A : Nat → Prop) {l0 : Nat} {l1 : Int32} {l2 : Int32} {σ : gS} {res : ((Nat ⊕ Int32) × gS)} (hf : X12_addEqual_f E l0 l1 l2 σ = some res) : gYI l E D A yX12_addEqual (Cond.code yX12_addEqual cX12_addEqual 3 (some FieldType.int)) 8 188 [.ref l0, .int l1, .int l2] σ res := by
  refine gg_entYI (own := RX12) (nm := "addEqual") (ty := FieldType.int) hst (Nat.le_of_ble_eq_true rfl) (Nat.le_of_ble_eq_true rfl) (by decide +kernel) rfl rfl (Nat.le_of_ble_eq_true rfl) rfl ?_
  intro p e R s m args below meth c Q ls hC hw hQ hT hl
  have hl : lv_has ls 3 [(0, .ref l0), (1, .int l1), (2, .int l2)] := hl
  exact X12_addEqual_W hC hQ hT hst hf hw hl

def X12_addGreater (E : gE) (l0 : Nat) (l1 : Int32) (l2 : Int32) (σ : gS) : Option ((Nat ⊕ Int32) × gS) :=
  ob (gcl σ l0 10) fun _ =>
  ob (X12_addCondition_f E l0 l1 l2 (1 : Int32) σ) fun x1 =>
  gtry x1 (fun k9 σ9 => some (Sum.inl k9, σ9)) (fun x5 σ4 =>
    some (Sum.inr x5, σ4))
set_option maxHeartbeats 4000000 in
set_option maxRecDepth 100000 in
theorem X12_addGreater_W {σ : gS} {l0 : Nat} {l1 : Int32} {l2 : Int32} {res : ((Nat ⊕ Int32) × gS)} {ls : Array Slot} (hC : gC E D A p R s m args meth c cX12_addGreater 3 RX12 "addGreater" 8 188) (hQ : ∀ (r : Int32) (σ1 : gS), res = (.inr r, σ1) → gQI E D A p l e R s m args below meth c Q cX12_addGreater FieldType.int (r, σ1)) (hT : ∀ (k : Nat) (σ1 : gS), res = (.inl k, σ1) → gTN E D A p l e R s m args below meth c Q cX12_addGreater 3 RX12 k σ1) (hst : l.stackTraces = false) (hf : X12_addGreater E l0 l1 l2 σ = some res) (hw : gW E D A s σ H locs) (hl : lv_has ls 3 [(0, .ref l0), (1, .int l1), (2, .int l2)]) : W p l e R s m args below meth c H locs cells slots Q (F0 m 0 ls []) := by
  have hC0 := hC
  obtain ⟨hx, hb, hml, hown, hts, -⟩ := hC0
  unfold X12_addGreater at hf
  refine lv_aload_n hx hb dX12_addGreater_0 rfl (lv_at hl 0 rfl) ?_
  refine lv_iload_n hx hb dX12_addGreater_1 rfl (lv_at hl 1 rfl) ?_
  refine lv_iload_n hx hb dX12_addGreater_2 rfl (lv_at hl 2 rfl) ?_
  refine lv_iconst (v := 1) hx hb dX12_addGreater_3 (by decide) ?_
  obtain ⟨_, h3, hf⟩ := ob_some hf
  obtain ⟨x1, h2, hf⟩ := ob_some hf
  refine gg_yVI (As := [.int l1, .int l2, .int (1 : Int32)]) hC hw (X12_addCondition_M l hst E D A h2) h3 rfl g_ml_X12_293 hd_X12_addCondition (Nat.le_of_ble_eq_true rfl) (Nat.le_of_ble_eq_true rfl) hl.1 rfl (Nat.le_of_ble_eq_true rfl) dX12_addGreater_4 (fun k9 σ9 he => ?_) (fun x5 σ4 he H locs cells slots hw => ?_)
  · subst he
    replace hf := gtry_inl.symm.trans hf
    cases hf
    exact (hT _ _ rfl).2.2 _ _ _
  · subst he
    replace hf := gtry_inr.symm.trans hf
    cases hf
    exact hQ _ _ rfl _ _ _ _ _ _ dX12_addGreater_7 rfl hw

def X12_addGreater_f (E : gE) (l0 : Nat) (l1 : Int32) (l2 : Int32) (σ : gS) : Option ((Nat ⊕ Int32) × gS) := X12_addGreater E l0 l1 l2 σ
set_option maxRecDepth 100000 in
theorem X12_addGreater_M (l : Launch) (hst : l.stackTraces = false) (E : gE) (D : va_G) (A : Nat → Prop) {l0 : Nat} {l1 : Int32} {l2 : Int32} {σ : gS} {res : ((Nat ⊕ Int32) × gS)} (hf : X12_addGreater_f E l0 l1 l2 σ = some res) : gYI l E D A yX12_addGreater (Cond.code yX12_addGreater cX12_addGreater 3 (some FieldType.int)) 8 188 [.ref l0, .int l1, .int l2] σ res := by
  refine gg_entYI (own := RX12) (nm := "addGreater") (ty := FieldType.int) hst (Nat.le_of_ble_eq_true rfl) (Nat.le_of_ble_eq_true rfl) (by decide +kernel) rfl rfl (Nat.le_of_ble_eq_true rfl) rfl ?_
  intro p e R s m args below meth c Q ls hC hw hQ hT hl
  have hl : lv_has ls 3 [(0, .ref l0), (1, .int l1), (2, .int l2)] := hl
  exact X12_addGreater_W hC hQ hT hst hf hw hl

def X12_addRow (E : gE) (l0 : Nat) (l1 : Int32) (σ : gS) : Option ((Nat ⊕ Int32) × gS) :=
  ob (gcl σ l0 10) fun _ =>
  ob (X12_checkLength_f E l0 l1 σ) fun x1 =>
  gtry x1 (fun k9 σ9 => some (Sum.inl k9, σ9)) (fun _ σ4 =>
    ob (gfR σ4 l0 10 0) fun x6 =>
    ob (gcl σ4 x6 9) fun _ =>
    ob (X11_isFull_f E σ4 x6) fun x8 =>
    if x8 = 0 then
      ob (gfR σ4 l0 10 5) fun x11 =>
      ob (gfR σ4 l0 10 0) fun x13 =>
      ob (gcl σ4 x13 9) fun _ =>
      ob (X11_columns_f E σ4 x13) fun x15 =>
      ob (gcl σ4 x11 7) fun _ =>
      ob (X9_readRow_f E x11 l1 x15 σ4) fun x18 =>
      ob (gfR x18.2 l0 10 4) fun x21 =>
      ob (gcl x18.2 x21 5) fun _ =>
      ob (X6_clear_f E x21 x18.2) fun x23 =>
      if x18.1 = 0 then
        some (Sum.inr (-1 : Int32), x23)
      else
        ob (gfR x23 l0 10 3) fun x26 =>
        ob (gfR x23 l0 10 0) fun x28 =>
        ob (gcl x23 x26 4) fun _ =>
        ob (X5_record_f E x26 x28 x23) fun x30 =>
        ob (gfR x30 l0 10 0) fun x33 =>
        ob (gfR x30 l0 10 5) fun x35 =>
        ob (gcl x30 x35 7) fun _ =>
        ob (X9_cells_f E x30 x35) fun x37 =>
        ob (gcl x30 x33 9) fun _ =>
        ob (X11_appendRow_f E x33 x37 (0 : Int32) x30) fun x40 =>
        ob (gfR x40 l0 10 0) fun x43 =>
        ob (gcl x40 x43 9) fun _ =>
        ob (X11_rows_f E x40 x43) fun x45 =>
        some (Sum.inr (x45 - (1 : Int32)), x40)
    else
      ob (gthr E σ4) fun σ49 =>
      some (Sum.inl 2, σ49))
set_option maxHeartbeats 4000000 in
set_option maxRecDepth 100000 in
theorem X12_addRow_W {σ : gS} {l0 : Nat} {l1 : Int32} {res : ((Nat ⊕ Int32) × gS)} {ls : Array Slot} (hC : gC E D A p R s m args meth c cX12_addRow 3 RX12 "addRow" 8 191) (hQ : ∀ (r : Int32) (σ1 : gS), res = (.inr r, σ1) → gQI E D A p l e R s m args below meth c Q cX12_addRow FieldType.int (r, σ1)) (hT : ∀ (k : Nat) (σ1 : gS), res = (.inl k, σ1) → gTN E D A p l e R s m args below meth c Q cX12_addRow 3 RX12 k σ1) (hst : l.stackTraces = false) (hf : X12_addRow E l0 l1 σ = some res) (hw : gW E D A s σ H locs) (hl : lv_has ls 3 [(0, .ref l0), (1, .int l1)]) : W p l e R s m args below meth c H locs cells slots Q (F0 m 0 ls []) := by
  have hC0 := hC
  obtain ⟨hx, hb, hml, hown, hts, -⟩ := hC0
  unfold X12_addRow at hf
  refine lv_aload_n hx hb dX12_addRow_0 rfl (lv_at hl 0 rfl) ?_
  refine lv_iload_n hx hb dX12_addRow_1 rfl (lv_at hl 1 rfl) ?_
  obtain ⟨_, h3, hf⟩ := ob_some hf
  obtain ⟨x1, h2, hf⟩ := ob_some hf
  refine gg_yVV (As := [.int l1]) hC hw (X12_checkLength_M l hst E D A h2) h3 rfl g_ml_X12_83 hd_X12_checkLength (Nat.le_of_ble_eq_true rfl) (Nat.le_of_ble_eq_true rfl) hl.1 rfl (Nat.le_of_ble_eq_true rfl) dX12_addRow_2 (fun k9 σ9 he => ?_) (fun σ4 he H locs cells slots hw => ?_)
  · subst he
    replace hf := gtry_inl.symm.trans hf
    cases hf
    exact (hT _ _ rfl).2.2 _ _ _
  · subst he
    replace hf := gtry_inr.symm.trans hf
    refine lv_aload_n hx hb dX12_addRow_5 rfl (lv_at hl 0 rfl) ?_
    obtain ⟨x6, h7, hf⟩ := ob_some hf
    refine rR_fl_X12_10 hC hw h7 dX12_addRow_6 ?_
    obtain ⟨_, h10, hf⟩ := ob_some hf
    obtain ⟨x8, h9, hf⟩ := ob_some hf
    refine gg_cVI (As := []) hC hw (X11_isFull_M l E D A h9) h10 rfl g_ml_X12_263 hd_X11_isFull (Nat.le_of_ble_eq_true rfl) (Nat.le_of_ble_eq_true rfl) hl.1 rfl (Nat.le_of_ble_eq_true rfl) dX12_addRow_9 (fun H locs cells slots hw => ?_)
    refine lv_if_eq (tgt := 26) hx hb dX12_addRow_12 (by decide) (fun c51 => ?_) (fun c51 => ?_)
    · replace hf := (if_pos c51).symm.trans hf
      refine lv_aload_n hx hb dX12_addRow_26 rfl (lv_at hl 0 rfl) ?_
      obtain ⟨x11, h12, hf⟩ := ob_some hf
      refine rR_fl_X12_38 hC hw h12 dX12_addRow_27 ?_
      refine lv_iload_n hx hb dX12_addRow_30 rfl (lv_at hl 1 rfl) ?_
      refine lv_aload_n hx hb dX12_addRow_31 rfl (lv_at hl 0 rfl) ?_
      obtain ⟨x13, h14, hf⟩ := ob_some hf
      refine rR_fl_X12_10 hC hw h14 dX12_addRow_32 ?_
      obtain ⟨_, h17, hf⟩ := ob_some hf
      obtain ⟨x15, h16, hf⟩ := ob_some hf
      refine gg_cVI (As := []) hC hw (X11_columns_M l E D A h16) h17 rfl g_ml_X12_115 hd_X11_columns (Nat.le_of_ble_eq_true rfl) (Nat.le_of_ble_eq_true rfl) hl.1 rfl (Nat.le_of_ble_eq_true rfl) dX12_addRow_35 (fun H locs cells slots hw => ?_)
      obtain ⟨_, h20, hf⟩ := ob_some hf
      obtain ⟨x18, h19, hf⟩ := ob_some hf
      refine gg_cVI (As := [.int l1, .int x15]) hC hw (X9_readRow_M l E D A h19) h20 rfl g_ml_X12_271 hd_X9_readRow (Nat.le_of_ble_eq_true rfl) (Nat.le_of_ble_eq_true rfl) hl.1 rfl (Nat.le_of_ble_eq_true rfl) dX12_addRow_38 (fun H locs cells slots hw => ?_)
      refine lv_istore_n (lv' := [(2, .int x18.1), (0, .ref l0), (1, .int l1)]) hx hb dX12_addRow_41 rfl hl (by decide) rfl (fun ls hl => ?_)
      refine lv_aload_n hx hb dX12_addRow_42 rfl (lv_at hl 1 rfl) ?_
      obtain ⟨x21, h22, hf⟩ := ob_some hf
      refine rR_fl_X12_29 hC hw h22 dX12_addRow_43 ?_
      obtain ⟨_, h25, hf⟩ := ob_some hf
      obtain ⟨x23, h24, hf⟩ := ob_some hf
      refine gg_cVV (As := []) hC hw (X6_clear_M l E D A h24) h25 rfl g_ml_X12_90 hd_X6_clear (Nat.le_of_ble_eq_true rfl) (Nat.le_of_ble_eq_true rfl) hl.1 rfl (Nat.le_of_ble_eq_true rfl) dX12_addRow_46 (fun H locs cells slots hw => ?_)
      refine lv_iload_n hx hb dX12_addRow_49 rfl (lv_at hl 0 rfl) ?_
      refine lv_if_ne (tgt := 55) hx hb dX12_addRow_50 (by decide) (fun c48 => ?_) (fun c48 => ?_)
      · replace hf := (if_neg c48).symm.trans hf
        refine lv_aload_n hx hb dX12_addRow_55 rfl (lv_at hl 1 rfl) ?_
        obtain ⟨x26, h27, hf⟩ := ob_some hf
        refine rR_fl_X12_22 hC hw h27 dX12_addRow_56 ?_
        refine lv_aload_n hx hb dX12_addRow_59 rfl (lv_at hl 1 rfl) ?_
        obtain ⟨x28, h29, hf⟩ := ob_some hf
        refine rR_fl_X12_10 hC hw h29 dX12_addRow_60 ?_
        obtain ⟨_, h32, hf⟩ := ob_some hf
        obtain ⟨x30, h31, hf⟩ := ob_some hf
        refine gg_cVV (As := [.ref x28]) hC hw (X5_record_M l E D A h31) h32 rfl g_ml_X12_275 hd_X5_record (Nat.le_of_ble_eq_true rfl) (Nat.le_of_ble_eq_true rfl) hl.1 rfl (Nat.le_of_ble_eq_true rfl) dX12_addRow_63 (fun H locs cells slots hw => ?_)
        refine lv_aload_n hx hb dX12_addRow_66 rfl (lv_at hl 1 rfl) ?_
        obtain ⟨x33, h34, hf⟩ := ob_some hf
        refine rR_fl_X12_10 hC hw h34 dX12_addRow_67 ?_
        refine lv_aload_n hx hb dX12_addRow_70 rfl (lv_at hl 1 rfl) ?_
        obtain ⟨x35, h36, hf⟩ := ob_some hf
        refine rR_fl_X12_38 hC hw h36 dX12_addRow_71 ?_
        obtain ⟨_, h39, hf⟩ := ob_some hf
        obtain ⟨x37, h38, hf⟩ := ob_some hf
        refine gg_cVR (As := []) hC hw (X9_cells_M l E D A h38) h39 rfl g_ml_X12_99 hd_X9_cells (Nat.le_of_ble_eq_true rfl) (Nat.le_of_ble_eq_true rfl) hl.1 rfl (Nat.le_of_ble_eq_true rfl) dX12_addRow_74 (fun H locs cells slots hw => ?_)
        refine lv_iconst (v := 0) hx hb dX12_addRow_77 (by decide) ?_
        obtain ⟨_, h42, hf⟩ := ob_some hf
        obtain ⟨x40, h41, hf⟩ := ob_some hf
        refine gg_cVV (As := [.ref x37, .int (0 : Int32)]) hC hw (X11_appendRow_M l E D A h41) h42 rfl g_ml_X12_279 hd_X11_appendRow (Nat.le_of_ble_eq_true rfl) (Nat.le_of_ble_eq_true rfl) hl.1 rfl (Nat.le_of_ble_eq_true rfl) dX12_addRow_78 (fun H locs cells slots hw => ?_)
        refine lv_aload_n hx hb dX12_addRow_81 rfl (lv_at hl 1 rfl) ?_
        obtain ⟨x43, h44, hf⟩ := ob_some hf
        refine rR_fl_X12_10 hC hw h44 dX12_addRow_82 ?_
        obtain ⟨_, h47, hf⟩ := ob_some hf
        obtain ⟨x45, h46, hf⟩ := ob_some hf
        refine gg_cVI (As := []) hC hw (X11_rows_M l E D A h46) h47 rfl g_ml_X12_108 hd_X11_rows (Nat.le_of_ble_eq_true rfl) (Nat.le_of_ble_eq_true rfl) hl.1 rfl (Nat.le_of_ble_eq_true rfl) dX12_addRow_85 (fun H locs cells slots hw => ?_)
        refine lv_iconst (v := 1) hx hb dX12_addRow_88 (by decide) ?_
        refine lv_isub hx hb dX12_addRow_89 ?_
        cases hf
        exact hQ _ _ rfl _ _ _ _ _ _ dX12_addRow_90 rfl hw
      · replace hf := (if_pos c48).symm.trans hf
        refine lv_iconst (v := -1) hx hb dX12_addRow_53 (by decide) ?_
        cases hf
        exact hQ _ _ rfl _ _ _ _ _ _ dX12_addRow_54 rfl hw
    · replace hf := (if_neg c51).symm.trans hf
      obtain ⟨σ49, h50, hf⟩ := ob_some hf
      cases hf
      exact (hT _ _ rfl).2.1 _ _ _ _ 30 _ _ _ _ _ _ _ h50 hw hl.1 tw_2 rfl rfl rfl dX12_addRow_15 dX12_addRow_18 dX12_addRow_19 dX12_addRow_22 dX12_addRow_25

def X12_addRow_f (E : gE) (l0 : Nat) (l1 : Int32) (σ : gS) : Option ((Nat ⊕ Int32) × gS) := X12_addRow E l0 l1 σ
set_option maxRecDepth 100000 in
theorem X12_addRow_M (l : Launch) (hst : l.stackTraces = false) (E : gE) (D : va_G) (A : Nat → Prop) {l0 : Nat} {l1 : Int32} {σ : gS} {res : ((Nat ⊕ Int32) × gS)} (hf : X12_addRow_f E l0 l1 σ = some res) : gYI l E D A yX12_addRow (Cond.code yX12_addRow cX12_addRow 3 (some FieldType.int)) 8 191 [.ref l0, .int l1] σ res := by
  refine gg_entYI (own := RX12) (nm := "addRow") (ty := FieldType.int) hst (Nat.le_of_ble_eq_true rfl) (Nat.le_of_ble_eq_true rfl) (by decide +kernel) rfl rfl (Nat.le_of_ble_eq_true rfl) rfl ?_
  intro p e R s m args below meth c Q ls hC hw hQ hT hl
  have hl : lv_has ls 3 [(0, .ref l0), (1, .int l1)] := hl
  exact X12_addRow_W hC hQ hT hst hf hw hl

def X12_loadTable (E : gE) (l0 : Nat) (l1 : Int32) (σ : gS) : Option ((Nat ⊕ Int32) × gS) :=
  ob (gcl σ l0 10) fun _ =>
  ob (X12_checkLength_f E l0 l1 σ) fun x1 =>
  gtry x1 (fun k9 σ9 => some (Sum.inl k9, σ9)) (fun _ σ4 =>
    ob (gfR σ4 l0 10 5) fun x6 =>
    ob (gcl σ4 x6 7) fun _ =>
    ob (X9_readTable_f E x6 l1 σ4) fun x8 =>
    ob (gfR x8.2 l0 10 4) fun x11 =>
    ob (gcl x8.2 x11 5) fun _ =>
    ob (X6_clear_f E x11 x8.2) fun x13 =>
    if x8.1 = 0 then
      some (Sum.inr (-1 : Int32), x13)
    else
      ob (gfR x13 l0 10 0) fun x16 =>
      ob (gfR x13 l0 10 5) fun x18 =>
      ob (gcl x13 x18 7) fun _ =>
      ob (X9_columns_f E x13 x18) fun x20 =>
      ob (gfR x13 l0 10 5) fun x23 =>
      ob (gcl x13 x23 7) fun _ =>
      ob (X9_rows_f E x13 x23) fun x25 =>
      ob (gfR x13 l0 10 5) fun x28 =>
      ob (gcl x13 x28 7) fun _ =>
      ob (X9_cells_f E x13 x28) fun x30 =>
      ob (gcl x13 x16 9) fun _ =>
      ob (X11_replace_f E x16 x20 x25 x30 x13) fun x33 =>
      ob (gfR x33 l0 10 3) fun x36 =>
      ob (gcl x33 x36 4) fun _ =>
      ob (X5_clear_f E x36 x33) fun x38 =>
      ob (gz (0 : Int32)) fun _ =>
      ob (gpf E x38 l0 10 2 (.int (0 : Int32))) fun σ41 =>
      ob (gfR σ41 l0 10 0) fun x44 =>
      ob (gcl σ41 x44 9) fun _ =>
      ob (X11_rows_f E σ41 x44) fun x46 =>
      some (Sum.inr x46, σ41))
set_option maxHeartbeats 4000000 in
set_option maxRecDepth 100000 in
theorem X12_loadTable_W {σ : gS} {l0 : Nat} {l1 : Int32} {res : ((Nat ⊕ Int32) × gS)} {ls : Array Slot} (hC : gC E D A p R s m args meth c cX12_loadTable 3 RX12 "loadTable" 9 211) (hQ : ∀ (r : Int32) (σ1 : gS), res = (.inr r, σ1) → gQI E D A p l e R s m args below meth c Q cX12_loadTable FieldType.int (r, σ1)) (hT : ∀ (k : Nat) (σ1 : gS), res = (.inl k, σ1) → gTN E D A p l e R s m args below meth c Q cX12_loadTable 3 RX12 k σ1) (hst : l.stackTraces = false) (hf : X12_loadTable E l0 l1 σ = some res) (hw : gW E D A s σ H locs) (hl : lv_has ls 3 [(0, .ref l0), (1, .int l1)]) : W p l e R s m args below meth c H locs cells slots Q (F0 m 0 ls []) := by
  have hC0 := hC
  obtain ⟨hx, hb, hml, hown, hts, -⟩ := hC0
  unfold X12_loadTable at hf
  refine lv_aload_n hx hb dX12_loadTable_0 rfl (lv_at hl 0 rfl) ?_
  refine lv_iload_n hx hb dX12_loadTable_1 rfl (lv_at hl 1 rfl) ?_
  obtain ⟨_, h3, hf⟩ := ob_some hf
  obtain ⟨x1, h2, hf⟩ := ob_some hf
  refine gg_yVV (As := [.int l1]) hC hw (X12_checkLength_M l hst E D A h2) h3 rfl g_ml_X12_83 hd_X12_checkLength (Nat.le_of_ble_eq_true rfl) (Nat.le_of_ble_eq_true rfl) hl.1 rfl (Nat.le_of_ble_eq_true rfl) dX12_loadTable_2 (fun k9 σ9 he => ?_) (fun σ4 he H locs cells slots hw => ?_)
  · subst he
    replace hf := gtry_inl.symm.trans hf
    cases hf
    exact (hT _ _ rfl).2.2 _ _ _
  · subst he
    replace hf := gtry_inr.symm.trans hf
    refine lv_aload_n hx hb dX12_loadTable_5 rfl (lv_at hl 0 rfl) ?_
    obtain ⟨x6, h7, hf⟩ := ob_some hf
    refine rR_fl_X12_38 hC hw h7 dX12_loadTable_6 ?_
    refine lv_iload_n hx hb dX12_loadTable_9 rfl (lv_at hl 1 rfl) ?_
    obtain ⟨_, h10, hf⟩ := ob_some hf
    obtain ⟨x8, h9, hf⟩ := ob_some hf
    refine gg_cVI (As := [.int l1]) hC hw (X9_readTable_M l E D A h9) h10 rfl g_ml_X12_86 hd_X9_readTable (Nat.le_of_ble_eq_true rfl) (Nat.le_of_ble_eq_true rfl) hl.1 rfl (Nat.le_of_ble_eq_true rfl) dX12_loadTable_10 (fun H locs cells slots hw => ?_)
    refine lv_istore_n (lv' := [(2, .int x8.1), (0, .ref l0), (1, .int l1)]) hx hb dX12_loadTable_13 rfl hl (by decide) rfl (fun ls hl => ?_)
    refine lv_aload_n hx hb dX12_loadTable_14 rfl (lv_at hl 1 rfl) ?_
    obtain ⟨x11, h12, hf⟩ := ob_some hf
    refine rR_fl_X12_29 hC hw h12 dX12_loadTable_15 ?_
    obtain ⟨_, h15, hf⟩ := ob_some hf
    obtain ⟨x13, h14, hf⟩ := ob_some hf
    refine gg_cVV (As := []) hC hw (X6_clear_M l E D A h14) h15 rfl g_ml_X12_90 hd_X6_clear (Nat.le_of_ble_eq_true rfl) (Nat.le_of_ble_eq_true rfl) hl.1 rfl (Nat.le_of_ble_eq_true rfl) dX12_loadTable_18 (fun H locs cells slots hw => ?_)
    refine lv_iload_n hx hb dX12_loadTable_21 rfl (lv_at hl 0 rfl) ?_
    refine lv_if_ne (tgt := 27) hx hb dX12_loadTable_22 (by decide) (fun c49 => ?_) (fun c49 => ?_)
    · replace hf := (if_neg c49).symm.trans hf
      refine lv_aload_n hx hb dX12_loadTable_27 rfl (lv_at hl 1 rfl) ?_
      obtain ⟨x16, h17, hf⟩ := ob_some hf
      refine rR_fl_X12_10 hC hw h17 dX12_loadTable_28 ?_
      refine lv_aload_n hx hb dX12_loadTable_31 rfl (lv_at hl 1 rfl) ?_
      obtain ⟨x18, h19, hf⟩ := ob_some hf
      refine rR_fl_X12_38 hC hw h19 dX12_loadTable_32 ?_
      obtain ⟨_, h22, hf⟩ := ob_some hf
      obtain ⟨x20, h21, hf⟩ := ob_some hf
      refine gg_cVI (As := []) hC hw (X9_columns_M l E D A h21) h22 rfl g_ml_X12_93 hd_X9_columns (Nat.le_of_ble_eq_true rfl) (Nat.le_of_ble_eq_true rfl) hl.1 rfl (Nat.le_of_ble_eq_true rfl) dX12_loadTable_35 (fun H locs cells slots hw => ?_)
      refine lv_aload_n hx hb dX12_loadTable_38 rfl (lv_at hl 1 rfl) ?_
      obtain ⟨x23, h24, hf⟩ := ob_some hf
      refine rR_fl_X12_38 hC hw h24 dX12_loadTable_39 ?_
      obtain ⟨_, h27, hf⟩ := ob_some hf
      obtain ⟨x25, h26, hf⟩ := ob_some hf
      refine gg_cVI (As := []) hC hw (X9_rows_M l E D A h26) h27 rfl g_ml_X12_96 hd_X9_rows (Nat.le_of_ble_eq_true rfl) (Nat.le_of_ble_eq_true rfl) hl.1 rfl (Nat.le_of_ble_eq_true rfl) dX12_loadTable_42 (fun H locs cells slots hw => ?_)
      refine lv_aload_n hx hb dX12_loadTable_45 rfl (lv_at hl 1 rfl) ?_
      obtain ⟨x28, h29, hf⟩ := ob_some hf
      refine rR_fl_X12_38 hC hw h29 dX12_loadTable_46 ?_
      obtain ⟨_, h32, hf⟩ := ob_some hf
      obtain ⟨x30, h31, hf⟩ := ob_some hf
      refine gg_cVR (As := []) hC hw (X9_cells_M l E D A h31) h32 rfl g_ml_X12_99 hd_X9_cells (Nat.le_of_ble_eq_true rfl) (Nat.le_of_ble_eq_true rfl) hl.1 rfl (Nat.le_of_ble_eq_true rfl) dX12_loadTable_49 (fun H locs cells slots hw => ?_)
      obtain ⟨_, h35, hf⟩ := ob_some hf
      obtain ⟨x33, h34, hf⟩ := ob_some hf
      refine gg_cVV (As := [.int x20, .int x25, .ref x30]) hC hw (X11_replace_M l E D A h34) h35 rfl g_ml_X12_71 hd_X11_replace (Nat.le_of_ble_eq_true rfl) (Nat.le_of_ble_eq_true rfl) hl.1 rfl (Nat.le_of_ble_eq_true rfl) dX12_loadTable_52 (fun H locs cells slots hw => ?_)
      refine lv_aload_n hx hb dX12_loadTable_55 rfl (lv_at hl 1 rfl) ?_
      obtain ⟨x36, h37, hf⟩ := ob_some hf
      refine rR_fl_X12_22 hC hw h37 dX12_loadTable_56 ?_
      obtain ⟨_, h40, hf⟩ := ob_some hf
      obtain ⟨x38, h39, hf⟩ := ob_some hf
      refine gg_cVV (As := []) hC hw (X5_clear_M l E D A h39) h40 rfl g_ml_X12_103 hd_X5_clear (Nat.le_of_ble_eq_true rfl) (Nat.le_of_ble_eq_true rfl) hl.1 rfl (Nat.le_of_ble_eq_true rfl) dX12_loadTable_59 (fun H locs cells slots hw => ?_)
      refine lv_aload_n hx hb dX12_loadTable_62 rfl (lv_at hl 1 rfl) ?_
      refine lv_iconst (v := 0) hx hb dX12_loadTable_63 (by decide) ?_
      obtain ⟨_, h43, hf⟩ := ob_some hf
      obtain ⟨σ41, h42, hf⟩ := ob_some hf
      refine p_fl_X12_104 hC hw h42 (gz_some h43) (gz_fits h43) dX12_loadTable_64 (fun H locs hw => ?_)
      refine lv_aload_n hx hb dX12_loadTable_67 rfl (lv_at hl 1 rfl) ?_
      obtain ⟨x44, h45, hf⟩ := ob_some hf
      refine rR_fl_X12_10 hC hw h45 dX12_loadTable_68 ?_
      obtain ⟨_, h48, hf⟩ := ob_some hf
      obtain ⟨x46, h47, hf⟩ := ob_some hf
      refine gg_cVI (As := []) hC hw (X11_rows_M l E D A h47) h48 rfl g_ml_X12_108 hd_X11_rows (Nat.le_of_ble_eq_true rfl) (Nat.le_of_ble_eq_true rfl) hl.1 rfl (Nat.le_of_ble_eq_true rfl) dX12_loadTable_71 (fun H locs cells slots hw => ?_)
      cases hf
      exact hQ _ _ rfl _ _ _ _ _ _ dX12_loadTable_74 rfl hw
    · replace hf := (if_pos c49).symm.trans hf
      refine lv_iconst (v := -1) hx hb dX12_loadTable_25 (by decide) ?_
      cases hf
      exact hQ _ _ rfl _ _ _ _ _ _ dX12_loadTable_26 rfl hw

def X12_loadTable_f (E : gE) (l0 : Nat) (l1 : Int32) (σ : gS) : Option ((Nat ⊕ Int32) × gS) := X12_loadTable E l0 l1 σ
set_option maxRecDepth 100000 in
theorem X12_loadTable_M (l : Launch) (hst : l.stackTraces = false) (E : gE) (D : va_G) (A : Nat → Prop) {l0 : Nat} {l1 : Int32} {σ : gS} {res : ((Nat ⊕ Int32) × gS)} (hf : X12_loadTable_f E l0 l1 σ = some res) : gYI l E D A yX12_loadTable (Cond.code yX12_loadTable cX12_loadTable 3 (some FieldType.int)) 9 211 [.ref l0, .int l1] σ res := by
  refine gg_entYI (own := RX12) (nm := "loadTable") (ty := FieldType.int) hst (Nat.le_of_ble_eq_true rfl) (Nat.le_of_ble_eq_true rfl) (by decide +kernel) rfl rfl (Nat.le_of_ble_eq_true rfl) rfl ?_
  intro p e R s m args below meth c Q ls hC hw hQ hT hl
  have hl : lv_has ls 3 [(0, .ref l0), (1, .int l1)] := hl
  exact X12_loadTable_W hC hQ hT hst hf hw hl

def X12_runScript_91 (E : gE) (l3 : Int32) (σ : gS) : Option ((Nat ⊕ Int32) × gS) :=
  some (Sum.inr l3, σ)
set_option maxHeartbeats 4000000 in
set_option maxRecDepth 100000 in
theorem X12_runScript_91_W {σ : gS} {l3 : Int32} {res : ((Nat ⊕ Int32) × gS)} {ls : Array Slot} (hC : gC E D A p R s m args meth c cX12_runScript 4 RX12 "runScript" 9 213) (hQ : ∀ (r : Int32) (σ1 : gS), res = (.inr r, σ1) → gQI E D A p l e R s m args below meth c Q cX12_runScript FieldType.int (r, σ1)) (hT : ∀ (k : Nat) (σ1 : gS), res = (.inl k, σ1) → gTN E D A p l e R s m args below meth c Q cX12_runScript 4 RX12 k σ1) (hst : l.stackTraces = false) (hf : X12_runScript_91 E l3 σ = some res) (hw : gW E D A s σ H locs) (hl : lv_has ls 4 [(3, .int l3)]) : W p l e R s m args below meth c H locs cells slots Q (F0 m 91 ls []) := by
  have hC0 := hC
  obtain ⟨hx, hb, hml, hown, hts, -⟩ := hC0
  unfold X12_runScript_91 at hf
  refine lv_iload_n hx hb dX12_runScript_91 rfl (lv_at hl 0 rfl) ?_
  cases hf
  exact hQ _ _ rfl _ _ _ _ _ _ dX12_runScript_92 rfl hw

def X12_runScript_47_s (E : gE) (r_47 : Nat → Int32 → gS → Option ((Nat ⊕ Int32) × gS)) (l0 : Nat) (l3 : Int32) (σ : gS) : Option ((Nat ⊕ Int32) × gS) :=
  ob (gfR σ l0 10 5) fun x1 =>
  ob (gcl σ x1 7) fun _ =>
  ob (X9_commandCount_f E σ x1) fun x3 =>
  if x3 ≤ l3 then
    X12_runScript_91 E l3 σ
  else
    ob (gfR σ l0 10 5) fun x6 =>
    ob (gcl σ x6 7) fun _ =>
    ob (X9_command_f E σ x6 l3) fun x8 =>
    ob (gcl σ l0 10) fun _ =>
    ob (X12_isPossible_f E σ l0 x8) fun x11 =>
    if x11 = 0 then
      X12_runScript_91 E l3 σ
    else
      ob (gfR σ l0 10 5) fun x14 =>
      ob (gcl σ x14 7) fun _ =>
      ob (X9_command_f E σ x14 l3) fun x16 =>
      ob (gcl σ l0 10) fun _ =>
      ob (X12_execute_f E l0 x16 σ) fun x19 =>
      r_47 l0 (l3 + 1) x19
set_option maxHeartbeats 4000000 in
set_option maxRecDepth 100000 in
theorem X12_runScript_47_s_W {σ : gS} {l0 : Nat} {l3 : Int32} {res : ((Nat ⊕ Int32) × gS)} {ls : Array Slot} (hC : gC E D A p R s m args meth c cX12_runScript 4 RX12 "runScript" 9 213) (hQ : ∀ (r : Int32) (σ1 : gS), res = (.inr r, σ1) → gQI E D A p l e R s m args below meth c Q cX12_runScript FieldType.int (r, σ1)) (hT : ∀ (k : Nat) (σ1 : gS), res = (.inl k, σ1) → gTN E D A p l e R s m args below meth c Q cX12_runScript 4 RX12 k σ1) (hst : l.stackTraces = false) {r_47 : Nat → Int32 → gS → Option ((Nat ⊕ Int32) × gS)} (h_47 : ∀ {l0 : Nat} {l3 : Int32} {σ : gS} {H : Heap} {locs : List Loc} {cells slots : Nat} {ls : Array Slot}, r_47 l0 l3 σ = some res → gW E D A s σ H locs → lv_has ls 4 [(0, .ref l0), (3, .int l3)] → W p l e R s m args below meth c H locs cells slots Q (F0 m 47 ls [])) (hf : X12_runScript_47_s E r_47 l0 l3 σ = some res) (hw : gW E D A s σ H locs) (hl : lv_has ls 4 [(0, .ref l0), (3, .int l3)]) : W p l e R s m args below meth c H locs cells slots Q (F0 m 47 ls []) := by
  have hC0 := hC
  obtain ⟨hx, hb, hml, hown, hts, -⟩ := hC0
  unfold X12_runScript_47_s at hf
  refine lv_iload_n hx hb dX12_runScript_47 rfl (lv_at hl 1 rfl) ?_
  refine lv_aload_n hx hb dX12_runScript_48 rfl (lv_at hl 0 rfl) ?_
  obtain ⟨x1, h2, hf⟩ := ob_some hf
  refine rR_fl_X12_38 hC hw h2 dX12_runScript_49 ?_
  obtain ⟨_, h5, hf⟩ := ob_some hf
  obtain ⟨x3, h4, hf⟩ := ob_some hf
  refine gg_cVI (As := []) hC hw (X9_commandCount_M l E D A h4) h5 rfl g_ml_X12_309 hd_X9_commandCount (Nat.le_of_ble_eq_true rfl) (Nat.le_of_ble_eq_true rfl) hl.1 rfl (Nat.le_of_ble_eq_true rfl) dX12_runScript_52 (fun H locs cells slots hw => ?_)
  refine lv_icmp_ge (tgt := 91) hx hb dX12_runScript_55 (by decide) (fun c23 => ?_) (fun c23 => ?_)
  · replace hf := (if_pos c23).symm.trans hf
    exact X12_runScript_91_W hC hQ hT hst hf hw (lv_sub hl [1] rfl)
  · replace hf := (if_neg c23).symm.trans hf
    refine lv_aload_n hx hb dX12_runScript_58 rfl (lv_at hl 0 rfl) ?_
    refine lv_aload_n hx hb dX12_runScript_59 rfl (lv_at hl 0 rfl) ?_
    obtain ⟨x6, h7, hf⟩ := ob_some hf
    refine rR_fl_X12_38 hC hw h7 dX12_runScript_60 ?_
    refine lv_iload_n hx hb dX12_runScript_63 rfl (lv_at hl 1 rfl) ?_
    obtain ⟨_, h10, hf⟩ := ob_some hf
    obtain ⟨x8, h9, hf⟩ := ob_some hf
    refine gg_cVR (As := [.int l3]) hC hw (X9_command_M l E D A h9) h10 rfl g_ml_X12_312 hd_X9_command (Nat.le_of_ble_eq_true rfl) (Nat.le_of_ble_eq_true rfl) hl.1 rfl (Nat.le_of_ble_eq_true rfl) dX12_runScript_64 (fun H locs cells slots hw => ?_)
    obtain ⟨_, h13, hf⟩ := ob_some hf
    obtain ⟨x11, h12, hf⟩ := ob_some hf
    refine gg_cVI (As := [.ref x8]) hC hw (X12_isPossible_M l E D A h12) h13 rfl g_ml_X12_316 hd_X12_isPossible (Nat.le_of_ble_eq_true rfl) (Nat.le_of_ble_eq_true rfl) hl.1 rfl (Nat.le_of_ble_eq_true rfl) dX12_runScript_67 (fun H locs cells slots hw => ?_)
    refine lv_if_eq (tgt := 91) hx hb dX12_runScript_70 (by decide) (fun c22 => ?_) (fun c22 => ?_)
    · replace hf := (if_pos c22).symm.trans hf
      exact X12_runScript_91_W hC hQ hT hst hf hw (lv_sub hl [1] rfl)
    · replace hf := (if_neg c22).symm.trans hf
      refine lv_aload_n hx hb dX12_runScript_73 rfl (lv_at hl 0 rfl) ?_
      refine lv_aload_n hx hb dX12_runScript_74 rfl (lv_at hl 0 rfl) ?_
      obtain ⟨x14, h15, hf⟩ := ob_some hf
      refine rR_fl_X12_38 hC hw h15 dX12_runScript_75 ?_
      refine lv_iload_n hx hb dX12_runScript_78 rfl (lv_at hl 1 rfl) ?_
      obtain ⟨_, h18, hf⟩ := ob_some hf
      obtain ⟨x16, h17, hf⟩ := ob_some hf
      refine gg_cVR (As := [.int l3]) hC hw (X9_command_M l E D A h17) h18 rfl g_ml_X12_312 hd_X9_command (Nat.le_of_ble_eq_true rfl) (Nat.le_of_ble_eq_true rfl) hl.1 rfl (Nat.le_of_ble_eq_true rfl) dX12_runScript_79 (fun H locs cells slots hw => ?_)
      obtain ⟨_, h21, hf⟩ := ob_some hf
      obtain ⟨x19, h20, hf⟩ := ob_some hf
      refine gg_cVV (As := [.ref x16]) hC hw (X12_execute_M l E D A h20) h21 rfl g_ml_X12_320 hd_X12_execute (Nat.le_of_ble_eq_true rfl) (Nat.le_of_ble_eq_true rfl) hl.1 rfl (Nat.le_of_ble_eq_true rfl) dX12_runScript_82 (fun H locs cells slots hw => ?_)
      refine lv_iinc (v := (l3 + 1)) (lv' := [(3, .int (l3 + 1)), (0, .ref l0)]) hx hb dX12_runScript_85 hl (k := 1) rfl rfl (by decide) rfl (fun ls hl => ?_)
      refine lv_goto (tgt := 47) hx hb dX12_runScript_88 (by decide) ?_
      exact h_47 hf hw (lv_sub hl [1, 0] rfl)
def X12_runScript_47 (E : gE) : Nat → Nat → Int32 → gS → Option ((Nat ⊕ Int32) × gS)
  | 0 => fun _ _ _ => none
  | n + 1 => X12_runScript_47_s E (X12_runScript_47 E n)
theorem X12_runScript_47_W {res : ((Nat ⊕ Int32) × gS)} (hC : gC E D A p R s m args meth c cX12_runScript 4 RX12 "runScript" 9 213) (hQ : ∀ (r : Int32) (σ1 : gS), res = (.inr r, σ1) → gQI E D A p l e R s m args below meth c Q cX12_runScript FieldType.int (r, σ1)) (hT : ∀ (k : Nat) (σ1 : gS), res = (.inl k, σ1) → gTN E D A p l e R s m args below meth c Q cX12_runScript 4 RX12 k σ1) (hst : l.stackTraces = false) : ∀ (n : Nat), ∀ {l0 : Nat} {l3 : Int32} {σ : gS} {H : Heap} {locs : List Loc} {cells slots : Nat} {ls : Array Slot}, X12_runScript_47 E n l0 l3 σ = some res → gW E D A s σ H locs → lv_has ls 4 [(0, .ref l0), (3, .int l3)] → W p l e R s m args below meth c H locs cells slots Q (F0 m 47 ls []) := by
  intro n
  induction n with
  | zero =>
    intros
    rename_i hf _ _
    exact absurd hf (fun h => by cases (show (none : Option ((Nat ⊕ Int32) × gS)) = some res from h))
  | succ n ih =>
    intros
    rename_i hf hw hl
    exact X12_runScript_47_s_W hC hQ hT hst ih hf hw hl

def X12_runScript (E : gE) (l0 : Nat) (l1 : Int32) (σ : gS) : Option ((Nat ⊕ Int32) × gS) :=
  ob (gcl σ l0 10) fun _ =>
  ob (X12_checkLength_f E l0 l1 σ) fun x24 =>
  gtry x24 (fun k9 σ9 => some (Sum.inl k9, σ9)) (fun _ σ27 =>
    ob (gfR σ27 l0 10 5) fun x29 =>
    ob (gfR σ27 l0 10 0) fun x31 =>
    ob (gcl σ27 x31 9) fun _ =>
    ob (X11_columns_f E σ27 x31) fun x33 =>
    ob (gcl σ27 x29 7) fun _ =>
    ob (X9_readScript_f E x29 l1 x33 σ27) fun x36 =>
    ob (gfR x36.2 l0 10 4) fun x39 =>
    ob (gcl x36.2 x39 5) fun _ =>
    ob (X6_clear_f E x39 x36.2) fun x41 =>
    if x36.1 = 0 then
      some (Sum.inr (-1 : Int32), x41)
    else
      ob (gfR x41 l0 10 3) fun x44 =>
      ob (gfR x41 l0 10 0) fun x46 =>
      ob (gcl x41 x44 4) fun _ =>
      ob (X5_record_f E x44 x46 x41) fun x48 =>
      X12_runScript_47 E (gN E) l0 (0 : Int32) x48)
set_option maxHeartbeats 4000000 in
set_option maxRecDepth 100000 in
theorem X12_runScript_W {σ : gS} {l0 : Nat} {l1 : Int32} {res : ((Nat ⊕ Int32) × gS)} {ls : Array Slot} (hC : gC E D A p R s m args meth c cX12_runScript 4 RX12 "runScript" 9 213) (hQ : ∀ (r : Int32) (σ1 : gS), res = (.inr r, σ1) → gQI E D A p l e R s m args below meth c Q cX12_runScript FieldType.int (r, σ1)) (hT : ∀ (k : Nat) (σ1 : gS), res = (.inl k, σ1) → gTN E D A p l e R s m args below meth c Q cX12_runScript 4 RX12 k σ1) (hst : l.stackTraces = false) (hf : X12_runScript E l0 l1 σ = some res) (hw : gW E D A s σ H locs) (hl : lv_has ls 4 [(0, .ref l0), (1, .int l1)]) : W p l e R s m args below meth c H locs cells slots Q (F0 m 0 ls []) := by
  have hC0 := hC
  obtain ⟨hx, hb, hml, hown, hts, -⟩ := hC0
  unfold X12_runScript at hf
  refine lv_aload_n hx hb dX12_runScript_0 rfl (lv_at hl 0 rfl) ?_
  refine lv_iload_n hx hb dX12_runScript_1 rfl (lv_at hl 1 rfl) ?_
  obtain ⟨_, h26, hf⟩ := ob_some hf
  obtain ⟨x24, h25, hf⟩ := ob_some hf
  refine gg_yVV (As := [.int l1]) hC hw (X12_checkLength_M l hst E D A h25) h26 rfl g_ml_X12_83 hd_X12_checkLength (Nat.le_of_ble_eq_true rfl) (Nat.le_of_ble_eq_true rfl) hl.1 rfl (Nat.le_of_ble_eq_true rfl) dX12_runScript_2 (fun k9 σ9 he => ?_) (fun σ27 he H locs cells slots hw => ?_)
  · subst he
    replace hf := gtry_inl.symm.trans hf
    cases hf
    exact (hT _ _ rfl).2.2 _ _ _
  · subst he
    replace hf := gtry_inr.symm.trans hf
    refine lv_aload_n hx hb dX12_runScript_5 rfl (lv_at hl 0 rfl) ?_
    obtain ⟨x29, h30, hf⟩ := ob_some hf
    refine rR_fl_X12_38 hC hw h30 dX12_runScript_6 ?_
    refine lv_iload_n hx hb dX12_runScript_9 rfl (lv_at hl 1 rfl) ?_
    refine lv_aload_n hx hb dX12_runScript_10 rfl (lv_at hl 0 rfl) ?_
    obtain ⟨x31, h32, hf⟩ := ob_some hf
    refine rR_fl_X12_10 hC hw h32 dX12_runScript_11 ?_
    obtain ⟨_, h35, hf⟩ := ob_some hf
    obtain ⟨x33, h34, hf⟩ := ob_some hf
    refine gg_cVI (As := []) hC hw (X11_columns_M l E D A h34) h35 rfl g_ml_X12_115 hd_X11_columns (Nat.le_of_ble_eq_true rfl) (Nat.le_of_ble_eq_true rfl) hl.1 rfl (Nat.le_of_ble_eq_true rfl) dX12_runScript_14 (fun H locs cells slots hw => ?_)
    obtain ⟨_, h38, hf⟩ := ob_some hf
    obtain ⟨x36, h37, hf⟩ := ob_some hf
    refine gg_cVI (As := [.int l1, .int x33]) hC hw (X9_readScript_M l E D A h37) h38 rfl g_ml_X12_306 hd_X9_readScript (Nat.le_of_ble_eq_true rfl) (Nat.le_of_ble_eq_true rfl) hl.1 rfl (Nat.le_of_ble_eq_true rfl) dX12_runScript_17 (fun H locs cells slots hw => ?_)
    refine lv_istore_n (lv' := [(2, .int x36.1), (0, .ref l0), (1, .int l1)]) hx hb dX12_runScript_20 rfl hl (by decide) rfl (fun ls hl => ?_)
    refine lv_aload_n hx hb dX12_runScript_21 rfl (lv_at hl 1 rfl) ?_
    obtain ⟨x39, h40, hf⟩ := ob_some hf
    refine rR_fl_X12_29 hC hw h40 dX12_runScript_22 ?_
    obtain ⟨_, h43, hf⟩ := ob_some hf
    obtain ⟨x41, h42, hf⟩ := ob_some hf
    refine gg_cVV (As := []) hC hw (X6_clear_M l E D A h42) h43 rfl g_ml_X12_90 hd_X6_clear (Nat.le_of_ble_eq_true rfl) (Nat.le_of_ble_eq_true rfl) hl.1 rfl (Nat.le_of_ble_eq_true rfl) dX12_runScript_25 (fun H locs cells slots hw => ?_)
    refine lv_iload_n hx hb dX12_runScript_28 rfl (lv_at hl 0 rfl) ?_
    refine lv_if_ne (tgt := 34) hx hb dX12_runScript_29 (by decide) (fun c51 => ?_) (fun c51 => ?_)
    · replace hf := (if_neg c51).symm.trans hf
      refine lv_aload_n hx hb dX12_runScript_34 rfl (lv_at hl 1 rfl) ?_
      obtain ⟨x44, h45, hf⟩ := ob_some hf
      refine rR_fl_X12_22 hC hw h45 dX12_runScript_35 ?_
      refine lv_aload_n hx hb dX12_runScript_38 rfl (lv_at hl 1 rfl) ?_
      obtain ⟨x46, h47, hf⟩ := ob_some hf
      refine rR_fl_X12_10 hC hw h47 dX12_runScript_39 ?_
      obtain ⟨_, h50, hf⟩ := ob_some hf
      obtain ⟨x48, h49, hf⟩ := ob_some hf
      refine gg_cVV (As := [.ref x46]) hC hw (X5_record_M l E D A h49) h50 rfl g_ml_X12_275 hd_X5_record (Nat.le_of_ble_eq_true rfl) (Nat.le_of_ble_eq_true rfl) hl.1 rfl (Nat.le_of_ble_eq_true rfl) dX12_runScript_42 (fun H locs cells slots hw => ?_)
      refine lv_iconst (v := 0) hx hb dX12_runScript_45 (by decide) ?_
      refine lv_istore_n (lv' := [(3, .int (0 : Int32)), (2, .int x36.1), (0, .ref l0), (1, .int l1)]) hx hb dX12_runScript_46 rfl hl (by decide) rfl (fun ls hl => ?_)
      exact X12_runScript_47_W hC hQ hT hst (gN E) hf hw (lv_sub hl [2, 0] rfl)
    · replace hf := (if_pos c51).symm.trans hf
      refine lv_iconst (v := -1) hx hb dX12_runScript_32 (by decide) ?_
      cases hf
      exact hQ _ _ rfl _ _ _ _ _ _ dX12_runScript_33 rfl hw

def X12_runScript_f (E : gE) (l0 : Nat) (l1 : Int32) (σ : gS) : Option ((Nat ⊕ Int32) × gS) := X12_runScript E l0 l1 σ
set_option maxRecDepth 100000 in
theorem X12_runScript_M (l : Launch) (hst : l.stackTraces = false) (E : gE) (D : va_G) (A : Nat → Prop) {l0 : Nat} {l1 : Int32} {σ : gS} {res : ((Nat ⊕ Int32) × gS)} (hf : X12_runScript_f E l0 l1 σ = some res) : gYI l E D A yX12_runScript (Cond.code yX12_runScript cX12_runScript 4 (some FieldType.int)) 9 213 [.ref l0, .int l1] σ res := by
  refine gg_entYI (own := RX12) (nm := "runScript") (ty := FieldType.int) hst (Nat.le_of_ble_eq_true rfl) (Nat.le_of_ble_eq_true rfl) (by decide +kernel) rfl rfl (Nat.le_of_ble_eq_true rfl) rfl ?_
  intro p e R s m args below meth c Q ls hC hw hQ hT hl
  have hl : lv_has ls 4 [(0, .ref l0), (1, .int l1)] := hl
  exact X12_runScript_W hC hQ hT hst hf hw hl

end MC3
