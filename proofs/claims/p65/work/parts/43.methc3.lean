/-! decompiled: X12_addRow, X12_loadTable -/
section MC3
variable {p : Program} {l : Launch} {e : Env} {R : Room} {s : State} {m : MethodId} {args : Array Value} {below : List Frame} {meth : Method} {c : Code} {H : Heap} {locs : List Loc} {cells slots : Nat} {Q : State → Prop} {E : gE} {D : va_G} {A : Nat → Prop}
def X12_addRow (E : gE) (l0 : Nat) (l1 : Int32) (σ : gS) : Option ((Nat ⊕ Int32) × gS) :=
  ob (gcl σ l0 10) fun _ =>
  ob (X12_checkLength_f E l0 l1 σ) fun x1 =>
  gtry x1 (fun k9 σ9 => some (Sum.inl k9, σ9)) (fun _ σ4 =>
    ob (gfR σ4 l0 10 0) fun x6 =>
    ob (gcl σ4 x6 9) fun _ =>
    ob (X11_isFull_f E σ4 x6) fun x8 =>
    if x8 = 0 then
      ob (gfR σ4 l0 10 5) fun x11 =>
      ob (gfR σ4 l0 10 0) fun x13 =>
      ob (gcl σ4 x13 9) fun _ =>
      ob (X11_columns_f E σ4 x13) fun x15 =>
      ob (gcl σ4 x11 7) fun _ =>
      ob (X9_readRow_f E x11 l1 x15 σ4) fun x18 =>
      ob (gfR x18.2 l0 10 4) fun x21 =>
      ob (gcl x18.2 x21 5) fun _ =>
      ob (X6_clear_f E x21 x18.2) fun x23 =>
      if x18.1 = 0 then
        some (Sum.inr (-1 : Int32), x23)
      else
        ob (gfR x23 l0 10 3) fun x26 =>
        ob (gfR x23 l0 10 0) fun x28 =>
        ob (gcl x23 x26 4) fun _ =>
        ob (X5_record_f E x26 x28 x23) fun x30 =>
        ob (gfR x30 l0 10 0) fun x33 =>
        ob (gfR x30 l0 10 5) fun x35 =>
        ob (gcl x30 x35 7) fun _ =>
        ob (X9_cells_f E x30 x35) fun x37 =>
        ob (gcl x30 x33 9) fun _ =>
        ob (X11_appendRow_f E x33 x37 (0 : Int32) x30) fun x40 =>
        ob (gfR x40 l0 10 0) fun x43 =>
        ob (gcl x40 x43 9) fun _ =>
        ob (X11_rows_f E x40 x43) fun x45 =>
        some (Sum.inr (x45 - (1 : Int32)), x40)
    else
      ob (gthr E σ4) fun σ49 =>
      some (Sum.inl 2, σ49))
set_option maxHeartbeats 4000000 in
set_option maxRecDepth 100000 in
theorem X12_addRow_W {σ : gS} {l0 : Nat} {l1 : Int32} {res : ((Nat ⊕ Int32) × gS)} {ls : Array Slot} (hC : gC E D A p R s m args meth c cX12_addRow 3 RX12 "addRow" 8 191) (hQ : ∀ (r : Int32) (σ1 : gS), res = (.inr r, σ1) → gQI E D A p l e R s m args below meth c Q cX12_addRow FieldType.int (r, σ1)) (hT : ∀ (k : Nat) (σ1 : gS), res = (.inl k, σ1) → gTN E D A p l e R s m args below meth c Q cX12_addRow 3 RX12 k σ1) (hst : l.stackTraces = false) (hf : X12_addRow E l0 l1 σ = some res) (hw : gW E D A s σ H locs) (hl : lv_has ls 3 [(0, .ref l0), (1, .int l1)]) : W p l e R s m args below meth c H locs cells slots Q (F0 m 0 ls []) := by
  have hC0 := hC
  obtain ⟨hx, hb, hml, hown, hts, -⟩ := hC0
  unfold X12_addRow at hf
  refine lv_aload_n hx hb dX12_addRow_0 rfl (lv_at hl 0 rfl) ?_
  refine lv_iload_n hx hb dX12_addRow_1 rfl (lv_at hl 1 rfl) ?_
  obtain ⟨_, h3, hf⟩ := ob_some hf
  obtain ⟨x1, h2, hf⟩ := ob_some hf
  refine gg_yVV (As := [.int l1]) hC hw (X12_checkLength_M l hst E D A h2) h3 rfl g_ml_X12_83 hd_X12_checkLength (Nat.le_of_ble_eq_true rfl) (Nat.le_of_ble_eq_true rfl) hl.1 rfl (Nat.le_of_ble_eq_true rfl) dX12_addRow_2 (fun k9 σ9 he => ?_) (fun σ4 he H locs cells slots hw => ?_)
  · subst he
    replace hf := gtry_inl.symm.trans hf
    cases hf
    exact (hT _ _ rfl).2.2 _ _ _
  · subst he
    replace hf := gtry_inr.symm.trans hf
    refine lv_aload_n hx hb dX12_addRow_5 rfl (lv_at hl 0 rfl) ?_
    obtain ⟨x6, h7, hf⟩ := ob_some hf
    refine rR_fl_X12_10 hC hw h7 dX12_addRow_6 ?_
    obtain ⟨_, h10, hf⟩ := ob_some hf
    obtain ⟨x8, h9, hf⟩ := ob_some hf
    refine gg_cVI (As := []) hC hw (X11_isFull_M l E D A h9) h10 rfl g_ml_X12_263 hd_X11_isFull (Nat.le_of_ble_eq_true rfl) (Nat.le_of_ble_eq_true rfl) hl.1 rfl (Nat.le_of_ble_eq_true rfl) dX12_addRow_9 (fun H locs cells slots hw => ?_)
    refine lv_if_eq (tgt := 26) hx hb dX12_addRow_12 (by decide) (fun c51 => ?_) (fun c51 => ?_)
    · replace hf := (if_pos c51).symm.trans hf
      refine lv_aload_n hx hb dX12_addRow_26 rfl (lv_at hl 0 rfl) ?_
      obtain ⟨x11, h12, hf⟩ := ob_some hf
      refine rR_fl_X12_38 hC hw h12 dX12_addRow_27 ?_
      refine lv_iload_n hx hb dX12_addRow_30 rfl (lv_at hl 1 rfl) ?_
      refine lv_aload_n hx hb dX12_addRow_31 rfl (lv_at hl 0 rfl) ?_
      obtain ⟨x13, h14, hf⟩ := ob_some hf
      refine rR_fl_X12_10 hC hw h14 dX12_addRow_32 ?_
      obtain ⟨_, h17, hf⟩ := ob_some hf
      obtain ⟨x15, h16, hf⟩ := ob_some hf
      refine gg_cVI (As := []) hC hw (X11_columns_M l E D A h16) h17 rfl g_ml_X12_115 hd_X11_columns (Nat.le_of_ble_eq_true rfl) (Nat.le_of_ble_eq_true rfl) hl.1 rfl (Nat.le_of_ble_eq_true rfl) dX12_addRow_35 (fun H locs cells slots hw => ?_)
      obtain ⟨_, h20, hf⟩ := ob_some hf
      obtain ⟨x18, h19, hf⟩ := ob_some hf
      refine gg_cVI (As := [.int l1, .int x15]) hC hw (X9_readRow_M l E D A h19) h20 rfl g_ml_X12_271 hd_X9_readRow (Nat.le_of_ble_eq_true rfl) (Nat.le_of_ble_eq_true rfl) hl.1 rfl (Nat.le_of_ble_eq_true rfl) dX12_addRow_38 (fun H locs cells slots hw => ?_)
      refine lv_istore_n (lv' := [(2, .int x18.1), (0, .ref l0), (1, .int l1)]) hx hb dX12_addRow_41 rfl hl (by decide) rfl (fun ls hl => ?_)
      refine lv_aload_n hx hb dX12_addRow_42 rfl (lv_at hl 1 rfl) ?_
      obtain ⟨x21, h22, hf⟩ := ob_some hf
      refine rR_fl_X12_29 hC hw h22 dX12_addRow_43 ?_
      obtain ⟨_, h25, hf⟩ := ob_some hf
      obtain ⟨x23, h24, hf⟩ := ob_some hf
      refine gg_cVV (As := []) hC hw (X6_clear_M l E D A h24) h25 rfl g_ml_X12_90 hd_X6_clear (Nat.le_of_ble_eq_true rfl) (Nat.le_of_ble_eq_true rfl) hl.1 rfl (Nat.le_of_ble_eq_true rfl) dX12_addRow_46 (fun H locs cells slots hw => ?_)
      refine lv_iload_n hx hb dX12_addRow_49 rfl (lv_at hl 0 rfl) ?_
      refine lv_if_ne (tgt := 55) hx hb dX12_addRow_50 (by decide) (fun c48 => ?_) (fun c48 => ?_)
      · replace hf := (if_neg c48).symm.trans hf
        refine lv_aload_n hx hb dX12_addRow_55 rfl (lv_at hl 1 rfl) ?_
        obtain ⟨x26, h27, hf⟩ := ob_some hf
        refine rR_fl_X12_22 hC hw h27 dX12_addRow_56 ?_
        refine lv_aload_n hx hb dX12_addRow_59 rfl (lv_at hl 1 rfl) ?_
        obtain ⟨x28, h29, hf⟩ := ob_some hf
        refine rR_fl_X12_10 hC hw h29 dX12_addRow_60 ?_
        obtain ⟨_, h32, hf⟩ := ob_some hf
        obtain ⟨x30, h31, hf⟩ := ob_some hf
        refine gg_cVV (As := [.ref x28]) hC hw (X5_record_M l E D A h31) h32 rfl g_ml_X12_275 hd_X5_record (Nat.le_of_ble_eq_true rfl) (Nat.le_of_ble_eq_true rfl) hl.1 rfl (Nat.le_of_ble_eq_true rfl) dX12_addRow_63 (fun H locs cells slots hw => ?_)
        refine lv_aload_n hx hb dX12_addRow_66 rfl (lv_at hl 1 rfl) ?_
        obtain ⟨x33, h34, hf⟩ := ob_some hf
        refine rR_fl_X12_10 hC hw h34 dX12_addRow_67 ?_
        refine lv_aload_n hx hb dX12_addRow_70 rfl (lv_at hl 1 rfl) ?_
        obtain ⟨x35, h36, hf⟩ := ob_some hf
        refine rR_fl_X12_38 hC hw h36 dX12_addRow_71 ?_
        obtain ⟨_, h39, hf⟩ := ob_some hf
        obtain ⟨x37, h38, hf⟩ := ob_some hf
        refine gg_cVR (As := []) hC hw (X9_cells_M l E D A h38) h39 rfl g_ml_X12_99 hd_X9_cells (Nat.le_of_ble_eq_true rfl) (Nat.le_of_ble_eq_true rfl) hl.1 rfl (Nat.le_of_ble_eq_true rfl) dX12_addRow_74 (fun H locs cells slots hw => ?_)
        refine lv_iconst (v := 0) hx hb dX12_addRow_77 (by decide) ?_
        obtain ⟨_, h42, hf⟩ := ob_some hf
        obtain ⟨x40, h41, hf⟩ := ob_some hf
        refine gg_cVV (As := [.ref x37, .int (0 : Int32)]) hC hw (X11_appendRow_M l E D A h41) h42 rfl g_ml_X12_279 hd_X11_appendRow (Nat.le_of_ble_eq_true rfl) (Nat.le_of_ble_eq_true rfl) hl.1 rfl (Nat.le_of_ble_eq_true rfl) dX12_addRow_78 (fun H locs cells slots hw => ?_)
        refine lv_aload_n hx hb dX12_addRow_81 rfl (lv_at hl 1 rfl) ?_
        obtain ⟨x43, h44, hf⟩ := ob_some hf
        refine rR_fl_X12_10 hC hw h44 dX12_addRow_82 ?_
        obtain ⟨_, h47, hf⟩ := ob_some hf
        obtain ⟨x45, h46, hf⟩ := ob_some hf
        refine gg_cVI (As := []) hC hw (X11_rows_M l E D A h46) h47 rfl g_ml_X12_108 hd_X11_rows (Nat.le_of_ble_eq_true rfl) (Nat.le_of_ble_eq_true rfl) hl.1 rfl (Nat.le_of_ble_eq_true rfl) dX12_addRow_85 (fun H locs cells slots hw => ?_)
        refine lv_iconst (v := 1) hx hb dX12_addRow_88 (by decide) ?_
        refine lv_isub hx hb dX12_addRow_89 ?_
        cases hf
        exact hQ _ _ rfl _ _ _ _ _ _ dX12_addRow_90 rfl hw
      · replace hf := (if_pos c48).symm.trans hf
        refine lv_iconst (v := -1) hx hb dX12_addRow_53 (by decide) ?_
        cases hf
        exact hQ _ _ rfl _ _ _ _ _ _ dX12_addRow_54 rfl hw
    · replace hf := (if_neg c51).symm.trans hf
      obtain ⟨σ49, h50, hf⟩ := ob_some hf
      cases hf
      exact (hT _ _ rfl).2.1 _ _ _ _ 12 _ _ _ _ _ _ _ h50 hw hl.1 tw_2 rfl rfl rfl dX12_addRow_15 dX12_addRow_18 dX12_addRow_19 dX12_addRow_22 dX12_addRow_25

def X12_addRow_f (E : gE) (l0 : Nat) (l1 : Int32) (σ : gS) : Option ((Nat ⊕ Int32) × gS) := X12_addRow E l0 l1 σ
set_option maxRecDepth 100000 in
theorem X12_addRow_M (l : Launch) (hst : l.stackTraces = false) (E : gE) (D : va_G) (A : Nat → Prop) {l0 : Nat} {l1 : Int32} {σ : gS} {res : ((Nat ⊕ Int32) × gS)} (hf : X12_addRow_f E l0 l1 σ = some res) : gYI l E D A yX12_addRow (Cond.code yX12_addRow cX12_addRow 3 (some FieldType.int)) 8 191 [.ref l0, .int l1] σ res := by
  refine gg_entYI (own := RX12) (nm := "addRow") (ty := FieldType.int) hst (Nat.le_of_ble_eq_true rfl) (Nat.le_of_ble_eq_true rfl) (by decide +kernel) rfl rfl (Nat.le_of_ble_eq_true rfl) rfl ?_
  intro p e R s m args below meth c Q ls hC hw hQ hT hl
  have hl : lv_has ls 3 [(0, .ref l0), (1, .int l1)] := hl
  exact X12_addRow_W hC hQ hT hst hf hw hl

def X12_loadTable (E : gE) (l0 : Nat) (l1 : Int32) (σ : gS) : Option ((Nat ⊕ Int32) × gS) :=
  ob (gcl σ l0 10) fun _ =>
  ob (X12_checkLength_f E l0 l1 σ) fun x1 =>
  gtry x1 (fun k9 σ9 => some (Sum.inl k9, σ9)) (fun _ σ4 =>
    ob (gfR σ4 l0 10 5) fun x6 =>
    ob (gcl σ4 x6 7) fun _ =>
    ob (X9_readTable_f E x6 l1 σ4) fun x8 =>
    ob (gfR x8.2 l0 10 4) fun x11 =>
    ob (gcl x8.2 x11 5) fun _ =>
    ob (X6_clear_f E x11 x8.2) fun x13 =>
    if x8.1 = 0 then
      some (Sum.inr (-1 : Int32), x13)
    else
      ob (gfR x13 l0 10 0) fun x16 =>
      ob (gfR x13 l0 10 5) fun x18 =>
      ob (gcl x13 x18 7) fun _ =>
      ob (X9_columns_f E x13 x18) fun x20 =>
      ob (gfR x13 l0 10 5) fun x23 =>
      ob (gcl x13 x23 7) fun _ =>
      ob (X9_rows_f E x13 x23) fun x25 =>
      ob (gfR x13 l0 10 5) fun x28 =>
      ob (gcl x13 x28 7) fun _ =>
      ob (X9_cells_f E x13 x28) fun x30 =>
      ob (gcl x13 x16 9) fun _ =>
      ob (X11_replace_f E x16 x20 x25 x30 x13) fun x33 =>
      ob (gfR x33 l0 10 3) fun x36 =>
      ob (gcl x33 x36 4) fun _ =>
      ob (X5_clear_f E x36 x33) fun x38 =>
      ob (gz (0 : Int32)) fun _ =>
      ob (gpf E x38 l0 10 2 (.int (0 : Int32))) fun σ41 =>
      ob (gfR σ41 l0 10 0) fun x44 =>
      ob (gcl σ41 x44 9) fun _ =>
      ob (X11_rows_f E σ41 x44) fun x46 =>
      some (Sum.inr x46, σ41))
set_option maxHeartbeats 4000000 in
set_option maxRecDepth 100000 in
theorem X12_loadTable_W {σ : gS} {l0 : Nat} {l1 : Int32} {res : ((Nat ⊕ Int32) × gS)} {ls : Array Slot} (hC : gC E D A p R s m args meth c cX12_loadTable 3 RX12 "loadTable" 9 211) (hQ : ∀ (r : Int32) (σ1 : gS), res = (.inr r, σ1) → gQI E D A p l e R s m args below meth c Q cX12_loadTable FieldType.int (r, σ1)) (hT : ∀ (k : Nat) (σ1 : gS), res = (.inl k, σ1) → gTN E D A p l e R s m args below meth c Q cX12_loadTable 3 RX12 k σ1) (hst : l.stackTraces = false) (hf : X12_loadTable E l0 l1 σ = some res) (hw : gW E D A s σ H locs) (hl : lv_has ls 3 [(0, .ref l0), (1, .int l1)]) : W p l e R s m args below meth c H locs cells slots Q (F0 m 0 ls []) := by
  have hC0 := hC
  obtain ⟨hx, hb, hml, hown, hts, -⟩ := hC0
  unfold X12_loadTable at hf
  refine lv_aload_n hx hb dX12_loadTable_0 rfl (lv_at hl 0 rfl) ?_
  refine lv_iload_n hx hb dX12_loadTable_1 rfl (lv_at hl 1 rfl) ?_
  obtain ⟨_, h3, hf⟩ := ob_some hf
  obtain ⟨x1, h2, hf⟩ := ob_some hf
  refine gg_yVV (As := [.int l1]) hC hw (X12_checkLength_M l hst E D A h2) h3 rfl g_ml_X12_83 hd_X12_checkLength (Nat.le_of_ble_eq_true rfl) (Nat.le_of_ble_eq_true rfl) hl.1 rfl (Nat.le_of_ble_eq_true rfl) dX12_loadTable_2 (fun k9 σ9 he => ?_) (fun σ4 he H locs cells slots hw => ?_)
  · subst he
    replace hf := gtry_inl.symm.trans hf
    cases hf
    exact (hT _ _ rfl).2.2 _ _ _
  · subst he
    replace hf := gtry_inr.symm.trans hf
    refine lv_aload_n hx hb dX12_loadTable_5 rfl (lv_at hl 0 rfl) ?_
    obtain ⟨x6, h7, hf⟩ := ob_some hf
    refine rR_fl_X12_38 hC hw h7 dX12_loadTable_6 ?_
    refine lv_iload_n hx hb dX12_loadTable_9 rfl (lv_at hl 1 rfl) ?_
    obtain ⟨_, h10, hf⟩ := ob_some hf
    obtain ⟨x8, h9, hf⟩ := ob_some hf
    refine gg_cVI (As := [.int l1]) hC hw (X9_readTable_M l E D A h9) h10 rfl g_ml_X12_86 hd_X9_readTable (Nat.le_of_ble_eq_true rfl) (Nat.le_of_ble_eq_true rfl) hl.1 rfl (Nat.le_of_ble_eq_true rfl) dX12_loadTable_10 (fun H locs cells slots hw => ?_)
    refine lv_istore_n (lv' := [(2, .int x8.1), (0, .ref l0), (1, .int l1)]) hx hb dX12_loadTable_13 rfl hl (by decide) rfl (fun ls hl => ?_)
    refine lv_aload_n hx hb dX12_loadTable_14 rfl (lv_at hl 1 rfl) ?_
    obtain ⟨x11, h12, hf⟩ := ob_some hf
    refine rR_fl_X12_29 hC hw h12 dX12_loadTable_15 ?_
    obtain ⟨_, h15, hf⟩ := ob_some hf
    obtain ⟨x13, h14, hf⟩ := ob_some hf
    refine gg_cVV (As := []) hC hw (X6_clear_M l E D A h14) h15 rfl g_ml_X12_90 hd_X6_clear (Nat.le_of_ble_eq_true rfl) (Nat.le_of_ble_eq_true rfl) hl.1 rfl (Nat.le_of_ble_eq_true rfl) dX12_loadTable_18 (fun H locs cells slots hw => ?_)
    refine lv_iload_n hx hb dX12_loadTable_21 rfl (lv_at hl 0 rfl) ?_
    refine lv_if_ne (tgt := 27) hx hb dX12_loadTable_22 (by decide) (fun c49 => ?_) (fun c49 => ?_)
    · replace hf := (if_neg c49).symm.trans hf
      refine lv_aload_n hx hb dX12_loadTable_27 rfl (lv_at hl 1 rfl) ?_
      obtain ⟨x16, h17, hf⟩ := ob_some hf
      refine rR_fl_X12_10 hC hw h17 dX12_loadTable_28 ?_
      refine lv_aload_n hx hb dX12_loadTable_31 rfl (lv_at hl 1 rfl) ?_
      obtain ⟨x18, h19, hf⟩ := ob_some hf
      refine rR_fl_X12_38 hC hw h19 dX12_loadTable_32 ?_
      obtain ⟨_, h22, hf⟩ := ob_some hf
      obtain ⟨x20, h21, hf⟩ := ob_some hf
      refine gg_cVI (As := []) hC hw (X9_columns_M l E D A h21) h22 rfl g_ml_X12_93 hd_X9_columns (Nat.le_of_ble_eq_true rfl) (Nat.le_of_ble_eq_true rfl) hl.1 rfl (Nat.le_of_ble_eq_true rfl) dX12_loadTable_35 (fun H locs cells slots hw => ?_)
      refine lv_aload_n hx hb dX12_loadTable_38 rfl (lv_at hl 1 rfl) ?_
      obtain ⟨x23, h24, hf⟩ := ob_some hf
      refine rR_fl_X12_38 hC hw h24 dX12_loadTable_39 ?_
      obtain ⟨_, h27, hf⟩ := ob_some hf
      obtain ⟨x25, h26, hf⟩ := ob_some hf
      refine gg_cVI (As := []) hC hw (X9_rows_M l E D A h26) h27 rfl g_ml_X12_96 hd_X9_rows (Nat.le_of_ble_eq_true rfl) (Nat.le_of_ble_eq_true rfl) hl.1 rfl (Nat.le_of_ble_eq_true rfl) dX12_loadTable_42 (fun H locs cells slots hw => ?_)
      refine lv_aload_n hx hb dX12_loadTable_45 rfl (lv_at hl 1 rfl) ?_
      obtain ⟨x28, h29, hf⟩ := ob_some hf
      refine rR_fl_X12_38 hC hw h29 dX12_loadTable_46 ?_
      obtain ⟨_, h32, hf⟩ := ob_some hf
      obtain ⟨x30, h31, hf⟩ := ob_some hf
      refine gg_cVR (As := []) hC hw (X9_cells_M l E D A h31) h32 rfl g_ml_X12_99 hd_X9_cells (Nat.le_of_ble_eq_true rfl) (Nat.le_of_ble_eq_true rfl) hl.1 rfl (Nat.le_of_ble_eq_true rfl) dX12_loadTable_49 (fun H locs cells slots hw => ?_)
      obtain ⟨_, h35, hf⟩ := ob_some hf
      obtain ⟨x33, h34, hf⟩ := ob_some hf
      refine gg_cVV (As := [.int x20, .int x25, .ref x30]) hC hw (X11_replace_M l E D A h34) h35 rfl g_ml_X12_71 hd_X11_replace (Nat.le_of_ble_eq_true rfl) (Nat.le_of_ble_eq_true rfl) hl.1 rfl (Nat.le_of_ble_eq_true rfl) dX12_loadTable_52 (fun H locs cells slots hw => ?_)
      refine lv_aload_n hx hb dX12_loadTable_55 rfl (lv_at hl 1 rfl) ?_
      obtain ⟨x36, h37, hf⟩ := ob_some hf
      refine rR_fl_X12_22 hC hw h37 dX12_loadTable_56 ?_
      obtain ⟨_, h40, hf⟩ := ob_some hf
      obtain ⟨x38, h39, hf⟩ := ob_some hf
      refine gg_cVV (As := []) hC hw (X5_clear_M l E D A h39) h40 rfl g_ml_X12_103 hd_X5_clear (Nat.le_of_ble_eq_true rfl) (Nat.le_of_ble_eq_true rfl) hl.1 rfl (Nat.le_of_ble_eq_true rfl) dX12_loadTable_59 (fun H locs cells slots hw => ?_)
      refine lv_aload_n hx hb dX12_loadTable_62 rfl (lv_at hl 1 rfl) ?_
      refine lv_iconst (v := 0) hx hb dX12_loadTable_63 (by decide) ?_
      obtain ⟨_, h43, hf⟩ := ob_some hf
      obtain ⟨σ41, h42, hf⟩ := ob_some hf
      refine p_fl_X12_104 hC hw h42 (gz_some h43) (gz_fits h43) dX12_loadTable_64 (fun H locs hw => ?_)
      refine lv_aload_n hx hb dX12_loadTable_67 rfl (lv_at hl 1 rfl) ?_
      obtain ⟨x44, h45, hf⟩ := ob_some hf
      refine rR_fl_X12_10 hC hw h45 dX12_loadTable_68 ?_
      obtain ⟨_, h48, hf⟩ := ob_some hf
      obtain ⟨x46, h47, hf⟩ := ob_some hf
      refine gg_cVI (As := []) hC hw (X11_rows_M l E D A h47) h48 rfl g_ml_X12_108 hd_X11_rows (Nat.le_of_ble_eq_true rfl) (Nat.le_of_ble_eq_true rfl) hl.1 rfl (Nat.le_of_ble_eq_true rfl) dX12_loadTable_71 (fun H locs cells slots hw => ?_)
      cases hf
      exact hQ _ _ rfl _ _ _ _ _ _ dX12_loadTable_74 rfl hw
    · replace hf := (if_pos c49).symm.trans hf
      refine lv_iconst (v := -1) hx hb dX12_loadTable_25 (by decide) ?_
      cases hf
      exact hQ _ _ rfl _ _ _ _ _ _ dX12_loadTable_26 rfl hw

def X12_loadTable_f (E : gE) (l0 : Nat) (l1 : Int32) (σ : gS) : Option ((Nat ⊕ Int32) × gS) := X12_loadTable E l0 l1 σ
set_option maxRecDepth 100000 in
theorem X12_loadTable_M (l : Launch) (hst : l.stackTraces = false) (E : gE) (D : va_G) (A : Nat → Prop) {l0 : Nat} {l1 : Int32} {σ : gS} {res : ((Nat ⊕ Int32) × gS)} (hf : X12_loadTable_f E l0 l1 σ = some res) : gYI l E D A yX12_loadTable (Cond.code yX12_loadTable cX12_loadTable 3 (some FieldType.int)) 9 211 [.ref l0, .int l1] σ res := by
  refine gg_entYI (own := RX12) (nm := "loadTable") (ty := FieldType.int) hst (Nat.le_of_ble_eq_true rfl) (Nat.le_of_ble_eq_true rfl) (by decide +kernel) rfl rfl (Nat.le_of_ble_eq_true rfl) rfl ?_
  intro p e R s m args below meth c Q ls hC hw hQ hT hl
  have hl : lv_has ls 3 [(0, .ref l0), (1, .int l1)] := hl
  exact X12_loadTable_W hC hQ hT hst hf hw hl

end MC3
