/-! decompiled: X12_restoreSnapshot, X12_sumOfSelected, X12_collectSelected, X12_runsAfterSorting, X12_packingDifferences, X12_sortRows, X12_staleCount, X12_sumSelected, X12_smallestSelected, X12_greatestSelected, X12_distinctSelected, X12_bitWidthCompacted, X12_runsIfSorted, X12_bestSortColumn, X12_gap, X12_removeRow, X12_setValue, X12_sort, X12_removeCondition, X12_deleteSelected, X12_compact, X12_undo, X12_addCondition, X12_init, X12_addLess, X12_addEqual, X12_addGreater -/
section MC2
variable {p : Program} {l : Launch} {e : Env} {R : Room} {s : State} {m : MethodId} {args : Array Value} {below : List Frame} {meth : Method} {c : Code} {H : Heap} {locs : List Loc} {cells slots : Nat} {Q : State → Prop} {E : gE} {D : va_G} {A : Nat → Prop}
def X12_restoreSnapshot (E : gE) (l0 : Nat) (σ : gS) : Option ((Nat ⊕ Int32) × gS) :=
  ob (gfI σ l0 10 2) fun x1 =>
  if x1 = 0 then
    ob (gthr E σ) fun σ20 =>
    some (Sum.inl 2, σ20)
  else
    ob (gfR σ l0 10 0) fun x3 =>
    ob (gfR σ l0 10 1) fun x5 =>
    ob (gcl σ x3 9) fun _ =>
    ob (X11_copyFrom_f E x3 x5 σ) fun x7 =>
    ob (gfR x7 l0 10 3) fun x10 =>
    ob (gcl x7 x10 4) fun _ =>
    ob (X5_clear_f E x10 x7) fun x12 =>
    ob (gfR x12 l0 10 0) fun x15 =>
    ob (gcl x12 x15 9) fun _ =>
    ob (X11_rows_f E x12 x15) fun x17 =>
    some (Sum.inr x17, x12)
set_option maxHeartbeats 4000000 in
set_option maxRecDepth 100000 in
theorem X12_restoreSnapshot_W {σ : gS} {l0 : Nat} {res : ((Nat ⊕ Int32) × gS)} {ls : Array Slot} (hC : gC E D A p R s m args meth c cX12_restoreSnapshot 1 RX12 "restoreSnapshot" 6 144) (hQ : ∀ (r : Int32) (σ1 : gS), res = (.inr r, σ1) → gQI E D A p l e R s m args below meth c Q cX12_restoreSnapshot FieldType.int (r, σ1)) (hT : ∀ (k : Nat) (σ1 : gS), res = (.inl k, σ1) → gTN E D A p l e R s m args below meth c Q cX12_restoreSnapshot 1 RX12 k σ1) (hst : l.stackTraces = false) (hf : X12_restoreSnapshot E l0 σ = some res) (hw : gW E D A s σ H locs) (hl : lv_has ls 1 [(0, .ref l0)]) : W p l e R s m args below meth c H locs cells slots Q (F0 m 0 ls []) := by
  have hC0 := hC
  obtain ⟨hx, hb, hml, hown, hts, -⟩ := hC0
  unfold X12_restoreSnapshot at hf
  refine lv_aload_n hx hb dX12_restoreSnapshot_0 rfl (lv_at hl 0 rfl) ?_
  obtain ⟨x1, h2, hf⟩ := ob_some hf
  refine rI_fl_X12_104 hC hw h2 dX12_restoreSnapshot_1 ?_
  refine lv_if_ne (tgt := 18) hx hb dX12_restoreSnapshot_4 (by decide) (fun c22 => ?_) (fun c22 => ?_)
  · replace hf := (if_neg c22).symm.trans hf
    refine lv_aload_n hx hb dX12_restoreSnapshot_18 rfl (lv_at hl 0 rfl) ?_
    obtain ⟨x3, h4, hf⟩ := ob_some hf
    refine rR_fl_X12_10 hC hw h4 dX12_restoreSnapshot_19 ?_
    refine lv_aload_n hx hb dX12_restoreSnapshot_22 rfl (lv_at hl 0 rfl) ?_
    obtain ⟨x5, h6, hf⟩ := ob_some hf
    refine rR_fl_X12_16 hC hw h6 dX12_restoreSnapshot_23 ?_
    obtain ⟨_, h9, hf⟩ := ob_some hf
    obtain ⟨x7, h8, hf⟩ := ob_some hf
    refine gg_cVV (As := [.ref x5]) hC hw (X11_copyFrom_M l E D A h8) h9 rfl g_ml_X12_342 hd_X11_copyFrom (Nat.le_of_ble_eq_true rfl) (Nat.le_of_ble_eq_true rfl) hl.1 rfl (Nat.le_of_ble_eq_true rfl) dX12_restoreSnapshot_26 (fun H locs cells slots hw => ?_)
    refine lv_aload_n hx hb dX12_restoreSnapshot_29 rfl (lv_at hl 0 rfl) ?_
    obtain ⟨x10, h11, hf⟩ := ob_some hf
    refine rR_fl_X12_22 hC hw h11 dX12_restoreSnapshot_30 ?_
    obtain ⟨_, h14, hf⟩ := ob_some hf
    obtain ⟨x12, h13, hf⟩ := ob_some hf
    refine gg_cVV (As := []) hC hw (X5_clear_M l E D A h13) h14 rfl g_ml_X12_103 hd_X5_clear (Nat.le_of_ble_eq_true rfl) (Nat.le_of_ble_eq_true rfl) hl.1 rfl (Nat.le_of_ble_eq_true rfl) dX12_restoreSnapshot_33 (fun H locs cells slots hw => ?_)
    refine lv_aload_n hx hb dX12_restoreSnapshot_36 rfl (lv_at hl 0 rfl) ?_
    obtain ⟨x15, h16, hf⟩ := ob_some hf
    refine rR_fl_X12_10 hC hw h16 dX12_restoreSnapshot_37 ?_
    obtain ⟨_, h19, hf⟩ := ob_some hf
    obtain ⟨x17, h18, hf⟩ := ob_some hf
    refine gg_cVI (As := []) hC hw (X11_rows_M l E D A h18) h19 rfl g_ml_X12_108 hd_X11_rows (Nat.le_of_ble_eq_true rfl) (Nat.le_of_ble_eq_true rfl) hl.1 rfl (Nat.le_of_ble_eq_true rfl) dX12_restoreSnapshot_40 (fun H locs cells slots hw => ?_)
    cases hf
    exact hQ _ _ rfl _ _ _ _ _ _ dX12_restoreSnapshot_43 rfl hw
  · replace hf := (if_pos c22).symm.trans hf
    obtain ⟨σ20, h21, hf⟩ := ob_some hf
    cases hf
    exact (hT _ _ rfl).2.1 _ _ _ _ 15 _ _ _ _ _ _ _ h21 hw hl.1 tw_2 rfl rfl rfl dX12_restoreSnapshot_7 dX12_restoreSnapshot_10 dX12_restoreSnapshot_11 dX12_restoreSnapshot_14 dX12_restoreSnapshot_17

def X12_restoreSnapshot_f (E : gE) (l0 : Nat) (σ : gS) : Option ((Nat ⊕ Int32) × gS) := X12_restoreSnapshot E l0 σ
set_option maxRecDepth 100000 in
theorem X12_restoreSnapshot_M (l : Launch) (hst : l.stackTraces = false) (E : gE) (D : va_G) (A : Nat → Prop) {l0 : Nat} {σ : gS} {res : ((Nat ⊕ Int32) × gS)} (hf : X12_restoreSnapshot_f E l0 σ = some res) : gYI l E D A yX12_restoreSnapshot (Cond.code yX12_restoreSnapshot cX12_restoreSnapshot 1 (some FieldType.int)) 6 144 [.ref l0] σ res := by
  refine gg_entYI (own := RX12) (nm := "restoreSnapshot") (ty := FieldType.int) hst (Nat.le_of_ble_eq_true rfl) (Nat.le_of_ble_eq_true rfl) (by decide +kernel) rfl rfl (Nat.le_of_ble_eq_true rfl) rfl ?_
  intro p e R s m args below meth c Q ls hC hw hQ hT hl
  have hl : lv_has ls 1 [(0, .ref l0)] := hl
  exact X12_restoreSnapshot_W hC hQ hT hst hf hw hl

def X12_sumOfSelected_46 (E : gE) (σ : gS) (r_5 : Nat → Int32 → Int64 → Int32 → Option Int64) (l0 : Nat) (l1 : Int32) (l2 : Int64) (l4 : Int32) : Option Int64 :=
  r_5 l0 l1 l2 (l4 + 1)
set_option maxHeartbeats 4000000 in
set_option maxRecDepth 100000 in
theorem X12_sumOfSelected_46_W {σ : gS} {l0 : Nat} {l1 : Int32} {l2 : Int64} {l4 : Int32} {res : Int64} {ls : Array Slot} (hC : gC E D A p R s m args meth c cX12_sumOfSelected 5 RX12 "sumOfSelected" 5 107) (hQ : gQJ E D A p l e R s m args below meth c Q cX12_sumOfSelected (res, σ)) {r_5 : Nat → Int32 → Int64 → Int32 → Option Int64} (h_5 : ∀ {l0 : Nat} {l1 : Int32} {l2 : Int64} {l4 : Int32} {H : Heap} {locs : List Loc} {cells slots : Nat} {ls : Array Slot}, r_5 l0 l1 l2 l4 = some res → gW E D A s σ H locs → lv_has ls 5 [(0, .ref l0), (1, .int l1), (2, .long l2), (4, .int l4)] → W p l e R s m args below meth c H locs cells slots Q (F0 m 5 ls [])) (hf : X12_sumOfSelected_46 E σ r_5 l0 l1 l2 l4 = some res) (hw : gW E D A s σ H locs) (hl : lv_has ls 5 [(0, .ref l0), (1, .int l1), (2, .long l2), (4, .int l4)]) : W p l e R s m args below meth c H locs cells slots Q (F0 m 46 ls []) := by
  have hC0 := hC
  obtain ⟨hx, hb, hml, hown, hts, -⟩ := hC0
  unfold X12_sumOfSelected_46 at hf
  refine lv_iinc (v := (l4 + 1)) (lv' := [(4, .int (l4 + 1)), (0, .ref l0), (1, .int l1), (2, .long l2)]) hx hb dX12_sumOfSelected_46 hl (k := 3) rfl rfl (by decide) rfl (fun ls hl => ?_)
  refine lv_goto (tgt := 5) hx hb dX12_sumOfSelected_49 (by decide) ?_
  exact h_5 hf hw (lv_sub hl [1, 2, 3, 0] rfl)

def X12_sumOfSelected_5_s (E : gE) (σ : gS) (r_5 : Nat → Int32 → Int64 → Int32 → Option Int64) (l0 : Nat) (l1 : Int32) (l2 : Int64) (l4 : Int32) : Option Int64 :=
  ob (gfR σ l0 10 0) fun x1 =>
  ob (gcl σ x1 9) fun _ =>
  ob (X11_rows_f E σ x1) fun x3 =>
  if x3 ≤ l4 then
    some l2
  else
    ob (gfR σ l0 10 0) fun x6 =>
    ob (gcl σ x6 9) fun _ =>
    ob (X11_selects_f E σ x6 l4) fun x8 =>
    if x8 = 0 then
      X12_sumOfSelected_46 E σ r_5 l0 l1 l2 l4
    else
      ob (gfR σ l0 10 0) fun x11 =>
      ob (gcl σ x11 9) fun _ =>
      ob (X11_column_f E σ x11 l1) fun x13 =>
      ob (gcl σ x13 0) fun _ =>
      ob (X1_valueAt_f E σ x13 l4) fun x16 =>
      X12_sumOfSelected_46 E σ r_5 l0 l1 (l2 + x16.toInt64) l4
set_option maxHeartbeats 4000000 in
set_option maxRecDepth 100000 in
theorem X12_sumOfSelected_5_s_W {σ : gS} {l0 : Nat} {l1 : Int32} {l2 : Int64} {l4 : Int32} {res : Int64} {ls : Array Slot} (hC : gC E D A p R s m args meth c cX12_sumOfSelected 5 RX12 "sumOfSelected" 5 107) (hQ : gQJ E D A p l e R s m args below meth c Q cX12_sumOfSelected (res, σ)) {r_5 : Nat → Int32 → Int64 → Int32 → Option Int64} (h_5 : ∀ {l0 : Nat} {l1 : Int32} {l2 : Int64} {l4 : Int32} {H : Heap} {locs : List Loc} {cells slots : Nat} {ls : Array Slot}, r_5 l0 l1 l2 l4 = some res → gW E D A s σ H locs → lv_has ls 5 [(0, .ref l0), (1, .int l1), (2, .long l2), (4, .int l4)] → W p l e R s m args below meth c H locs cells slots Q (F0 m 5 ls [])) (hf : X12_sumOfSelected_5_s E σ r_5 l0 l1 l2 l4 = some res) (hw : gW E D A s σ H locs) (hl : lv_has ls 5 [(0, .ref l0), (1, .int l1), (2, .long l2), (4, .int l4)]) : W p l e R s m args below meth c H locs cells slots Q (F0 m 5 ls []) := by
  have hC0 := hC
  obtain ⟨hx, hb, hml, hown, hts, -⟩ := hC0
  unfold X12_sumOfSelected_5_s at hf
  refine lv_iload hx hb dX12_sumOfSelected_5 (lv_at hl 3 rfl) ?_
  refine lv_aload_n hx hb dX12_sumOfSelected_7 rfl (lv_at hl 0 rfl) ?_
  obtain ⟨x1, h2, hf⟩ := ob_some hf
  refine rR_fl_X12_10 hC hw h2 dX12_sumOfSelected_8 ?_
  obtain ⟨_, h5, hf⟩ := ob_some hf
  obtain ⟨x3, h4, hf⟩ := ob_some hf
  refine gg_cVI (As := []) hC hw (X11_rows_M l E D A h4) h5 rfl g_ml_X12_108 hd_X11_rows (Nat.le_of_ble_eq_true rfl) (Nat.le_of_ble_eq_true rfl) hl.1 rfl (Nat.le_of_ble_eq_true rfl) dX12_sumOfSelected_11 (fun H locs cells slots hw => ?_)
  refine lv_icmp_ge (tgt := 52) hx hb dX12_sumOfSelected_14 (by decide) (fun c20 => ?_) (fun c20 => ?_)
  · replace hf := (if_pos c20).symm.trans hf
    refine lv_lload_n hx hb dX12_sumOfSelected_52 rfl (lv_at hl 2 rfl) ?_
    cases hf
    exact hQ _ _ _ _ _ _ dX12_sumOfSelected_53 hw
  · replace hf := (if_neg c20).symm.trans hf
    refine lv_aload_n hx hb dX12_sumOfSelected_17 rfl (lv_at hl 0 rfl) ?_
    obtain ⟨x6, h7, hf⟩ := ob_some hf
    refine rR_fl_X12_10 hC hw h7 dX12_sumOfSelected_18 ?_
    refine lv_iload hx hb dX12_sumOfSelected_21 (lv_at hl 3 rfl) ?_
    obtain ⟨_, h10, hf⟩ := ob_some hf
    obtain ⟨x8, h9, hf⟩ := ob_some hf
    refine gg_cVI (As := [.int l4]) hC hw (X11_selects_M l E D A h9) h10 rfl g_ml_X12_226 hd_X11_selects (Nat.le_of_ble_eq_true rfl) (Nat.le_of_ble_eq_true rfl) hl.1 rfl (Nat.le_of_ble_eq_true rfl) dX12_sumOfSelected_23 (fun H locs cells slots hw => ?_)
    refine lv_if_eq (tgt := 46) hx hb dX12_sumOfSelected_26 (by decide) (fun c19 => ?_) (fun c19 => ?_)
    · replace hf := (if_pos c19).symm.trans hf
      exact X12_sumOfSelected_46_W hC hQ h_5 hf hw (lv_sub hl [0, 1, 2, 3] rfl)
    · replace hf := (if_neg c19).symm.trans hf
      refine lv_lload_n hx hb dX12_sumOfSelected_29 rfl (lv_at hl 2 rfl) ?_
      refine lv_aload_n hx hb dX12_sumOfSelected_30 rfl (lv_at hl 0 rfl) ?_
      obtain ⟨x11, h12, hf⟩ := ob_some hf
      refine rR_fl_X12_10 hC hw h12 dX12_sumOfSelected_31 ?_
      refine lv_iload_n hx hb dX12_sumOfSelected_34 rfl (lv_at hl 1 rfl) ?_
      obtain ⟨_, h15, hf⟩ := ob_some hf
      obtain ⟨x13, h14, hf⟩ := ob_some hf
      refine gg_cVR (As := [.int l1]) hC hw (X11_column_M l E D A h14) h15 rfl g_ml_X12_122 hd_X11_column (Nat.le_of_ble_eq_true rfl) (Nat.le_of_ble_eq_true rfl) hl.1 rfl (Nat.le_of_ble_eq_true rfl) dX12_sumOfSelected_35 (fun H locs cells slots hw => ?_)
      refine lv_iload hx hb dX12_sumOfSelected_38 (lv_at hl 3 rfl) ?_
      obtain ⟨_, h18, hf⟩ := ob_some hf
      obtain ⟨x16, h17, hf⟩ := ob_some hf
      refine gg_cVI (As := [.int l4]) hC hw (X1_valueAt_M l E D A h17) h18 rfl g_ml_X12_126 hd_X1_valueAt (Nat.le_of_ble_eq_true rfl) (Nat.le_of_ble_eq_true rfl) hl.1 rfl (Nat.le_of_ble_eq_true rfl) dX12_sumOfSelected_40 (fun H locs cells slots hw => ?_)
      refine lv_i2l (v := x16.toInt64) hx hb dX12_sumOfSelected_43 rfl ?_
      refine lv_ladd hx hb dX12_sumOfSelected_44 ?_
      refine lv_lstore_n (lv' := [(2, .long (l2 + x16.toInt64)), (0, .ref l0), (1, .int l1), (4, .int l4)]) hx hb dX12_sumOfSelected_45 rfl hl (by decide) rfl (fun ls hl => ?_)
      exact X12_sumOfSelected_46_W hC hQ h_5 hf hw (lv_sub hl [1, 2, 0, 3] rfl)
def X12_sumOfSelected_5 (E : gE) (σ : gS) : Nat → Nat → Int32 → Int64 → Int32 → Option Int64
  | 0 => fun _ _ _ _ => none
  | n + 1 => X12_sumOfSelected_5_s E σ (X12_sumOfSelected_5 E σ n)
theorem X12_sumOfSelected_5_W {σ : gS} {res : Int64} (hC : gC E D A p R s m args meth c cX12_sumOfSelected 5 RX12 "sumOfSelected" 5 107) (hQ : gQJ E D A p l e R s m args below meth c Q cX12_sumOfSelected (res, σ)) : ∀ (n : Nat), ∀ {l0 : Nat} {l1 : Int32} {l2 : Int64} {l4 : Int32} {H : Heap} {locs : List Loc} {cells slots : Nat} {ls : Array Slot}, X12_sumOfSelected_5 E σ n l0 l1 l2 l4 = some res → gW E D A s σ H locs → lv_has ls 5 [(0, .ref l0), (1, .int l1), (2, .long l2), (4, .int l4)] → W p l e R s m args below meth c H locs cells slots Q (F0 m 5 ls []) := by
  intro n
  induction n with
  | zero =>
    intros
    rename_i hf _ _
    exact absurd hf (fun h => by cases (show (none : Option Int64) = some res from h))
  | succ n ih =>
    intros
    rename_i hf hw hl
    exact X12_sumOfSelected_5_s_W hC hQ ih hf hw hl

def X12_sumOfSelected (E : gE) (σ : gS) (l0 : Nat) (l1 : Int32) : Option Int64 :=
  X12_sumOfSelected_5 E σ (gN E) l0 l1 (0 : Int64) (0 : Int32)
set_option maxHeartbeats 4000000 in
set_option maxRecDepth 100000 in
theorem X12_sumOfSelected_W {σ : gS} {l0 : Nat} {l1 : Int32} {res : Int64} {ls : Array Slot} (hC : gC E D A p R s m args meth c cX12_sumOfSelected 5 RX12 "sumOfSelected" 5 107) (hQ : gQJ E D A p l e R s m args below meth c Q cX12_sumOfSelected (res, σ)) (hf : X12_sumOfSelected E σ l0 l1 = some res) (hw : gW E D A s σ H locs) (hl : lv_has ls 5 [(0, .ref l0), (1, .int l1)]) : W p l e R s m args below meth c H locs cells slots Q (F0 m 0 ls []) := by
  have hC0 := hC
  obtain ⟨hx, hb, hml, hown, hts, -⟩ := hC0
  unfold X12_sumOfSelected at hf
  refine lv_lconst (v := 0) hx hb dX12_sumOfSelected_0 (by decide) ?_
  refine lv_lstore_n (lv' := [(2, .long (0 : Int64)), (0, .ref l0), (1, .int l1)]) hx hb dX12_sumOfSelected_1 rfl hl (by decide) rfl (fun ls hl => ?_)
  refine lv_iconst (v := 0) hx hb dX12_sumOfSelected_2 (by decide) ?_
  refine lv_istore (lv' := [(4, .int (0 : Int32)), (2, .long (0 : Int64)), (0, .ref l0), (1, .int l1)]) hx hb dX12_sumOfSelected_3 hl (by decide) rfl (fun ls hl => ?_)
  exact X12_sumOfSelected_5_W hC hQ (gN E) hf hw (lv_sub hl [2, 3, 1, 0] rfl)

def X12_sumOfSelected_f (E : gE) (σ : gS) (l0 : Nat) (l1 : Int32) : Option Int64 := X12_sumOfSelected E σ l0 l1
set_option maxRecDepth 100000 in
theorem X12_sumOfSelected_M (l : Launch) (E : gE) (D : va_G) (A : Nat → Prop) {l0 : Nat} {l1 : Int32} {σ : gS} {res : Int64} (hf : X12_sumOfSelected_f E σ l0 l1 = some res) : gCJ l E D A yX12_sumOfSelected cX12_sumOfSelected 5 5 107 (some FieldType.long) [.ref l0, .int l1] σ (res, σ) := by
  refine gg_entJ (own := RX12) (nm := "sumOfSelected") (by decide +kernel) rfl rfl (Nat.le_of_ble_eq_true rfl) rfl ?_
  intro p e R s m args below meth c Q ls hC hw hQ hl
  have hl : lv_has ls 5 [(0, .ref l0), (1, .int l1)] := hl
  exact X12_sumOfSelected_W hC hQ hf hw hl

def X12_collectSelected_50 (E : gE) (r_9 : Nat → Int32 → Int32 → gS → Option gS) (l0 : Nat) (l1 : Int32) (l2 : Int32) (σ : gS) : Option gS :=
  r_9 l0 l1 (l2 + 1) σ
set_option maxHeartbeats 4000000 in
set_option maxRecDepth 100000 in
theorem X12_collectSelected_50_W {σ : gS} {l0 : Nat} {l1 : Int32} {l2 : Int32} {σz : gS} {ls : Array Slot} (hC : gC E D A p R s m args meth c cX12_collectSelected 3 RX12 "collectSelected" 5 124) (hQ : gQV E D A p l e R s m args below meth c Q cX12_collectSelected σz) {r_9 : Nat → Int32 → Int32 → gS → Option gS} (h_9 : ∀ {l0 : Nat} {l1 : Int32} {l2 : Int32} {σ : gS} {H : Heap} {locs : List Loc} {cells slots : Nat} {ls : Array Slot}, r_9 l0 l1 l2 σ = some σz → gW E D A s σ H locs → lv_has ls 3 [(0, .ref l0), (1, .int l1), (2, .int l2)] → W p l e R s m args below meth c H locs cells slots Q (F0 m 9 ls [])) (hf : X12_collectSelected_50 E r_9 l0 l1 l2 σ = some σz) (hw : gW E D A s σ H locs) (hl : lv_has ls 3 [(0, .ref l0), (1, .int l1), (2, .int l2)]) : W p l e R s m args below meth c H locs cells slots Q (F0 m 50 ls []) := by
  have hC0 := hC
  obtain ⟨hx, hb, hml, hown, hts, -⟩ := hC0
  unfold X12_collectSelected_50 at hf
  refine lv_iinc (v := (l2 + 1)) (lv' := [(2, .int (l2 + 1)), (0, .ref l0), (1, .int l1)]) hx hb dX12_collectSelected_50 hl (k := 2) rfl rfl (by decide) rfl (fun ls hl => ?_)
  refine lv_goto (tgt := 9) hx hb dX12_collectSelected_53 (by decide) ?_
  exact h_9 hf hw (lv_sub hl [1, 2, 0] rfl)

def X12_collectSelected_9_s (E : gE) (r_9 : Nat → Int32 → Int32 → gS → Option gS) (l0 : Nat) (l1 : Int32) (l2 : Int32) (σ : gS) : Option gS :=
  ob (gfR σ l0 10 0) fun x1 =>
  ob (gcl σ x1 9) fun _ =>
  ob (X11_rows_f E σ x1) fun x3 =>
  if x3 ≤ l2 then
    some σ
  else
    ob (gfR σ l0 10 0) fun x6 =>
    ob (gcl σ x6 9) fun _ =>
    ob (X11_selects_f E σ x6 l2) fun x8 =>
    if x8 = 0 then
      X12_collectSelected_50 E r_9 l0 l1 l2 σ
    else
      ob (gfR σ l0 10 9) fun x11 =>
      ob (gfR σ l0 10 0) fun x13 =>
      ob (gcl σ x13 9) fun _ =>
      ob (X11_column_f E σ x13 l1) fun x15 =>
      ob (gcl σ x15 0) fun _ =>
      ob (X1_valueAt_f E σ x15 l2) fun x18 =>
      ob (gcl σ x11 2) fun _ =>
      ob (X3_insert_f E x11 x18 σ) fun x21 =>
      X12_collectSelected_50 E r_9 l0 l1 l2 x21
set_option maxHeartbeats 4000000 in
set_option maxRecDepth 100000 in
theorem X12_collectSelected_9_s_W {σ : gS} {l0 : Nat} {l1 : Int32} {l2 : Int32} {σz : gS} {ls : Array Slot} (hC : gC E D A p R s m args meth c cX12_collectSelected 3 RX12 "collectSelected" 5 124) (hQ : gQV E D A p l e R s m args below meth c Q cX12_collectSelected σz) {r_9 : Nat → Int32 → Int32 → gS → Option gS} (h_9 : ∀ {l0 : Nat} {l1 : Int32} {l2 : Int32} {σ : gS} {H : Heap} {locs : List Loc} {cells slots : Nat} {ls : Array Slot}, r_9 l0 l1 l2 σ = some σz → gW E D A s σ H locs → lv_has ls 3 [(0, .ref l0), (1, .int l1), (2, .int l2)] → W p l e R s m args below meth c H locs cells slots Q (F0 m 9 ls [])) (hf : X12_collectSelected_9_s E r_9 l0 l1 l2 σ = some σz) (hw : gW E D A s σ H locs) (hl : lv_has ls 3 [(0, .ref l0), (1, .int l1), (2, .int l2)]) : W p l e R s m args below meth c H locs cells slots Q (F0 m 9 ls []) := by
  have hC0 := hC
  obtain ⟨hx, hb, hml, hown, hts, -⟩ := hC0
  unfold X12_collectSelected_9_s at hf
  refine lv_iload_n hx hb dX12_collectSelected_9 rfl (lv_at hl 2 rfl) ?_
  refine lv_aload_n hx hb dX12_collectSelected_10 rfl (lv_at hl 0 rfl) ?_
  obtain ⟨x1, h2, hf⟩ := ob_some hf
  refine rR_fl_X12_10 hC hw h2 dX12_collectSelected_11 ?_
  obtain ⟨_, h5, hf⟩ := ob_some hf
  obtain ⟨x3, h4, hf⟩ := ob_some hf
  refine gg_cVI (As := []) hC hw (X11_rows_M l E D A h4) h5 rfl g_ml_X12_108 hd_X11_rows (Nat.le_of_ble_eq_true rfl) (Nat.le_of_ble_eq_true rfl) hl.1 rfl (Nat.le_of_ble_eq_true rfl) dX12_collectSelected_14 (fun H locs cells slots hw => ?_)
  refine lv_icmp_ge (tgt := 56) hx hb dX12_collectSelected_17 (by decide) (fun c25 => ?_) (fun c25 => ?_)
  · replace hf := (if_pos c25).symm.trans hf
    cases hf
    exact hQ _ _ _ _ _ _ dX12_collectSelected_56 hw
  · replace hf := (if_neg c25).symm.trans hf
    refine lv_aload_n hx hb dX12_collectSelected_20 rfl (lv_at hl 0 rfl) ?_
    obtain ⟨x6, h7, hf⟩ := ob_some hf
    refine rR_fl_X12_10 hC hw h7 dX12_collectSelected_21 ?_
    refine lv_iload_n hx hb dX12_collectSelected_24 rfl (lv_at hl 2 rfl) ?_
    obtain ⟨_, h10, hf⟩ := ob_some hf
    obtain ⟨x8, h9, hf⟩ := ob_some hf
    refine gg_cVI (As := [.int l2]) hC hw (X11_selects_M l E D A h9) h10 rfl g_ml_X12_226 hd_X11_selects (Nat.le_of_ble_eq_true rfl) (Nat.le_of_ble_eq_true rfl) hl.1 rfl (Nat.le_of_ble_eq_true rfl) dX12_collectSelected_25 (fun H locs cells slots hw => ?_)
    refine lv_if_eq (tgt := 50) hx hb dX12_collectSelected_28 (by decide) (fun c24 => ?_) (fun c24 => ?_)
    · replace hf := (if_pos c24).symm.trans hf
      exact X12_collectSelected_50_W hC hQ h_9 hf hw (lv_sub hl [0, 1, 2] rfl)
    · replace hf := (if_neg c24).symm.trans hf
      refine lv_aload_n hx hb dX12_collectSelected_31 rfl (lv_at hl 0 rfl) ?_
      obtain ⟨x11, h12, hf⟩ := ob_some hf
      refine rR_fl_X12_56 hC hw h12 dX12_collectSelected_32 ?_
      refine lv_aload_n hx hb dX12_collectSelected_35 rfl (lv_at hl 0 rfl) ?_
      obtain ⟨x13, h14, hf⟩ := ob_some hf
      refine rR_fl_X12_10 hC hw h14 dX12_collectSelected_36 ?_
      refine lv_iload_n hx hb dX12_collectSelected_39 rfl (lv_at hl 1 rfl) ?_
      obtain ⟨_, h17, hf⟩ := ob_some hf
      obtain ⟨x15, h16, hf⟩ := ob_some hf
      refine gg_cVR (As := [.int l1]) hC hw (X11_column_M l E D A h16) h17 rfl g_ml_X12_122 hd_X11_column (Nat.le_of_ble_eq_true rfl) (Nat.le_of_ble_eq_true rfl) hl.1 rfl (Nat.le_of_ble_eq_true rfl) dX12_collectSelected_40 (fun H locs cells slots hw => ?_)
      refine lv_iload_n hx hb dX12_collectSelected_43 rfl (lv_at hl 2 rfl) ?_
      obtain ⟨_, h20, hf⟩ := ob_some hf
      obtain ⟨x18, h19, hf⟩ := ob_some hf
      refine gg_cVI (As := [.int l2]) hC hw (X1_valueAt_M l E D A h19) h20 rfl g_ml_X12_126 hd_X1_valueAt (Nat.le_of_ble_eq_true rfl) (Nat.le_of_ble_eq_true rfl) hl.1 rfl (Nat.le_of_ble_eq_true rfl) dX12_collectSelected_44 (fun H locs cells slots hw => ?_)
      obtain ⟨_, h23, hf⟩ := ob_some hf
      obtain ⟨x21, h22, hf⟩ := ob_some hf
      refine gg_cVV (As := [.int x18]) hC hw (X3_insert_M l E D A h22) h23 rfl g_ml_X12_371 hd_X3_insert (Nat.le_of_ble_eq_true rfl) (Nat.le_of_ble_eq_true rfl) hl.1 rfl (Nat.le_of_ble_eq_true rfl) dX12_collectSelected_47 (fun H locs cells slots hw => ?_)
      exact X12_collectSelected_50_W hC hQ h_9 hf hw (lv_sub hl [0, 1, 2] rfl)
def X12_collectSelected_9 (E : gE) : Nat → Nat → Int32 → Int32 → gS → Option gS
  | 0 => fun _ _ _ _ => none
  | n + 1 => X12_collectSelected_9_s E (X12_collectSelected_9 E n)
theorem X12_collectSelected_9_W {σz : gS} (hC : gC E D A p R s m args meth c cX12_collectSelected 3 RX12 "collectSelected" 5 124) (hQ : gQV E D A p l e R s m args below meth c Q cX12_collectSelected σz) : ∀ (n : Nat), ∀ {l0 : Nat} {l1 : Int32} {l2 : Int32} {σ : gS} {H : Heap} {locs : List Loc} {cells slots : Nat} {ls : Array Slot}, X12_collectSelected_9 E n l0 l1 l2 σ = some σz → gW E D A s σ H locs → lv_has ls 3 [(0, .ref l0), (1, .int l1), (2, .int l2)] → W p l e R s m args below meth c H locs cells slots Q (F0 m 9 ls []) := by
  intro n
  induction n with
  | zero =>
    intros
    rename_i hf _ _
    exact absurd hf (fun h => by cases (show (none : Option gS) = some σz from h))
  | succ n ih =>
    intros
    rename_i hf hw hl
    exact X12_collectSelected_9_s_W hC hQ ih hf hw hl

def X12_collectSelected (E : gE) (l0 : Nat) (l1 : Int32) (σ : gS) : Option gS :=
  ob (gfR σ l0 10 9) fun x26 =>
  ob (gcl σ x26 2) fun _ =>
  ob (X3_clear_f E x26 σ) fun x28 =>
  X12_collectSelected_9 E (gN E) l0 l1 (0 : Int32) x28
set_option maxHeartbeats 4000000 in
set_option maxRecDepth 100000 in
theorem X12_collectSelected_W {σ : gS} {l0 : Nat} {l1 : Int32} {σz : gS} {ls : Array Slot} (hC : gC E D A p R s m args meth c cX12_collectSelected 3 RX12 "collectSelected" 5 124) (hQ : gQV E D A p l e R s m args below meth c Q cX12_collectSelected σz) (hf : X12_collectSelected E l0 l1 σ = some σz) (hw : gW E D A s σ H locs) (hl : lv_has ls 3 [(0, .ref l0), (1, .int l1)]) : W p l e R s m args below meth c H locs cells slots Q (F0 m 0 ls []) := by
  have hC0 := hC
  obtain ⟨hx, hb, hml, hown, hts, -⟩ := hC0
  unfold X12_collectSelected at hf
  refine lv_aload_n hx hb dX12_collectSelected_0 rfl (lv_at hl 0 rfl) ?_
  obtain ⟨x26, h27, hf⟩ := ob_some hf
  refine rR_fl_X12_56 hC hw h27 dX12_collectSelected_1 ?_
  obtain ⟨_, h30, hf⟩ := ob_some hf
  obtain ⟨x28, h29, hf⟩ := ob_some hf
  refine gg_cVV (As := []) hC hw (X3_clear_M l E D A h29) h30 rfl g_ml_X12_370 hd_X3_clear (Nat.le_of_ble_eq_true rfl) (Nat.le_of_ble_eq_true rfl) hl.1 rfl (Nat.le_of_ble_eq_true rfl) dX12_collectSelected_4 (fun H locs cells slots hw => ?_)
  refine lv_iconst (v := 0) hx hb dX12_collectSelected_7 (by decide) ?_
  refine lv_istore_n (lv' := [(2, .int (0 : Int32)), (0, .ref l0), (1, .int l1)]) hx hb dX12_collectSelected_8 rfl hl (by decide) rfl (fun ls hl => ?_)
  exact X12_collectSelected_9_W hC hQ (gN E) hf hw (lv_sub hl [1, 2, 0] rfl)

def X12_collectSelected_f (E : gE) (l0 : Nat) (l1 : Int32) (σ : gS) : Option gS := X12_collectSelected E l0 l1 σ
set_option maxRecDepth 100000 in
theorem X12_collectSelected_M (l : Launch) (E : gE) (D : va_G) (A : Nat → Prop) {l0 : Nat} {l1 : Int32} {σ : gS} {σz : gS} (hf : X12_collectSelected_f E l0 l1 σ = some σz) : gCV l E D A yX12_collectSelected cX12_collectSelected 3 5 124 none [.ref l0, .int l1] σ σz := by
  refine gg_entV (own := RX12) (nm := "collectSelected") (by decide +kernel) rfl rfl (Nat.le_of_ble_eq_true rfl) rfl ?_
  intro p e R s m args below meth c Q ls hC hw hQ hl
  have hl : lv_has ls 3 [(0, .ref l0), (1, .int l1)] := hl
  exact X12_collectSelected_W hC hQ hf hw hl

def X12_runsAfterSorting_20_s (E : gE) (r_20 : Nat → Int32 → Int32 → gS → Option (Int32 × gS)) (l0 : Nat) (l2 : Int32) (l3 : Int32) (σ : gS) : Option (Int32 × gS) :=
  ob (gfR σ l0 10 0) fun x1 =>
  ob (gcl σ x1 9) fun _ =>
  ob (X11_columns_f E σ x1) fun x3 =>
  if x3 ≤ l3 then
    some (l2, σ)
  else
    ob (gfR σ l0 10 0) fun x6 =>
    ob (gcl σ x6 9) fun _ =>
    ob (X11_column_f E σ x6 l3) fun x8 =>
    ob (gfR σ l0 10 8) fun x11 =>
    ob (gcl σ x8 0) fun _ =>
    ob (X1_runsIn_f E σ x8 x11) fun x13 =>
    r_20 l0 (l2 + x13) (l3 + 1) σ
set_option maxHeartbeats 4000000 in
set_option maxRecDepth 100000 in
theorem X12_runsAfterSorting_20_s_W {σ : gS} {l0 : Nat} {l2 : Int32} {l3 : Int32} {res : (Int32 × gS)} {ls : Array Slot} (hC : gC E D A p R s m args meth c cX12_runsAfterSorting 4 RX12 "runsAfterSorting" 2 48) (hQ : gQI E D A p l e R s m args below meth c Q cX12_runsAfterSorting FieldType.int res) {r_20 : Nat → Int32 → Int32 → gS → Option (Int32 × gS)} (h_20 : ∀ {l0 : Nat} {l2 : Int32} {l3 : Int32} {σ : gS} {H : Heap} {locs : List Loc} {cells slots : Nat} {ls : Array Slot}, r_20 l0 l2 l3 σ = some res → gW E D A s σ H locs → lv_has ls 4 [(0, .ref l0), (2, .int l2), (3, .int l3)] → W p l e R s m args below meth c H locs cells slots Q (F0 m 20 ls [])) (hf : X12_runsAfterSorting_20_s E r_20 l0 l2 l3 σ = some res) (hw : gW E D A s σ H locs) (hl : lv_has ls 4 [(0, .ref l0), (2, .int l2), (3, .int l3)]) : W p l e R s m args below meth c H locs cells slots Q (F0 m 20 ls []) := by
  have hC0 := hC
  obtain ⟨hx, hb, hml, hown, hts, -⟩ := hC0
  unfold X12_runsAfterSorting_20_s at hf
  refine lv_iload_n hx hb dX12_runsAfterSorting_20 rfl (lv_at hl 2 rfl) ?_
  refine lv_aload_n hx hb dX12_runsAfterSorting_21 rfl (lv_at hl 0 rfl) ?_
  obtain ⟨x1, h2, hf⟩ := ob_some hf
  refine rR_fl_X12_10 hC hw h2 dX12_runsAfterSorting_22 ?_
  obtain ⟨_, h5, hf⟩ := ob_some hf
  obtain ⟨x3, h4, hf⟩ := ob_some hf
  refine gg_cVI (As := []) hC hw (X11_columns_M l E D A h4) h5 rfl g_ml_X12_115 hd_X11_columns (Nat.le_of_ble_eq_true rfl) (Nat.le_of_ble_eq_true rfl) hl.1 rfl (Nat.le_of_ble_eq_true rfl) dX12_runsAfterSorting_25 (fun H locs cells slots hw => ?_)
  refine lv_icmp_ge (tgt := 55) hx hb dX12_runsAfterSorting_28 (by decide) (fun c16 => ?_) (fun c16 => ?_)
  · replace hf := (if_pos c16).symm.trans hf
    refine lv_iload_n hx hb dX12_runsAfterSorting_55 rfl (lv_at hl 1 rfl) ?_
    cases hf
    exact hQ _ _ _ _ _ _ dX12_runsAfterSorting_56 rfl hw
  · replace hf := (if_neg c16).symm.trans hf
    refine lv_iload_n hx hb dX12_runsAfterSorting_31 rfl (lv_at hl 1 rfl) ?_
    refine lv_aload_n hx hb dX12_runsAfterSorting_32 rfl (lv_at hl 0 rfl) ?_
    obtain ⟨x6, h7, hf⟩ := ob_some hf
    refine rR_fl_X12_10 hC hw h7 dX12_runsAfterSorting_33 ?_
    refine lv_iload_n hx hb dX12_runsAfterSorting_36 rfl (lv_at hl 2 rfl) ?_
    obtain ⟨_, h10, hf⟩ := ob_some hf
    obtain ⟨x8, h9, hf⟩ := ob_some hf
    refine gg_cVR (As := [.int l3]) hC hw (X11_column_M l E D A h9) h10 rfl g_ml_X12_122 hd_X11_column (Nat.le_of_ble_eq_true rfl) (Nat.le_of_ble_eq_true rfl) hl.1 rfl (Nat.le_of_ble_eq_true rfl) dX12_runsAfterSorting_37 (fun H locs cells slots hw => ?_)
    refine lv_aload_n hx hb dX12_runsAfterSorting_40 rfl (lv_at hl 0 rfl) ?_
    obtain ⟨x11, h12, hf⟩ := ob_some hf
    refine rR_fl_X12_49 hC hw h12 dX12_runsAfterSorting_41 ?_
    obtain ⟨_, h15, hf⟩ := ob_some hf
    obtain ⟨x13, h14, hf⟩ := ob_some hf
    refine gg_cVI (As := [.ref x11]) hC hw (X1_runsIn_M l E D A h14) h15 rfl g_ml_X12_187 hd_X1_runsIn (Nat.le_of_ble_eq_true rfl) (Nat.le_of_ble_eq_true rfl) hl.1 rfl (Nat.le_of_ble_eq_true rfl) dX12_runsAfterSorting_44 (fun H locs cells slots hw => ?_)
    refine lv_iadd hx hb dX12_runsAfterSorting_47 ?_
    refine lv_istore_n (lv' := [(2, .int (l2 + x13)), (0, .ref l0), (3, .int l3)]) hx hb dX12_runsAfterSorting_48 rfl hl (by decide) rfl (fun ls hl => ?_)
    refine lv_iinc (v := (l3 + 1)) (lv' := [(3, .int (l3 + 1)), (2, .int (l2 + x13)), (0, .ref l0)]) hx hb dX12_runsAfterSorting_49 hl (k := 2) rfl rfl (by decide) rfl (fun ls hl => ?_)
    refine lv_goto (tgt := 20) hx hb dX12_runsAfterSorting_52 (by decide) ?_
    exact h_20 hf hw (lv_sub hl [2, 1, 0] rfl)
def X12_runsAfterSorting_20 (E : gE) : Nat → Nat → Int32 → Int32 → gS → Option (Int32 × gS)
  | 0 => fun _ _ _ _ => none
  | n + 1 => X12_runsAfterSorting_20_s E (X12_runsAfterSorting_20 E n)
theorem X12_runsAfterSorting_20_W {res : (Int32 × gS)} (hC : gC E D A p R s m args meth c cX12_runsAfterSorting 4 RX12 "runsAfterSorting" 2 48) (hQ : gQI E D A p l e R s m args below meth c Q cX12_runsAfterSorting FieldType.int res) : ∀ (n : Nat), ∀ {l0 : Nat} {l2 : Int32} {l3 : Int32} {σ : gS} {H : Heap} {locs : List Loc} {cells slots : Nat} {ls : Array Slot}, X12_runsAfterSorting_20 E n l0 l2 l3 σ = some res → gW E D A s σ H locs → lv_has ls 4 [(0, .ref l0), (2, .int l2), (3, .int l3)] → W p l e R s m args below meth c H locs cells slots Q (F0 m 20 ls []) := by
  intro n
  induction n with
  | zero =>
    intros
    rename_i hf _ _
    exact absurd hf (fun h => by cases (show (none : Option (Int32 × gS)) = some res from h))
  | succ n ih =>
    intros
    rename_i hf hw hl
    exact X12_runsAfterSorting_20_s_W hC hQ ih hf hw hl

def X12_runsAfterSorting (E : gE) (l0 : Nat) (l1 : Int32) (σ : gS) : Option (Int32 × gS) :=
  ob (gfR σ l0 10 8) fun x17 =>
  ob (gfR σ l0 10 0) fun x19 =>
  ob (gcl σ x19 9) fun _ =>
  ob (X11_column_f E σ x19 l1) fun x21 =>
  ob (gcl σ x17 8) fun _ =>
  ob (X10_sortBy_f E x17 x21 (1 : Int32) σ) fun x24 =>
  X12_runsAfterSorting_20 E (gN E) l0 (0 : Int32) (0 : Int32) x24
set_option maxHeartbeats 4000000 in
set_option maxRecDepth 100000 in
theorem X12_runsAfterSorting_W {σ : gS} {l0 : Nat} {l1 : Int32} {res : (Int32 × gS)} {ls : Array Slot} (hC : gC E D A p R s m args meth c cX12_runsAfterSorting 4 RX12 "runsAfterSorting" 2 48) (hQ : gQI E D A p l e R s m args below meth c Q cX12_runsAfterSorting FieldType.int res) (hf : X12_runsAfterSorting E l0 l1 σ = some res) (hw : gW E D A s σ H locs) (hl : lv_has ls 4 [(0, .ref l0), (1, .int l1)]) : W p l e R s m args below meth c H locs cells slots Q (F0 m 0 ls []) := by
  have hC0 := hC
  obtain ⟨hx, hb, hml, hown, hts, -⟩ := hC0
  unfold X12_runsAfterSorting at hf
  refine lv_aload_n hx hb dX12_runsAfterSorting_0 rfl (lv_at hl 0 rfl) ?_
  obtain ⟨x17, h18, hf⟩ := ob_some hf
  refine rR_fl_X12_49 hC hw h18 dX12_runsAfterSorting_1 ?_
  refine lv_aload_n hx hb dX12_runsAfterSorting_4 rfl (lv_at hl 0 rfl) ?_
  obtain ⟨x19, h20, hf⟩ := ob_some hf
  refine rR_fl_X12_10 hC hw h20 dX12_runsAfterSorting_5 ?_
  refine lv_iload_n hx hb dX12_runsAfterSorting_8 rfl (lv_at hl 1 rfl) ?_
  obtain ⟨_, h23, hf⟩ := ob_some hf
  obtain ⟨x21, h22, hf⟩ := ob_some hf
  refine gg_cVR (As := [.int l1]) hC hw (X11_column_M l E D A h22) h23 rfl g_ml_X12_122 hd_X11_column (Nat.le_of_ble_eq_true rfl) (Nat.le_of_ble_eq_true rfl) hl.1 rfl (Nat.le_of_ble_eq_true rfl) dX12_runsAfterSorting_9 (fun H locs cells slots hw => ?_)
  refine lv_iconst (v := 1) hx hb dX12_runsAfterSorting_12 (by decide) ?_
  obtain ⟨_, h26, hf⟩ := ob_some hf
  obtain ⟨x24, h25, hf⟩ := ob_some hf
  refine gg_cVV (As := [.ref x21, .int (1 : Int32)]) hC hw (X10_sortBy_M l E D A h25) h26 rfl g_ml_X12_374 hd_X10_sortBy (Nat.le_of_ble_eq_true rfl) (Nat.le_of_ble_eq_true rfl) hl.1 rfl (Nat.le_of_ble_eq_true rfl) dX12_runsAfterSorting_13 (fun H locs cells slots hw => ?_)
  refine lv_iconst (v := 0) hx hb dX12_runsAfterSorting_16 (by decide) ?_
  refine lv_istore_n (lv' := [(2, .int (0 : Int32)), (0, .ref l0), (1, .int l1)]) hx hb dX12_runsAfterSorting_17 rfl hl (by decide) rfl (fun ls hl => ?_)
  refine lv_iconst (v := 0) hx hb dX12_runsAfterSorting_18 (by decide) ?_
  refine lv_istore_n (lv' := [(3, .int (0 : Int32)), (2, .int (0 : Int32)), (0, .ref l0), (1, .int l1)]) hx hb dX12_runsAfterSorting_19 rfl hl (by decide) rfl (fun ls hl => ?_)
  exact X12_runsAfterSorting_20_W hC hQ (gN E) hf hw (lv_sub hl [2, 1, 0] rfl)

def X12_runsAfterSorting_f (E : gE) (l0 : Nat) (l1 : Int32) (σ : gS) : Option (Int32 × gS) := X12_runsAfterSorting E l0 l1 σ
set_option maxRecDepth 100000 in
theorem X12_runsAfterSorting_M (l : Launch) (E : gE) (D : va_G) (A : Nat → Prop) {l0 : Nat} {l1 : Int32} {σ : gS} {res : (Int32 × gS)} (hf : X12_runsAfterSorting_f E l0 l1 σ = some res) : gCI l E D A yX12_runsAfterSorting cX12_runsAfterSorting 4 2 48 (some FieldType.int) [.ref l0, .int l1] σ res := by
  refine gg_entI (own := RX12) (nm := "runsAfterSorting") (ty := FieldType.int) (by decide +kernel) rfl rfl (Nat.le_of_ble_eq_true rfl) rfl ?_
  intro p e R s m args below meth c Q ls hC hw hQ hl
  have hl : lv_has ls 4 [(0, .ref l0), (1, .int l1)] := hl
  exact X12_runsAfterSorting_W hC hQ hf hw hl

def X12_packingDifferences_62 (E : gE) (r_12 : Nat → Nat → Int32 → Int32 → gS → Option (Int32 × gS)) (l0 : Nat) (l1 : Nat) (l2 : Int32) (l3 : Int32) (σ : gS) : Option (Int32 × gS) :=
  r_12 l0 l1 l2 (l3 + 1) σ
set_option maxHeartbeats 4000000 in
set_option maxRecDepth 100000 in
theorem X12_packingDifferences_62_W {σ : gS} {l0 : Nat} {l1 : Nat} {l2 : Int32} {l3 : Int32} {res : (Int32 × gS)} {ls : Array Slot} (hC : gC E D A p R s m args meth c cX12_packingDifferences 5 RX12 "packingDifferences" 4 89) (hQ : gQI E D A p l e R s m args below meth c Q cX12_packingDifferences FieldType.int res) {r_12 : Nat → Nat → Int32 → Int32 → gS → Option (Int32 × gS)} (h_12 : ∀ {l0 : Nat} {l1 : Nat} {l2 : Int32} {l3 : Int32} {σ : gS} {H : Heap} {locs : List Loc} {cells slots : Nat} {ls : Array Slot}, r_12 l0 l1 l2 l3 σ = some res → gW E D A s σ H locs → lv_has ls 5 [(0, .ref l0), (1, .ref l1), (2, .int l2), (3, .int l3)] → W p l e R s m args below meth c H locs cells slots Q (F0 m 12 ls [])) (hf : X12_packingDifferences_62 E r_12 l0 l1 l2 l3 σ = some res) (hw : gW E D A s σ H locs) (hl : lv_has ls 5 [(0, .ref l0), (1, .ref l1), (2, .int l2), (3, .int l3)]) : W p l e R s m args below meth c H locs cells slots Q (F0 m 62 ls []) := by
  have hC0 := hC
  obtain ⟨hx, hb, hml, hown, hts, -⟩ := hC0
  unfold X12_packingDifferences_62 at hf
  refine lv_iinc (v := (l3 + 1)) (lv' := [(3, .int (l3 + 1)), (0, .ref l0), (1, .ref l1), (2, .int l2)]) hx hb dX12_packingDifferences_62 hl (k := 3) rfl rfl (by decide) rfl (fun ls hl => ?_)
  refine lv_goto (tgt := 12) hx hb dX12_packingDifferences_65 (by decide) ?_
  exact h_12 hf hw (lv_sub hl [1, 2, 3, 0] rfl)

def X12_packingDifferences_59 (E : gE) (r_12 : Nat → Nat → Int32 → Int32 → gS → Option (Int32 × gS)) (l0 : Nat) (l1 : Nat) (l2 : Int32) (l3 : Int32) (σ : gS) : Option (Int32 × gS) :=
  X12_packingDifferences_62 E r_12 l0 l1 (l2 + 1) l3 σ
set_option maxHeartbeats 4000000 in
set_option maxRecDepth 100000 in
theorem X12_packingDifferences_59_W {σ : gS} {l0 : Nat} {l1 : Nat} {l2 : Int32} {l3 : Int32} {res : (Int32 × gS)} {ls : Array Slot} (hC : gC E D A p R s m args meth c cX12_packingDifferences 5 RX12 "packingDifferences" 4 89) (hQ : gQI E D A p l e R s m args below meth c Q cX12_packingDifferences FieldType.int res) {r_12 : Nat → Nat → Int32 → Int32 → gS → Option (Int32 × gS)} (h_12 : ∀ {l0 : Nat} {l1 : Nat} {l2 : Int32} {l3 : Int32} {σ : gS} {H : Heap} {locs : List Loc} {cells slots : Nat} {ls : Array Slot}, r_12 l0 l1 l2 l3 σ = some res → gW E D A s σ H locs → lv_has ls 5 [(0, .ref l0), (1, .ref l1), (2, .int l2), (3, .int l3)] → W p l e R s m args below meth c H locs cells slots Q (F0 m 12 ls [])) (hf : X12_packingDifferences_59 E r_12 l0 l1 l2 l3 σ = some res) (hw : gW E D A s σ H locs) (hl : lv_has ls 5 [(0, .ref l0), (1, .ref l1), (2, .int l2), (3, .int l3)]) : W p l e R s m args below meth c H locs cells slots Q (F0 m 59 ls []) := by
  have hC0 := hC
  obtain ⟨hx, hb, hml, hown, hts, -⟩ := hC0
  unfold X12_packingDifferences_59 at hf
  refine lv_iinc (v := (l2 + 1)) (lv' := [(2, .int (l2 + 1)), (0, .ref l0), (1, .ref l1), (3, .int l3)]) hx hb dX12_packingDifferences_59 hl (k := 2) rfl rfl (by decide) rfl (fun ls hl => ?_)
  exact X12_packingDifferences_62_W hC hQ h_12 hf hw (lv_sub hl [1, 2, 0, 3] rfl)

def X12_packingDifferences_12_s (E : gE) (r_12 : Nat → Nat → Int32 → Int32 → gS → Option (Int32 × gS)) (l0 : Nat) (l1 : Nat) (l2 : Int32) (l3 : Int32) (σ : gS) : Option (Int32 × gS) :=
  ob (gcl σ l1 0) fun _ =>
  ob (X1_length_f E σ l1) fun x1 =>
  if x1 ≤ l3 then
    some (l2, σ)
  else
    ob (gfR σ l0 10 10) fun x4 =>
    ob (gcl σ x4 6) fun _ =>
    ob (X8_unpack_f E σ x4 l3) fun x6 =>
    ob (gcl σ l1 0) fun _ =>
    ob (X1_dictionary_f E σ l1) fun x9 =>
    ob (gcl σ x9 2) fun _ =>
    ob (X3_size_f E σ x9) fun x12 =>
    if x12 ≤ x6 then
      X12_packingDifferences_59 E r_12 l0 l1 l2 l3 σ
    else
      ob (gcl σ l1 0) fun _ =>
      ob (X1_dictionary_f E σ l1) fun x15 =>
      ob (gcl σ x15 2) fun _ =>
      ob (X3_entry_f E σ x15 x6) fun x18 =>
      ob (gcl σ l1 0) fun _ =>
      ob (X1_valueAt_f E σ l1 l3) fun x21 =>
      if x18 = x21 then
        X12_packingDifferences_62 E r_12 l0 l1 l2 l3 σ
      else
        X12_packingDifferences_59 E r_12 l0 l1 l2 l3 σ
set_option maxHeartbeats 4000000 in
set_option maxRecDepth 100000 in
theorem X12_packingDifferences_12_s_W {σ : gS} {l0 : Nat} {l1 : Nat} {l2 : Int32} {l3 : Int32} {res : (Int32 × gS)} {ls : Array Slot} (hC : gC E D A p R s m args meth c cX12_packingDifferences 5 RX12 "packingDifferences" 4 89) (hQ : gQI E D A p l e R s m args below meth c Q cX12_packingDifferences FieldType.int res) {r_12 : Nat → Nat → Int32 → Int32 → gS → Option (Int32 × gS)} (h_12 : ∀ {l0 : Nat} {l1 : Nat} {l2 : Int32} {l3 : Int32} {σ : gS} {H : Heap} {locs : List Loc} {cells slots : Nat} {ls : Array Slot}, r_12 l0 l1 l2 l3 σ = some res → gW E D A s σ H locs → lv_has ls 5 [(0, .ref l0), (1, .ref l1), (2, .int l2), (3, .int l3)] → W p l e R s m args below meth c H locs cells slots Q (F0 m 12 ls [])) (hf : X12_packingDifferences_12_s E r_12 l0 l1 l2 l3 σ = some res) (hw : gW E D A s σ H locs) (hl : lv_has ls 5 [(0, .ref l0), (1, .ref l1), (2, .int l2), (3, .int l3)]) : W p l e R s m args below meth c H locs cells slots Q (F0 m 12 ls []) := by
  have hC0 := hC
  obtain ⟨hx, hb, hml, hown, hts, -⟩ := hC0
  unfold X12_packingDifferences_12_s at hf
  refine lv_iload_n hx hb dX12_packingDifferences_12 rfl (lv_at hl 3 rfl) ?_
  refine lv_aload_n hx hb dX12_packingDifferences_13 rfl (lv_at hl 1 rfl) ?_
  obtain ⟨_, h3, hf⟩ := ob_some hf
  obtain ⟨x1, h2, hf⟩ := ob_some hf
  refine gg_cVI (As := []) hC hw (X1_length_M l E D A h2) h3 rfl g_ml_X12_378 hd_X1_length (Nat.le_of_ble_eq_true rfl) (Nat.le_of_ble_eq_true rfl) hl.1 rfl (Nat.le_of_ble_eq_true rfl) dX12_packingDifferences_14 (fun H locs cells slots hw => ?_)
  refine lv_icmp_ge (tgt := 68) hx hb dX12_packingDifferences_17 (by decide) (fun c26 => ?_) (fun c26 => ?_)
  · replace hf := (if_pos c26).symm.trans hf
    refine lv_iload_n hx hb dX12_packingDifferences_68 rfl (lv_at hl 2 rfl) ?_
    cases hf
    exact hQ _ _ _ _ _ _ dX12_packingDifferences_69 rfl hw
  · replace hf := (if_neg c26).symm.trans hf
    refine lv_aload_n hx hb dX12_packingDifferences_20 rfl (lv_at hl 0 rfl) ?_
    obtain ⟨x4, h5, hf⟩ := ob_some hf
    refine rR_fl_X12_63 hC hw h5 dX12_packingDifferences_21 ?_
    refine lv_iload_n hx hb dX12_packingDifferences_24 rfl (lv_at hl 3 rfl) ?_
    obtain ⟨_, h8, hf⟩ := ob_some hf
    obtain ⟨x6, h7, hf⟩ := ob_some hf
    refine gg_cVI (As := [.int l3]) hC hw (X8_unpack_M l E D A h7) h8 rfl g_ml_X12_381 hd_X8_unpack (Nat.le_of_ble_eq_true rfl) (Nat.le_of_ble_eq_true rfl) hl.1 rfl (Nat.le_of_ble_eq_true rfl) dX12_packingDifferences_25 (fun H locs cells slots hw => ?_)
    refine lv_istore (lv' := [(4, .int x6), (0, .ref l0), (1, .ref l1), (2, .int l2), (3, .int l3)]) hx hb dX12_packingDifferences_28 hl (by decide) rfl (fun ls hl => ?_)
    refine lv_iload hx hb dX12_packingDifferences_30 (lv_at hl 0 rfl) ?_
    refine lv_aload_n hx hb dX12_packingDifferences_32 rfl (lv_at hl 2 rfl) ?_
    obtain ⟨_, h11, hf⟩ := ob_some hf
    obtain ⟨x9, h10, hf⟩ := ob_some hf
    refine gg_cVR (As := []) hC hw (X1_dictionary_M l E D A h10) h11 rfl g_ml_X12_384 hd_X1_dictionary (Nat.le_of_ble_eq_true rfl) (Nat.le_of_ble_eq_true rfl) hl.1 rfl (Nat.le_of_ble_eq_true rfl) dX12_packingDifferences_33 (fun H locs cells slots hw => ?_)
    obtain ⟨_, h14, hf⟩ := ob_some hf
    obtain ⟨x12, h13, hf⟩ := ob_some hf
    refine gg_cVI (As := []) hC hw (X3_size_M l E D A h13) h14 rfl g_ml_X12_139 hd_X3_size (Nat.le_of_ble_eq_true rfl) (Nat.le_of_ble_eq_true rfl) hl.1 rfl (Nat.le_of_ble_eq_true rfl) dX12_packingDifferences_36 (fun H locs cells slots hw => ?_)
    refine lv_icmp_ge (tgt := 59) hx hb dX12_packingDifferences_39 (by decide) (fun c25 => ?_) (fun c25 => ?_)
    · replace hf := (if_pos c25).symm.trans hf
      exact X12_packingDifferences_59_W hC hQ h_12 hf hw (lv_sub hl [1, 2, 3, 4] rfl)
    · replace hf := (if_neg c25).symm.trans hf
      refine lv_aload_n hx hb dX12_packingDifferences_42 rfl (lv_at hl 2 rfl) ?_
      obtain ⟨_, h17, hf⟩ := ob_some hf
      obtain ⟨x15, h16, hf⟩ := ob_some hf
      refine gg_cVR (As := []) hC hw (X1_dictionary_M l E D A h16) h17 rfl g_ml_X12_384 hd_X1_dictionary (Nat.le_of_ble_eq_true rfl) (Nat.le_of_ble_eq_true rfl) hl.1 rfl (Nat.le_of_ble_eq_true rfl) dX12_packingDifferences_43 (fun H locs cells slots hw => ?_)
      refine lv_iload hx hb dX12_packingDifferences_46 (lv_at hl 0 rfl) ?_
      obtain ⟨_, h20, hf⟩ := ob_some hf
      obtain ⟨x18, h19, hf⟩ := ob_some hf
      refine gg_cVI (As := [.int x6]) hC hw (X3_entry_M l E D A h19) h20 rfl g_ml_X12_144 hd_X3_entry (Nat.le_of_ble_eq_true rfl) (Nat.le_of_ble_eq_true rfl) hl.1 rfl (Nat.le_of_ble_eq_true rfl) dX12_packingDifferences_48 (fun H locs cells slots hw => ?_)
      refine lv_aload_n hx hb dX12_packingDifferences_51 rfl (lv_at hl 2 rfl) ?_
      refine lv_iload_n hx hb dX12_packingDifferences_52 rfl (lv_at hl 4 rfl) ?_
      obtain ⟨_, h23, hf⟩ := ob_some hf
      obtain ⟨x21, h22, hf⟩ := ob_some hf
      refine gg_cVI (As := [.int l3]) hC hw (X1_valueAt_M l E D A h22) h23 rfl g_ml_X12_126 hd_X1_valueAt (Nat.le_of_ble_eq_true rfl) (Nat.le_of_ble_eq_true rfl) hl.1 rfl (Nat.le_of_ble_eq_true rfl) dX12_packingDifferences_53 (fun H locs cells slots hw => ?_)
      refine lv_icmp_eq (tgt := 62) hx hb dX12_packingDifferences_56 (by decide) (fun c24 => ?_) (fun c24 => ?_)
      · replace hf := (if_pos c24).symm.trans hf
        exact X12_packingDifferences_62_W hC hQ h_12 hf hw (lv_sub hl [1, 2, 3, 4] rfl)
      · replace hf := (if_neg c24).symm.trans hf
        exact X12_packingDifferences_59_W hC hQ h_12 hf hw (lv_sub hl [1, 2, 3, 4] rfl)
def X12_packingDifferences_12 (E : gE) : Nat → Nat → Nat → Int32 → Int32 → gS → Option (Int32 × gS)
  | 0 => fun _ _ _ _ _ => none
  | n + 1 => X12_packingDifferences_12_s E (X12_packingDifferences_12 E n)
theorem X12_packingDifferences_12_W {res : (Int32 × gS)} (hC : gC E D A p R s m args meth c cX12_packingDifferences 5 RX12 "packingDifferences" 4 89) (hQ : gQI E D A p l e R s m args below meth c Q cX12_packingDifferences FieldType.int res) : ∀ (n : Nat), ∀ {l0 : Nat} {l1 : Nat} {l2 : Int32} {l3 : Int32} {σ : gS} {H : Heap} {locs : List Loc} {cells slots : Nat} {ls : Array Slot}, X12_packingDifferences_12 E n l0 l1 l2 l3 σ = some res → gW E D A s σ H locs → lv_has ls 5 [(0, .ref l0), (1, .ref l1), (2, .int l2), (3, .int l3)] → W p l e R s m args below meth c H locs cells slots Q (F0 m 12 ls []) := by
  intro n
  induction n with
  | zero =>
    intros
    rename_i hf _ _
    exact absurd hf (fun h => by cases (show (none : Option (Int32 × gS)) = some res from h))
  | succ n ih =>
    intros
    rename_i hf hw hl
    exact X12_packingDifferences_12_s_W hC hQ ih hf hw hl

def X12_packingDifferences (E : gE) (l0 : Nat) (l1 : Nat) (σ : gS) : Option (Int32 × gS) :=
  ob (gfR σ l0 10 10) fun x27 =>
  ob (gcl σ x27 6) fun _ =>
  ob (X8_pack_f E x27 l1 σ) fun x29 =>
  X12_packingDifferences_12 E (gN E) l0 l1 (0 : Int32) (0 : Int32) x29
set_option maxHeartbeats 4000000 in
set_option maxRecDepth 100000 in
theorem X12_packingDifferences_W {σ : gS} {l0 : Nat} {l1 : Nat} {res : (Int32 × gS)} {ls : Array Slot} (hC : gC E D A p R s m args meth c cX12_packingDifferences 5 RX12 "packingDifferences" 4 89) (hQ : gQI E D A p l e R s m args below meth c Q cX12_packingDifferences FieldType.int res) (hf : X12_packingDifferences E l0 l1 σ = some res) (hw : gW E D A s σ H locs) (hl : lv_has ls 5 [(0, .ref l0), (1, .ref l1)]) : W p l e R s m args below meth c H locs cells slots Q (F0 m 0 ls []) := by
  have hC0 := hC
  obtain ⟨hx, hb, hml, hown, hts, -⟩ := hC0
  unfold X12_packingDifferences at hf
  refine lv_aload_n hx hb dX12_packingDifferences_0 rfl (lv_at hl 0 rfl) ?_
  obtain ⟨x27, h28, hf⟩ := ob_some hf
  refine rR_fl_X12_63 hC hw h28 dX12_packingDifferences_1 ?_
  refine lv_aload_n hx hb dX12_packingDifferences_4 rfl (lv_at hl 1 rfl) ?_
  obtain ⟨_, h31, hf⟩ := ob_some hf
  obtain ⟨x29, h30, hf⟩ := ob_some hf
  refine gg_cVV (As := [.ref l1]) hC hw (X8_pack_M l E D A h30) h31 rfl g_ml_X12_173 hd_X8_pack (Nat.le_of_ble_eq_true rfl) (Nat.le_of_ble_eq_true rfl) hl.1 rfl (Nat.le_of_ble_eq_true rfl) dX12_packingDifferences_5 (fun H locs cells slots hw => ?_)
  refine lv_iconst (v := 0) hx hb dX12_packingDifferences_8 (by decide) ?_
  refine lv_istore_n (lv' := [(2, .int (0 : Int32)), (0, .ref l0), (1, .ref l1)]) hx hb dX12_packingDifferences_9 rfl hl (by decide) rfl (fun ls hl => ?_)
  refine lv_iconst (v := 0) hx hb dX12_packingDifferences_10 (by decide) ?_
  refine lv_istore_n (lv' := [(3, .int (0 : Int32)), (2, .int (0 : Int32)), (0, .ref l0), (1, .ref l1)]) hx hb dX12_packingDifferences_11 rfl hl (by decide) rfl (fun ls hl => ?_)
  exact X12_packingDifferences_12_W hC hQ (gN E) hf hw (lv_sub hl [2, 3, 1, 0] rfl)

def X12_packingDifferences_f (E : gE) (l0 : Nat) (l1 : Nat) (σ : gS) : Option (Int32 × gS) := X12_packingDifferences E l0 l1 σ
set_option maxRecDepth 100000 in
theorem X12_packingDifferences_M (l : Launch) (E : gE) (D : va_G) (A : Nat → Prop) {l0 : Nat} {l1 : Nat} {σ : gS} {res : (Int32 × gS)} (hf : X12_packingDifferences_f E l0 l1 σ = some res) : gCI l E D A yX12_packingDifferences cX12_packingDifferences 5 4 89 (some FieldType.int) [.ref l0, .ref l1] σ res := by
  refine gg_entI (own := RX12) (nm := "packingDifferences") (ty := FieldType.int) (by decide +kernel) rfl rfl (Nat.le_of_ble_eq_true rfl) rfl ?_
  intro p e R s m args below meth c Q ls hC hw hQ hl
  have hl : lv_has ls 5 [(0, .ref l0), (1, .ref l1)] := hl
  exact X12_packingDifferences_W hC hQ hf hw hl

def X12_sortRows (E : gE) (l0 : Nat) (l1 : Int32) (l2 : Int32) (σ : gS) : Option gS :=
  ob (gfR σ l0 10 8) fun x1 =>
  ob (gfR σ l0 10 0) fun x3 =>
  ob (gcl σ x3 9) fun _ =>
  ob (X11_column_f E σ x3 l1) fun x5 =>
  ob (gcl σ x1 8) fun _ =>
  ob (X10_sortBy_f E x1 x5 l2 σ) fun x8 =>
  ob (gfR x8 l0 10 0) fun x11 =>
  ob (gfR x8 l0 10 8) fun x13 =>
  ob (gcl x8 x11 9) fun _ =>
  ob (X11_reorder_f E x11 x13 x8) fun x15 =>
  some x15
set_option maxHeartbeats 4000000 in
set_option maxRecDepth 100000 in
theorem X12_sortRows_W {σ : gS} {l0 : Nat} {l1 : Int32} {l2 : Int32} {σz : gS} {ls : Array Slot} (hC : gC E D A p R s m args meth c cX12_sortRows 3 RX12 "sortRows" 6 145) (hQ : gQV E D A p l e R s m args below meth c Q cX12_sortRows σz) (hf : X12_sortRows E l0 l1 l2 σ = some σz) (hw : gW E D A s σ H locs) (hl : lv_has ls 3 [(0, .ref l0), (1, .int l1), (2, .int l2)]) : W p l e R s m args below meth c H locs cells slots Q (F0 m 0 ls []) := by
  have hC0 := hC
  obtain ⟨hx, hb, hml, hown, hts, -⟩ := hC0
  unfold X12_sortRows at hf
  refine lv_aload_n hx hb dX12_sortRows_0 rfl (lv_at hl 0 rfl) ?_
  obtain ⟨x1, h2, hf⟩ := ob_some hf
  refine rR_fl_X12_49 hC hw h2 dX12_sortRows_1 ?_
  refine lv_aload_n hx hb dX12_sortRows_4 rfl (lv_at hl 0 rfl) ?_
  obtain ⟨x3, h4, hf⟩ := ob_some hf
  refine rR_fl_X12_10 hC hw h4 dX12_sortRows_5 ?_
  refine lv_iload_n hx hb dX12_sortRows_8 rfl (lv_at hl 1 rfl) ?_
  obtain ⟨_, h7, hf⟩ := ob_some hf
  obtain ⟨x5, h6, hf⟩ := ob_some hf
  refine gg_cVR (As := [.int l1]) hC hw (X11_column_M l E D A h6) h7 rfl g_ml_X12_122 hd_X11_column (Nat.le_of_ble_eq_true rfl) (Nat.le_of_ble_eq_true rfl) hl.1 rfl (Nat.le_of_ble_eq_true rfl) dX12_sortRows_9 (fun H locs cells slots hw => ?_)
  refine lv_iload_n hx hb dX12_sortRows_12 rfl (lv_at hl 2 rfl) ?_
  obtain ⟨_, h10, hf⟩ := ob_some hf
  obtain ⟨x8, h9, hf⟩ := ob_some hf
  refine gg_cVV (As := [.ref x5, .int l2]) hC hw (X10_sortBy_M l E D A h9) h10 rfl g_ml_X12_374 hd_X10_sortBy (Nat.le_of_ble_eq_true rfl) (Nat.le_of_ble_eq_true rfl) hl.1 rfl (Nat.le_of_ble_eq_true rfl) dX12_sortRows_13 (fun H locs cells slots hw => ?_)
  refine lv_aload_n hx hb dX12_sortRows_16 rfl (lv_at hl 0 rfl) ?_
  obtain ⟨x11, h12, hf⟩ := ob_some hf
  refine rR_fl_X12_10 hC hw h12 dX12_sortRows_17 ?_
  refine lv_aload_n hx hb dX12_sortRows_20 rfl (lv_at hl 0 rfl) ?_
  obtain ⟨x13, h14, hf⟩ := ob_some hf
  refine rR_fl_X12_49 hC hw h14 dX12_sortRows_21 ?_
  obtain ⟨_, h17, hf⟩ := ob_some hf
  obtain ⟨x15, h16, hf⟩ := ob_some hf
  refine gg_cVV (As := [.ref x13]) hC hw (X11_reorder_M l E D A h16) h17 rfl g_ml_X12_394 hd_X11_reorder (Nat.le_of_ble_eq_true rfl) (Nat.le_of_ble_eq_true rfl) hl.1 rfl (Nat.le_of_ble_eq_true rfl) dX12_sortRows_24 (fun H locs cells slots hw => ?_)
  cases hf
  exact hQ _ _ _ _ _ _ dX12_sortRows_27 hw

def X12_sortRows_f (E : gE) (l0 : Nat) (l1 : Int32) (l2 : Int32) (σ : gS) : Option gS := X12_sortRows E l0 l1 l2 σ
set_option maxRecDepth 100000 in
theorem X12_sortRows_M (l : Launch) (E : gE) (D : va_G) (A : Nat → Prop) {l0 : Nat} {l1 : Int32} {l2 : Int32} {σ : gS} {σz : gS} (hf : X12_sortRows_f E l0 l1 l2 σ = some σz) : gCV l E D A yX12_sortRows cX12_sortRows 3 6 145 none [.ref l0, .int l1, .int l2] σ σz := by
  refine gg_entV (own := RX12) (nm := "sortRows") (by decide +kernel) rfl rfl (Nat.le_of_ble_eq_true rfl) rfl ?_
  intro p e R s m args below meth c Q ls hC hw hQ hl
  have hl : lv_has ls 3 [(0, .ref l0), (1, .int l1), (2, .int l2)] := hl
  exact X12_sortRows_W hC hQ hf hw hl

def X12_staleCount (E : gE) (l0 : Nat) (l1 : Int32) (σ : gS) : Option ((Nat ⊕ Int32) × gS) :=
  ob (gcl σ l0 10) fun _ =>
  ob (X12_checkColumn_f E l0 l1 σ) fun x1 =>
  gtry x1 (fun k9 σ9 => some (Sum.inl k9, σ9)) (fun _ σ4 =>
    ob (gfR σ4 l0 10 0) fun x6 =>
    ob (gcl σ4 x6 9) fun _ =>
    ob (X11_column_f E σ4 x6 l1) fun x8 =>
    ob (gfR σ4 l0 10 9) fun x11 =>
    ob (gcl σ4 x8 0) fun _ =>
    ob (X1_collectInto_f E x8 x11 σ4) fun x13 =>
    ob (gfR x13 l0 10 0) fun x16 =>
    ob (gcl x13 x16 9) fun _ =>
    ob (X11_dictionary_f E x13 x16 l1) fun x18 =>
    ob (gcl x13 x18 2) fun _ =>
    ob (X3_size_f E x13 x18) fun x21 =>
    ob (gfR x13 l0 10 9) fun x24 =>
    ob (gcl x13 x24 2) fun _ =>
    ob (X3_size_f E x13 x24) fun x26 =>
    some (Sum.inr (x21 - x26), x13))
set_option maxHeartbeats 4000000 in
set_option maxRecDepth 100000 in
theorem X12_staleCount_W {σ : gS} {l0 : Nat} {l1 : Int32} {res : ((Nat ⊕ Int32) × gS)} {ls : Array Slot} (hC : gC E D A p R s m args meth c cX12_staleCount 2 RX12 "staleCount" 7 146) (hQ : ∀ (r : Int32) (σ1 : gS), res = (.inr r, σ1) → gQI E D A p l e R s m args below meth c Q cX12_staleCount FieldType.int (r, σ1)) (hT : ∀ (k : Nat) (σ1 : gS), res = (.inl k, σ1) → gTN E D A p l e R s m args below meth c Q cX12_staleCount 2 RX12 k σ1) (hst : l.stackTraces = false) (hf : X12_staleCount E l0 l1 σ = some res) (hw : gW E D A s σ H locs) (hl : lv_has ls 2 [(0, .ref l0), (1, .int l1)]) : W p l e R s m args below meth c H locs cells slots Q (F0 m 0 ls []) := by
  have hC0 := hC
  obtain ⟨hx, hb, hml, hown, hts, -⟩ := hC0
  unfold X12_staleCount at hf
  refine lv_aload_n hx hb dX12_staleCount_0 rfl (lv_at hl 0 rfl) ?_
  refine lv_iload_n hx hb dX12_staleCount_1 rfl (lv_at hl 1 rfl) ?_
  obtain ⟨_, h3, hf⟩ := ob_some hf
  obtain ⟨x1, h2, hf⟩ := ob_some hf
  refine gg_yVV (As := [.int l1]) hC hw (X12_checkColumn_M l hst E D A h2) h3 rfl g_ml_X12_116 hd_X12_checkColumn (Nat.le_of_ble_eq_true rfl) (Nat.le_of_ble_eq_true rfl) hl.1 rfl (Nat.le_of_ble_eq_true rfl) dX12_staleCount_2 (fun k9 σ9 he => ?_) (fun σ4 he H locs cells slots hw => ?_)
  · subst he
    replace hf := gtry_inl.symm.trans hf
    cases hf
    exact (hT _ _ rfl).2.2 _ _ _
  · subst he
    replace hf := gtry_inr.symm.trans hf
    refine lv_aload_n hx hb dX12_staleCount_5 rfl (lv_at hl 0 rfl) ?_
    obtain ⟨x6, h7, hf⟩ := ob_some hf
    refine rR_fl_X12_10 hC hw h7 dX12_staleCount_6 ?_
    refine lv_iload_n hx hb dX12_staleCount_9 rfl (lv_at hl 1 rfl) ?_
    obtain ⟨_, h10, hf⟩ := ob_some hf
    obtain ⟨x8, h9, hf⟩ := ob_some hf
    refine gg_cVR (As := [.int l1]) hC hw (X11_column_M l E D A h9) h10 rfl g_ml_X12_122 hd_X11_column (Nat.le_of_ble_eq_true rfl) (Nat.le_of_ble_eq_true rfl) hl.1 rfl (Nat.le_of_ble_eq_true rfl) dX12_staleCount_10 (fun H locs cells slots hw => ?_)
    refine lv_aload_n hx hb dX12_staleCount_13 rfl (lv_at hl 0 rfl) ?_
    obtain ⟨x11, h12, hf⟩ := ob_some hf
    refine rR_fl_X12_56 hC hw h12 dX12_staleCount_14 ?_
    obtain ⟨_, h15, hf⟩ := ob_some hf
    obtain ⟨x13, h14, hf⟩ := ob_some hf
    refine gg_cVV (As := [.ref x11]) hC hw (X1_collectInto_M l E D A h14) h15 rfl g_ml_X12_150 hd_X1_collectInto (Nat.le_of_ble_eq_true rfl) (Nat.le_of_ble_eq_true rfl) hl.1 rfl (Nat.le_of_ble_eq_true rfl) dX12_staleCount_17 (fun H locs cells slots hw => ?_)
    refine lv_aload_n hx hb dX12_staleCount_20 rfl (lv_at hl 0 rfl) ?_
    obtain ⟨x16, h17, hf⟩ := ob_some hf
    refine rR_fl_X12_10 hC hw h17 dX12_staleCount_21 ?_
    refine lv_iload_n hx hb dX12_staleCount_24 rfl (lv_at hl 1 rfl) ?_
    obtain ⟨_, h20, hf⟩ := ob_some hf
    obtain ⟨x18, h19, hf⟩ := ob_some hf
    refine gg_cVR (As := [.int l1]) hC hw (X11_dictionary_M l E D A h19) h20 rfl g_ml_X12_135 hd_X11_dictionary (Nat.le_of_ble_eq_true rfl) (Nat.le_of_ble_eq_true rfl) hl.1 rfl (Nat.le_of_ble_eq_true rfl) dX12_staleCount_25 (fun H locs cells slots hw => ?_)
    obtain ⟨_, h23, hf⟩ := ob_some hf
    obtain ⟨x21, h22, hf⟩ := ob_some hf
    refine gg_cVI (As := []) hC hw (X3_size_M l E D A h22) h23 rfl g_ml_X12_139 hd_X3_size (Nat.le_of_ble_eq_true rfl) (Nat.le_of_ble_eq_true rfl) hl.1 rfl (Nat.le_of_ble_eq_true rfl) dX12_staleCount_28 (fun H locs cells slots hw => ?_)
    refine lv_aload_n hx hb dX12_staleCount_31 rfl (lv_at hl 0 rfl) ?_
    obtain ⟨x24, h25, hf⟩ := ob_some hf
    refine rR_fl_X12_56 hC hw h25 dX12_staleCount_32 ?_
    obtain ⟨_, h28, hf⟩ := ob_some hf
    obtain ⟨x26, h27, hf⟩ := ob_some hf
    refine gg_cVI (As := []) hC hw (X3_size_M l E D A h27) h28 rfl g_ml_X12_139 hd_X3_size (Nat.le_of_ble_eq_true rfl) (Nat.le_of_ble_eq_true rfl) hl.1 rfl (Nat.le_of_ble_eq_true rfl) dX12_staleCount_35 (fun H locs cells slots hw => ?_)
    refine lv_isub hx hb dX12_staleCount_38 ?_
    cases hf
    exact hQ _ _ rfl _ _ _ _ _ _ dX12_staleCount_39 rfl hw

def X12_staleCount_f (E : gE) (l0 : Nat) (l1 : Int32) (σ : gS) : Option ((Nat ⊕ Int32) × gS) := X12_staleCount E l0 l1 σ
set_option maxRecDepth 100000 in
theorem X12_staleCount_M (l : Launch) (hst : l.stackTraces = false) (E : gE) (D : va_G) (A : Nat → Prop) {l0 : Nat} {l1 : Int32} {σ : gS} {res : ((Nat ⊕ Int32) × gS)} (hf : X12_staleCount_f E l0 l1 σ = some res) : gYI l E D A yX12_staleCount (Cond.code yX12_staleCount cX12_staleCount 2 (some FieldType.int)) 7 146 [.ref l0, .int l1] σ res := by
  refine gg_entYI (own := RX12) (nm := "staleCount") (ty := FieldType.int) hst (Nat.le_of_ble_eq_true rfl) (Nat.le_of_ble_eq_true rfl) (by decide +kernel) rfl rfl (Nat.le_of_ble_eq_true rfl) rfl ?_
  intro p e R s m args below meth c Q ls hC hw hQ hT hl
  have hl : lv_has ls 2 [(0, .ref l0), (1, .int l1)] := hl
  exact X12_staleCount_W hC hQ hT hst hf hw hl

def X12_sumSelected (E : gE) (l0 : Nat) (l1 : Int32) (σ : gS) : Option ((Nat ⊕ Int64) × gS) :=
  ob (gcl σ l0 10) fun _ =>
  ob (X12_checkColumn_f E l0 l1 σ) fun x1 =>
  gtry x1 (fun k9 σ9 => some (Sum.inl k9, σ9)) (fun _ σ4 =>
    ob (gcl σ4 l0 10) fun _ =>
    ob (X12_sumOfSelected_f E σ4 l0 l1) fun x6 =>
    some (Sum.inr x6, σ4))
set_option maxHeartbeats 4000000 in
set_option maxRecDepth 100000 in
theorem X12_sumSelected_W {σ : gS} {l0 : Nat} {l1 : Int32} {res : ((Nat ⊕ Int64) × gS)} {ls : Array Slot} (hC : gC E D A p R s m args meth c cX12_sumSelected 2 RX12 "sumSelected" 7 131) (hQ : ∀ (r : Int64) (σ1 : gS), res = (.inr r, σ1) → gQJ E D A p l e R s m args below meth c Q cX12_sumSelected (r, σ1)) (hT : ∀ (k : Nat) (σ1 : gS), res = (.inl k, σ1) → gTN E D A p l e R s m args below meth c Q cX12_sumSelected 2 RX12 k σ1) (hst : l.stackTraces = false) (hf : X12_sumSelected E l0 l1 σ = some res) (hw : gW E D A s σ H locs) (hl : lv_has ls 2 [(0, .ref l0), (1, .int l1)]) : W p l e R s m args below meth c H locs cells slots Q (F0 m 0 ls []) := by
  have hC0 := hC
  obtain ⟨hx, hb, hml, hown, hts, -⟩ := hC0
  unfold X12_sumSelected at hf
  refine lv_aload_n hx hb dX12_sumSelected_0 rfl (lv_at hl 0 rfl) ?_
  refine lv_iload_n hx hb dX12_sumSelected_1 rfl (lv_at hl 1 rfl) ?_
  obtain ⟨_, h3, hf⟩ := ob_some hf
  obtain ⟨x1, h2, hf⟩ := ob_some hf
  refine gg_yVV (As := [.int l1]) hC hw (X12_checkColumn_M l hst E D A h2) h3 rfl g_ml_X12_116 hd_X12_checkColumn (Nat.le_of_ble_eq_true rfl) (Nat.le_of_ble_eq_true rfl) hl.1 rfl (Nat.le_of_ble_eq_true rfl) dX12_sumSelected_2 (fun k9 σ9 he => ?_) (fun σ4 he H locs cells slots hw => ?_)
  · subst he
    replace hf := gtry_inl.symm.trans hf
    cases hf
    exact (hT _ _ rfl).2.2 _ _ _
  · subst he
    replace hf := gtry_inr.symm.trans hf
    refine lv_aload_n hx hb dX12_sumSelected_5 rfl (lv_at hl 0 rfl) ?_
    refine lv_iload_n hx hb dX12_sumSelected_6 rfl (lv_at hl 1 rfl) ?_
    obtain ⟨_, h8, hf⟩ := ob_some hf
    obtain ⟨x6, h7, hf⟩ := ob_some hf
    refine gg_cVJ (As := [.int l1]) hC hw (X12_sumOfSelected_M l E D A h7) h8 rfl g_ml_X12_235 hd_X12_sumOfSelected (Nat.le_of_ble_eq_true rfl) (Nat.le_of_ble_eq_true rfl) hl.1 rfl (Nat.le_of_ble_eq_true rfl) dX12_sumSelected_7 (fun H locs cells slots hw => ?_)
    cases hf
    exact hQ _ _ rfl _ _ _ _ _ _ dX12_sumSelected_10 hw

def X12_sumSelected_f (E : gE) (l0 : Nat) (l1 : Int32) (σ : gS) : Option ((Nat ⊕ Int64) × gS) := X12_sumSelected E l0 l1 σ
set_option maxRecDepth 100000 in
theorem X12_sumSelected_M (l : Launch) (hst : l.stackTraces = false) (E : gE) (D : va_G) (A : Nat → Prop) {l0 : Nat} {l1 : Int32} {σ : gS} {res : ((Nat ⊕ Int64) × gS)} (hf : X12_sumSelected_f E l0 l1 σ = some res) : gYJ l E D A yX12_sumSelected (Cond.code yX12_sumSelected cX12_sumSelected 2 (some FieldType.long)) 7 131 [.ref l0, .int l1] σ res := by
  refine gg_entYJ (own := RX12) (nm := "sumSelected") hst (Nat.le_of_ble_eq_true rfl) (Nat.le_of_ble_eq_true rfl) (by decide +kernel) rfl rfl (Nat.le_of_ble_eq_true rfl) rfl ?_
  intro p e R s m args below meth c Q ls hC hw hQ hT hl
  have hl : lv_has ls 2 [(0, .ref l0), (1, .int l1)] := hl
  exact X12_sumSelected_W hC hQ hT hst hf hw hl

def X12_smallestSelected (E : gE) (l0 : Nat) (l1 : Int32) (σ : gS) : Option ((Nat ⊕ Int32) × gS) :=
  ob (gcl σ l0 10) fun _ =>
  ob (X12_checkColumn_f E l0 l1 σ) fun x1 =>
  gtry x1 (fun k9 σ9 => some (Sum.inl k9, σ9)) (fun _ σ4 =>
    ob (gcl σ4 l0 10) fun _ =>
    ob (X12_collectSelected_f E l0 l1 σ4) fun x6 =>
    ob (gcl x6 l0 10) fun _ =>
    ob (X12_checkAnySeen_f E l0 x6) fun x9 =>
    gtry x9 (fun k9 σ9 => some (Sum.inl k9, σ9)) (fun _ σ12 =>
      ob (gfR σ12 l0 10 9) fun x14 =>
      ob (gcl σ12 x14 2) fun _ =>
      ob (X3_entry_f E σ12 x14 (0 : Int32)) fun x16 =>
      some (Sum.inr x16, σ12)))
set_option maxHeartbeats 4000000 in
set_option maxRecDepth 100000 in
theorem X12_smallestSelected_W {σ : gS} {l0 : Nat} {l1 : Int32} {res : ((Nat ⊕ Int32) × gS)} {ls : Array Slot} (hC : gC E D A p R s m args meth c cX12_smallestSelected 2 RX12 "smallestSelected" 7 146) (hQ : ∀ (r : Int32) (σ1 : gS), res = (.inr r, σ1) → gQI E D A p l e R s m args below meth c Q cX12_smallestSelected FieldType.int (r, σ1)) (hT : ∀ (k : Nat) (σ1 : gS), res = (.inl k, σ1) → gTN E D A p l e R s m args below meth c Q cX12_smallestSelected 2 RX12 k σ1) (hst : l.stackTraces = false) (hf : X12_smallestSelected E l0 l1 σ = some res) (hw : gW E D A s σ H locs) (hl : lv_has ls 2 [(0, .ref l0), (1, .int l1)]) : W p l e R s m args below meth c H locs cells slots Q (F0 m 0 ls []) := by
  have hC0 := hC
  obtain ⟨hx, hb, hml, hown, hts, -⟩ := hC0
  unfold X12_smallestSelected at hf
  refine lv_aload_n hx hb dX12_smallestSelected_0 rfl (lv_at hl 0 rfl) ?_
  refine lv_iload_n hx hb dX12_smallestSelected_1 rfl (lv_at hl 1 rfl) ?_
  obtain ⟨_, h3, hf⟩ := ob_some hf
  obtain ⟨x1, h2, hf⟩ := ob_some hf
  refine gg_yVV (As := [.int l1]) hC hw (X12_checkColumn_M l hst E D A h2) h3 rfl g_ml_X12_116 hd_X12_checkColumn (Nat.le_of_ble_eq_true rfl) (Nat.le_of_ble_eq_true rfl) hl.1 rfl (Nat.le_of_ble_eq_true rfl) dX12_smallestSelected_2 (fun k9 σ9 he => ?_) (fun σ4 he H locs cells slots hw => ?_)
  · subst he
    replace hf := gtry_inl.symm.trans hf
    cases hf
    exact (hT _ _ rfl).2.2 _ _ _
  · subst he
    replace hf := gtry_inr.symm.trans hf
    refine lv_aload_n hx hb dX12_smallestSelected_5 rfl (lv_at hl 0 rfl) ?_
    refine lv_iload_n hx hb dX12_smallestSelected_6 rfl (lv_at hl 1 rfl) ?_
    obtain ⟨_, h8, hf⟩ := ob_some hf
    obtain ⟨x6, h7, hf⟩ := ob_some hf
    refine gg_cVV (As := [.int l1]) hC hw (X12_collectSelected_M l E D A h7) h8 rfl g_ml_X12_238 hd_X12_collectSelected (Nat.le_of_ble_eq_true rfl) (Nat.le_of_ble_eq_true rfl) hl.1 rfl (Nat.le_of_ble_eq_true rfl) dX12_smallestSelected_7 (fun H locs cells slots hw => ?_)
    refine lv_aload_n hx hb dX12_smallestSelected_10 rfl (lv_at hl 0 rfl) ?_
    obtain ⟨_, h11, hf⟩ := ob_some hf
    obtain ⟨x9, h10, hf⟩ := ob_some hf
    refine gg_yVV (As := []) hC hw (X12_checkAnySeen_M l hst E D A h10) h11 rfl g_ml_X12_241 hd_X12_checkAnySeen (Nat.le_of_ble_eq_true rfl) (Nat.le_of_ble_eq_true rfl) hl.1 rfl (Nat.le_of_ble_eq_true rfl) dX12_smallestSelected_11 (fun k9 σ9 he => ?_) (fun σ12 he H locs cells slots hw => ?_)
    · subst he
      replace hf := gtry_inl.symm.trans hf
      cases hf
      exact (hT _ _ rfl).2.2 _ _ _
    · subst he
      replace hf := gtry_inr.symm.trans hf
      refine lv_aload_n hx hb dX12_smallestSelected_14 rfl (lv_at hl 0 rfl) ?_
      obtain ⟨x14, h15, hf⟩ := ob_some hf
      refine rR_fl_X12_56 hC hw h15 dX12_smallestSelected_15 ?_
      refine lv_iconst (v := 0) hx hb dX12_smallestSelected_18 (by decide) ?_
      obtain ⟨_, h18, hf⟩ := ob_some hf
      obtain ⟨x16, h17, hf⟩ := ob_some hf
      refine gg_cVI (As := [.int (0 : Int32)]) hC hw (X3_entry_M l E D A h17) h18 rfl g_ml_X12_144 hd_X3_entry (Nat.le_of_ble_eq_true rfl) (Nat.le_of_ble_eq_true rfl) hl.1 rfl (Nat.le_of_ble_eq_true rfl) dX12_smallestSelected_19 (fun H locs cells slots hw => ?_)
      cases hf
      exact hQ _ _ rfl _ _ _ _ _ _ dX12_smallestSelected_22 rfl hw

def X12_smallestSelected_f (E : gE) (l0 : Nat) (l1 : Int32) (σ : gS) : Option ((Nat ⊕ Int32) × gS) := X12_smallestSelected E l0 l1 σ
set_option maxRecDepth 100000 in
theorem X12_smallestSelected_M (l : Launch) (hst : l.stackTraces = false) (E : gE) (D : va_G) (A : Nat → Prop) {l0 : Nat} {l1 : Int32} {σ : gS} {res : ((Nat ⊕ Int32) × gS)} (hf : X12_smallestSelected_f E l0 l1 σ = some res) : gYI l E D A yX12_smallestSelected (Cond.code yX12_smallestSelected cX12_smallestSelected 2 (some FieldType.int)) 7 146 [.ref l0, .int l1] σ res := by
  refine gg_entYI (own := RX12) (nm := "smallestSelected") (ty := FieldType.int) hst (Nat.le_of_ble_eq_true rfl) (Nat.le_of_ble_eq_true rfl) (by decide +kernel) rfl rfl (Nat.le_of_ble_eq_true rfl) rfl ?_
  intro p e R s m args below meth c Q ls hC hw hQ hT hl
  have hl : lv_has ls 2 [(0, .ref l0), (1, .int l1)] := hl
  exact X12_smallestSelected_W hC hQ hT hst hf hw hl

def X12_greatestSelected (E : gE) (l0 : Nat) (l1 : Int32) (σ : gS) : Option ((Nat ⊕ Int32) × gS) :=
  ob (gcl σ l0 10) fun _ =>
  ob (X12_checkColumn_f E l0 l1 σ) fun x1 =>
  gtry x1 (fun k9 σ9 => some (Sum.inl k9, σ9)) (fun _ σ4 =>
    ob (gcl σ4 l0 10) fun _ =>
    ob (X12_collectSelected_f E l0 l1 σ4) fun x6 =>
    ob (gcl x6 l0 10) fun _ =>
    ob (X12_checkAnySeen_f E l0 x6) fun x9 =>
    gtry x9 (fun k9 σ9 => some (Sum.inl k9, σ9)) (fun _ σ12 =>
      ob (gfR σ12 l0 10 9) fun x14 =>
      ob (gfR σ12 l0 10 9) fun x16 =>
      ob (gcl σ12 x16 2) fun _ =>
      ob (X3_size_f E σ12 x16) fun x18 =>
      ob (gcl σ12 x14 2) fun _ =>
      ob (X3_entry_f E σ12 x14 (x18 - (1 : Int32))) fun x21 =>
      some (Sum.inr x21, σ12)))
set_option maxHeartbeats 4000000 in
set_option maxRecDepth 100000 in
theorem X12_greatestSelected_W {σ : gS} {l0 : Nat} {l1 : Int32} {res : ((Nat ⊕ Int32) × gS)} {ls : Array Slot} (hC : gC E D A p R s m args meth c cX12_greatestSelected 2 RX12 "greatestSelected" 7 146) (hQ : ∀ (r : Int32) (σ1 : gS), res = (.inr r, σ1) → gQI E D A p l e R s m args below meth c Q cX12_greatestSelected FieldType.int (r, σ1)) (hT : ∀ (k : Nat) (σ1 : gS), res = (.inl k, σ1) → gTN E D A p l e R s m args below meth c Q cX12_greatestSelected 2 RX12 k σ1) (hst : l.stackTraces = false) (hf : X12_greatestSelected E l0 l1 σ = some res) (hw : gW E D A s σ H locs) (hl : lv_has ls 2 [(0, .ref l0), (1, .int l1)]) : W p l e R s m args below meth c H locs cells slots Q (F0 m 0 ls []) := by
  have hC0 := hC
  obtain ⟨hx, hb, hml, hown, hts, -⟩ := hC0
  unfold X12_greatestSelected at hf
  refine lv_aload_n hx hb dX12_greatestSelected_0 rfl (lv_at hl 0 rfl) ?_
  refine lv_iload_n hx hb dX12_greatestSelected_1 rfl (lv_at hl 1 rfl) ?_
  obtain ⟨_, h3, hf⟩ := ob_some hf
  obtain ⟨x1, h2, hf⟩ := ob_some hf
  refine gg_yVV (As := [.int l1]) hC hw (X12_checkColumn_M l hst E D A h2) h3 rfl g_ml_X12_116 hd_X12_checkColumn (Nat.le_of_ble_eq_true rfl) (Nat.le_of_ble_eq_true rfl) hl.1 rfl (Nat.le_of_ble_eq_true rfl) dX12_greatestSelected_2 (fun k9 σ9 he => ?_) (fun σ4 he H locs cells slots hw => ?_)
  · subst he
    replace hf := gtry_inl.symm.trans hf
    cases hf
    exact (hT _ _ rfl).2.2 _ _ _
  · subst he
    replace hf := gtry_inr.symm.trans hf
    refine lv_aload_n hx hb dX12_greatestSelected_5 rfl (lv_at hl 0 rfl) ?_
    refine lv_iload_n hx hb dX12_greatestSelected_6 rfl (lv_at hl 1 rfl) ?_
    obtain ⟨_, h8, hf⟩ := ob_some hf
    obtain ⟨x6, h7, hf⟩ := ob_some hf
    refine gg_cVV (As := [.int l1]) hC hw (X12_collectSelected_M l E D A h7) h8 rfl g_ml_X12_238 hd_X12_collectSelected (Nat.le_of_ble_eq_true rfl) (Nat.le_of_ble_eq_true rfl) hl.1 rfl (Nat.le_of_ble_eq_true rfl) dX12_greatestSelected_7 (fun H locs cells slots hw => ?_)
    refine lv_aload_n hx hb dX12_greatestSelected_10 rfl (lv_at hl 0 rfl) ?_
    obtain ⟨_, h11, hf⟩ := ob_some hf
    obtain ⟨x9, h10, hf⟩ := ob_some hf
    refine gg_yVV (As := []) hC hw (X12_checkAnySeen_M l hst E D A h10) h11 rfl g_ml_X12_241 hd_X12_checkAnySeen (Nat.le_of_ble_eq_true rfl) (Nat.le_of_ble_eq_true rfl) hl.1 rfl (Nat.le_of_ble_eq_true rfl) dX12_greatestSelected_11 (fun k9 σ9 he => ?_) (fun σ12 he H locs cells slots hw => ?_)
    · subst he
      replace hf := gtry_inl.symm.trans hf
      cases hf
      exact (hT _ _ rfl).2.2 _ _ _
    · subst he
      replace hf := gtry_inr.symm.trans hf
      refine lv_aload_n hx hb dX12_greatestSelected_14 rfl (lv_at hl 0 rfl) ?_
      obtain ⟨x14, h15, hf⟩ := ob_some hf
      refine rR_fl_X12_56 hC hw h15 dX12_greatestSelected_15 ?_
      refine lv_aload_n hx hb dX12_greatestSelected_18 rfl (lv_at hl 0 rfl) ?_
      obtain ⟨x16, h17, hf⟩ := ob_some hf
      refine rR_fl_X12_56 hC hw h17 dX12_greatestSelected_19 ?_
      obtain ⟨_, h20, hf⟩ := ob_some hf
      obtain ⟨x18, h19, hf⟩ := ob_some hf
      refine gg_cVI (As := []) hC hw (X3_size_M l E D A h19) h20 rfl g_ml_X12_139 hd_X3_size (Nat.le_of_ble_eq_true rfl) (Nat.le_of_ble_eq_true rfl) hl.1 rfl (Nat.le_of_ble_eq_true rfl) dX12_greatestSelected_22 (fun H locs cells slots hw => ?_)
      refine lv_iconst (v := 1) hx hb dX12_greatestSelected_25 (by decide) ?_
      refine lv_isub hx hb dX12_greatestSelected_26 ?_
      obtain ⟨_, h23, hf⟩ := ob_some hf
      obtain ⟨x21, h22, hf⟩ := ob_some hf
      refine gg_cVI (As := [.int (x18 - (1 : Int32))]) hC hw (X3_entry_M l E D A h22) h23 rfl g_ml_X12_144 hd_X3_entry (Nat.le_of_ble_eq_true rfl) (Nat.le_of_ble_eq_true rfl) hl.1 rfl (Nat.le_of_ble_eq_true rfl) dX12_greatestSelected_27 (fun H locs cells slots hw => ?_)
      cases hf
      exact hQ _ _ rfl _ _ _ _ _ _ dX12_greatestSelected_30 rfl hw

def X12_greatestSelected_f (E : gE) (l0 : Nat) (l1 : Int32) (σ : gS) : Option ((Nat ⊕ Int32) × gS) := X12_greatestSelected E l0 l1 σ
set_option maxRecDepth 100000 in
theorem X12_greatestSelected_M (l : Launch) (hst : l.stackTraces = false) (E : gE) (D : va_G) (A : Nat → Prop) {l0 : Nat} {l1 : Int32} {σ : gS} {res : ((Nat ⊕ Int32) × gS)} (hf : X12_greatestSelected_f E l0 l1 σ = some res) : gYI l E D A yX12_greatestSelected (Cond.code yX12_greatestSelected cX12_greatestSelected 2 (some FieldType.int)) 7 146 [.ref l0, .int l1] σ res := by
  refine gg_entYI (own := RX12) (nm := "greatestSelected") (ty := FieldType.int) hst (Nat.le_of_ble_eq_true rfl) (Nat.le_of_ble_eq_true rfl) (by decide +kernel) rfl rfl (Nat.le_of_ble_eq_true rfl) rfl ?_
  intro p e R s m args below meth c Q ls hC hw hQ hT hl
  have hl : lv_has ls 2 [(0, .ref l0), (1, .int l1)] := hl
  exact X12_greatestSelected_W hC hQ hT hst hf hw hl

def X12_distinctSelected (E : gE) (l0 : Nat) (l1 : Int32) (σ : gS) : Option ((Nat ⊕ Int32) × gS) :=
  ob (gcl σ l0 10) fun _ =>
  ob (X12_checkColumn_f E l0 l1 σ) fun x1 =>
  gtry x1 (fun k9 σ9 => some (Sum.inl k9, σ9)) (fun _ σ4 =>
    ob (gcl σ4 l0 10) fun _ =>
    ob (X12_collectSelected_f E l0 l1 σ4) fun x6 =>
    ob (gfR x6 l0 10 9) fun x9 =>
    ob (gcl x6 x9 2) fun _ =>
    ob (X3_size_f E x6 x9) fun x11 =>
    some (Sum.inr x11, x6))
set_option maxHeartbeats 4000000 in
set_option maxRecDepth 100000 in
theorem X12_distinctSelected_W {σ : gS} {l0 : Nat} {l1 : Int32} {res : ((Nat ⊕ Int32) × gS)} {ls : Array Slot} (hC : gC E D A p R s m args meth c cX12_distinctSelected 2 RX12 "distinctSelected" 7 146) (hQ : ∀ (r : Int32) (σ1 : gS), res = (.inr r, σ1) → gQI E D A p l e R s m args below meth c Q cX12_distinctSelected FieldType.int (r, σ1)) (hT : ∀ (k : Nat) (σ1 : gS), res = (.inl k, σ1) → gTN E D A p l e R s m args below meth c Q cX12_distinctSelected 2 RX12 k σ1) (hst : l.stackTraces = false) (hf : X12_distinctSelected E l0 l1 σ = some res) (hw : gW E D A s σ H locs) (hl : lv_has ls 2 [(0, .ref l0), (1, .int l1)]) : W p l e R s m args below meth c H locs cells slots Q (F0 m 0 ls []) := by
  have hC0 := hC
  obtain ⟨hx, hb, hml, hown, hts, -⟩ := hC0
  unfold X12_distinctSelected at hf
  refine lv_aload_n hx hb dX12_distinctSelected_0 rfl (lv_at hl 0 rfl) ?_
  refine lv_iload_n hx hb dX12_distinctSelected_1 rfl (lv_at hl 1 rfl) ?_
  obtain ⟨_, h3, hf⟩ := ob_some hf
  obtain ⟨x1, h2, hf⟩ := ob_some hf
  refine gg_yVV (As := [.int l1]) hC hw (X12_checkColumn_M l hst E D A h2) h3 rfl g_ml_X12_116 hd_X12_checkColumn (Nat.le_of_ble_eq_true rfl) (Nat.le_of_ble_eq_true rfl) hl.1 rfl (Nat.le_of_ble_eq_true rfl) dX12_distinctSelected_2 (fun k9 σ9 he => ?_) (fun σ4 he H locs cells slots hw => ?_)
  · subst he
    replace hf := gtry_inl.symm.trans hf
    cases hf
    exact (hT _ _ rfl).2.2 _ _ _
  · subst he
    replace hf := gtry_inr.symm.trans hf
    refine lv_aload_n hx hb dX12_distinctSelected_5 rfl (lv_at hl 0 rfl) ?_
    refine lv_iload_n hx hb dX12_distinctSelected_6 rfl (lv_at hl 1 rfl) ?_
    obtain ⟨_, h8, hf⟩ := ob_some hf
    obtain ⟨x6, h7, hf⟩ := ob_some hf
    refine gg_cVV (As := [.int l1]) hC hw (X12_collectSelected_M l E D A h7) h8 rfl g_ml_X12_238 hd_X12_collectSelected (Nat.le_of_ble_eq_true rfl) (Nat.le_of_ble_eq_true rfl) hl.1 rfl (Nat.le_of_ble_eq_true rfl) dX12_distinctSelected_7 (fun H locs cells slots hw => ?_)
    refine lv_aload_n hx hb dX12_distinctSelected_10 rfl (lv_at hl 0 rfl) ?_
    obtain ⟨x9, h10, hf⟩ := ob_some hf
    refine rR_fl_X12_56 hC hw h10 dX12_distinctSelected_11 ?_
    obtain ⟨_, h13, hf⟩ := ob_some hf
    obtain ⟨x11, h12, hf⟩ := ob_some hf
    refine gg_cVI (As := []) hC hw (X3_size_M l E D A h12) h13 rfl g_ml_X12_139 hd_X3_size (Nat.le_of_ble_eq_true rfl) (Nat.le_of_ble_eq_true rfl) hl.1 rfl (Nat.le_of_ble_eq_true rfl) dX12_distinctSelected_14 (fun H locs cells slots hw => ?_)
    cases hf
    exact hQ _ _ rfl _ _ _ _ _ _ dX12_distinctSelected_17 rfl hw

def X12_distinctSelected_f (E : gE) (l0 : Nat) (l1 : Int32) (σ : gS) : Option ((Nat ⊕ Int32) × gS) := X12_distinctSelected E l0 l1 σ
set_option maxRecDepth 100000 in
theorem X12_distinctSelected_M (l : Launch) (hst : l.stackTraces = false) (E : gE) (D : va_G) (A : Nat → Prop) {l0 : Nat} {l1 : Int32} {σ : gS} {res : ((Nat ⊕ Int32) × gS)} (hf : X12_distinctSelected_f E l0 l1 σ = some res) : gYI l E D A yX12_distinctSelected (Cond.code yX12_distinctSelected cX12_distinctSelected 2 (some FieldType.int)) 7 146 [.ref l0, .int l1] σ res := by
  refine gg_entYI (own := RX12) (nm := "distinctSelected") (ty := FieldType.int) hst (Nat.le_of_ble_eq_true rfl) (Nat.le_of_ble_eq_true rfl) (by decide +kernel) rfl rfl (Nat.le_of_ble_eq_true rfl) rfl ?_
  intro p e R s m args below meth c Q ls hC hw hQ hT hl
  have hl : lv_has ls 2 [(0, .ref l0), (1, .int l1)] := hl
  exact X12_distinctSelected_W hC hQ hT hst hf hw hl

def X12_bitWidthCompacted (E : gE) (l0 : Nat) (l1 : Int32) (σ : gS) : Option ((Nat ⊕ Int32) × gS) :=
  ob (gcl σ l0 10) fun _ =>
  ob (X12_checkColumn_f E l0 l1 σ) fun x1 =>
  gtry x1 (fun k9 σ9 => some (Sum.inl k9, σ9)) (fun _ σ4 =>
    ob (gfR σ4 l0 10 0) fun x6 =>
    ob (gcl σ4 x6 9) fun _ =>
    ob (X11_column_f E σ4 x6 l1) fun x8 =>
    ob (gfR σ4 l0 10 9) fun x11 =>
    ob (gcl σ4 x8 0) fun _ =>
    ob (X1_collectInto_f E x8 x11 σ4) fun x13 =>
    ob (gfR x13 l0 10 9) fun x16 =>
    ob (gcl x13 x16 2) fun _ =>
    ob (X3_width_f E x13 x16) fun x18 =>
    some (Sum.inr x18, x13))
set_option maxHeartbeats 4000000 in
set_option maxRecDepth 100000 in
theorem X12_bitWidthCompacted_W {σ : gS} {l0 : Nat} {l1 : Int32} {res : ((Nat ⊕ Int32) × gS)} {ls : Array Slot} (hC : gC E D A p R s m args meth c cX12_bitWidthCompacted 2 RX12 "bitWidthCompacted" 7 146) (hQ : ∀ (r : Int32) (σ1 : gS), res = (.inr r, σ1) → gQI E D A p l e R s m args below meth c Q cX12_bitWidthCompacted FieldType.int (r, σ1)) (hT : ∀ (k : Nat) (σ1 : gS), res = (.inl k, σ1) → gTN E D A p l e R s m args below meth c Q cX12_bitWidthCompacted 2 RX12 k σ1) (hst : l.stackTraces = false) (hf : X12_bitWidthCompacted E l0 l1 σ = some res) (hw : gW E D A s σ H locs) (hl : lv_has ls 2 [(0, .ref l0), (1, .int l1)]) : W p l e R s m args below meth c H locs cells slots Q (F0 m 0 ls []) := by
  have hC0 := hC
  obtain ⟨hx, hb, hml, hown, hts, -⟩ := hC0
  unfold X12_bitWidthCompacted at hf
  refine lv_aload_n hx hb dX12_bitWidthCompacted_0 rfl (lv_at hl 0 rfl) ?_
  refine lv_iload_n hx hb dX12_bitWidthCompacted_1 rfl (lv_at hl 1 rfl) ?_
  obtain ⟨_, h3, hf⟩ := ob_some hf
  obtain ⟨x1, h2, hf⟩ := ob_some hf
  refine gg_yVV (As := [.int l1]) hC hw (X12_checkColumn_M l hst E D A h2) h3 rfl g_ml_X12_116 hd_X12_checkColumn (Nat.le_of_ble_eq_true rfl) (Nat.le_of_ble_eq_true rfl) hl.1 rfl (Nat.le_of_ble_eq_true rfl) dX12_bitWidthCompacted_2 (fun k9 σ9 he => ?_) (fun σ4 he H locs cells slots hw => ?_)
  · subst he
    replace hf := gtry_inl.symm.trans hf
    cases hf
    exact (hT _ _ rfl).2.2 _ _ _
  · subst he
    replace hf := gtry_inr.symm.trans hf
    refine lv_aload_n hx hb dX12_bitWidthCompacted_5 rfl (lv_at hl 0 rfl) ?_
    obtain ⟨x6, h7, hf⟩ := ob_some hf
    refine rR_fl_X12_10 hC hw h7 dX12_bitWidthCompacted_6 ?_
    refine lv_iload_n hx hb dX12_bitWidthCompacted_9 rfl (lv_at hl 1 rfl) ?_
    obtain ⟨_, h10, hf⟩ := ob_some hf
    obtain ⟨x8, h9, hf⟩ := ob_some hf
    refine gg_cVR (As := [.int l1]) hC hw (X11_column_M l E D A h9) h10 rfl g_ml_X12_122 hd_X11_column (Nat.le_of_ble_eq_true rfl) (Nat.le_of_ble_eq_true rfl) hl.1 rfl (Nat.le_of_ble_eq_true rfl) dX12_bitWidthCompacted_10 (fun H locs cells slots hw => ?_)
    refine lv_aload_n hx hb dX12_bitWidthCompacted_13 rfl (lv_at hl 0 rfl) ?_
    obtain ⟨x11, h12, hf⟩ := ob_some hf
    refine rR_fl_X12_56 hC hw h12 dX12_bitWidthCompacted_14 ?_
    obtain ⟨_, h15, hf⟩ := ob_some hf
    obtain ⟨x13, h14, hf⟩ := ob_some hf
    refine gg_cVV (As := [.ref x11]) hC hw (X1_collectInto_M l E D A h14) h15 rfl g_ml_X12_150 hd_X1_collectInto (Nat.le_of_ble_eq_true rfl) (Nat.le_of_ble_eq_true rfl) hl.1 rfl (Nat.le_of_ble_eq_true rfl) dX12_bitWidthCompacted_17 (fun H locs cells slots hw => ?_)
    refine lv_aload_n hx hb dX12_bitWidthCompacted_20 rfl (lv_at hl 0 rfl) ?_
    obtain ⟨x16, h17, hf⟩ := ob_some hf
    refine rR_fl_X12_56 hC hw h17 dX12_bitWidthCompacted_21 ?_
    obtain ⟨_, h20, hf⟩ := ob_some hf
    obtain ⟨x18, h19, hf⟩ := ob_some hf
    refine gg_cVI (As := []) hC hw (X3_width_M l E D A h19) h20 rfl g_ml_X12_160 hd_X3_width (Nat.le_of_ble_eq_true rfl) (Nat.le_of_ble_eq_true rfl) hl.1 rfl (Nat.le_of_ble_eq_true rfl) dX12_bitWidthCompacted_24 (fun H locs cells slots hw => ?_)
    cases hf
    exact hQ _ _ rfl _ _ _ _ _ _ dX12_bitWidthCompacted_27 rfl hw

def X12_bitWidthCompacted_f (E : gE) (l0 : Nat) (l1 : Int32) (σ : gS) : Option ((Nat ⊕ Int32) × gS) := X12_bitWidthCompacted E l0 l1 σ
set_option maxRecDepth 100000 in
theorem X12_bitWidthCompacted_M (l : Launch) (hst : l.stackTraces = false) (E : gE) (D : va_G) (A : Nat → Prop) {l0 : Nat} {l1 : Int32} {σ : gS} {res : ((Nat ⊕ Int32) × gS)} (hf : X12_bitWidthCompacted_f E l0 l1 σ = some res) : gYI l E D A yX12_bitWidthCompacted (Cond.code yX12_bitWidthCompacted cX12_bitWidthCompacted 2 (some FieldType.int)) 7 146 [.ref l0, .int l1] σ res := by
  refine gg_entYI (own := RX12) (nm := "bitWidthCompacted") (ty := FieldType.int) hst (Nat.le_of_ble_eq_true rfl) (Nat.le_of_ble_eq_true rfl) (by decide +kernel) rfl rfl (Nat.le_of_ble_eq_true rfl) rfl ?_
  intro p e R s m args below meth c Q ls hC hw hQ hT hl
  have hl : lv_has ls 2 [(0, .ref l0), (1, .int l1)] := hl
  exact X12_bitWidthCompacted_W hC hQ hT hst hf hw hl

def X12_runsIfSorted (E : gE) (l0 : Nat) (l1 : Int32) (σ : gS) : Option ((Nat ⊕ Int32) × gS) :=
  ob (gcl σ l0 10) fun _ =>
  ob (X12_checkColumn_f E l0 l1 σ) fun x1 =>
  gtry x1 (fun k9 σ9 => some (Sum.inl k9, σ9)) (fun _ σ4 =>
    ob (gcl σ4 l0 10) fun _ =>
    ob (X12_runsAfterSorting_f E l0 l1 σ4) fun x6 =>
    some (Sum.inr x6.1, x6.2))
set_option maxHeartbeats 4000000 in
set_option maxRecDepth 100000 in
theorem X12_runsIfSorted_W {σ : gS} {l0 : Nat} {l1 : Int32} {res : ((Nat ⊕ Int32) × gS)} {ls : Array Slot} (hC : gC E D A p R s m args meth c cX12_runsIfSorted 2 RX12 "runsIfSorted" 7 111) (hQ : ∀ (r : Int32) (σ1 : gS), res = (.inr r, σ1) → gQI E D A p l e R s m args below meth c Q cX12_runsIfSorted FieldType.int (r, σ1)) (hT : ∀ (k : Nat) (σ1 : gS), res = (.inl k, σ1) → gTN E D A p l e R s m args below meth c Q cX12_runsIfSorted 2 RX12 k σ1) (hst : l.stackTraces = false) (hf : X12_runsIfSorted E l0 l1 σ = some res) (hw : gW E D A s σ H locs) (hl : lv_has ls 2 [(0, .ref l0), (1, .int l1)]) : W p l e R s m args below meth c H locs cells slots Q (F0 m 0 ls []) := by
  have hC0 := hC
  obtain ⟨hx, hb, hml, hown, hts, -⟩ := hC0
  unfold X12_runsIfSorted at hf
  refine lv_aload_n hx hb dX12_runsIfSorted_0 rfl (lv_at hl 0 rfl) ?_
  refine lv_iload_n hx hb dX12_runsIfSorted_1 rfl (lv_at hl 1 rfl) ?_
  obtain ⟨_, h3, hf⟩ := ob_some hf
  obtain ⟨x1, h2, hf⟩ := ob_some hf
  refine gg_yVV (As := [.int l1]) hC hw (X12_checkColumn_M l hst E D A h2) h3 rfl g_ml_X12_116 hd_X12_checkColumn (Nat.le_of_ble_eq_true rfl) (Nat.le_of_ble_eq_true rfl) hl.1 rfl (Nat.le_of_ble_eq_true rfl) dX12_runsIfSorted_2 (fun k9 σ9 he => ?_) (fun σ4 he H locs cells slots hw => ?_)
  · subst he
    replace hf := gtry_inl.symm.trans hf
    cases hf
    exact (hT _ _ rfl).2.2 _ _ _
  · subst he
    replace hf := gtry_inr.symm.trans hf
    refine lv_aload_n hx hb dX12_runsIfSorted_5 rfl (lv_at hl 0 rfl) ?_
    refine lv_iload_n hx hb dX12_runsIfSorted_6 rfl (lv_at hl 1 rfl) ?_
    obtain ⟨_, h8, hf⟩ := ob_some hf
    obtain ⟨x6, h7, hf⟩ := ob_some hf
    refine gg_cVI (As := [.int l1]) hC hw (X12_runsAfterSorting_M l E D A h7) h8 rfl g_ml_X12_253 hd_X12_runsAfterSorting (Nat.le_of_ble_eq_true rfl) (Nat.le_of_ble_eq_true rfl) hl.1 rfl (Nat.le_of_ble_eq_true rfl) dX12_runsIfSorted_7 (fun H locs cells slots hw => ?_)
    cases hf
    exact hQ _ _ rfl _ _ _ _ _ _ dX12_runsIfSorted_10 rfl hw

def X12_runsIfSorted_f (E : gE) (l0 : Nat) (l1 : Int32) (σ : gS) : Option ((Nat ⊕ Int32) × gS) := X12_runsIfSorted E l0 l1 σ
set_option maxRecDepth 100000 in
theorem X12_runsIfSorted_M (l : Launch) (hst : l.stackTraces = false) (E : gE) (D : va_G) (A : Nat → Prop) {l0 : Nat} {l1 : Int32} {σ : gS} {res : ((Nat ⊕ Int32) × gS)} (hf : X12_runsIfSorted_f E l0 l1 σ = some res) : gYI l E D A yX12_runsIfSorted (Cond.code yX12_runsIfSorted cX12_runsIfSorted 2 (some FieldType.int)) 7 111 [.ref l0, .int l1] σ res := by
  refine gg_entYI (own := RX12) (nm := "runsIfSorted") (ty := FieldType.int) hst (Nat.le_of_ble_eq_true rfl) (Nat.le_of_ble_eq_true rfl) (by decide +kernel) rfl rfl (Nat.le_of_ble_eq_true rfl) rfl ?_
  intro p e R s m args below meth c Q ls hC hw hQ hT hl
  have hl : lv_has ls 2 [(0, .ref l0), (1, .int l1)] := hl
  exact X12_runsIfSorted_W hC hQ hT hst hf hw hl

def X12_bestSortColumn_39 (E : gE) (r_10 : Nat → Int32 → Int32 → Int32 → gS → Option (Int32 × gS)) (l0 : Nat) (l1 : Int32) (l2 : Int32) (l3 : Int32) (σ : gS) : Option (Int32 × gS) :=
  r_10 l0 l1 l2 (l3 + 1) σ
set_option maxHeartbeats 4000000 in
set_option maxRecDepth 100000 in
theorem X12_bestSortColumn_39_W {σ : gS} {l0 : Nat} {l1 : Int32} {l2 : Int32} {l3 : Int32} {res : (Int32 × gS)} {ls : Array Slot} (hC : gC E D A p R s m args meth c cX12_bestSortColumn 5 RX12 "bestSortColumn" 3 71) (hQ : gQI E D A p l e R s m args below meth c Q cX12_bestSortColumn FieldType.int res) {r_10 : Nat → Int32 → Int32 → Int32 → gS → Option (Int32 × gS)} (h_10 : ∀ {l0 : Nat} {l1 : Int32} {l2 : Int32} {l3 : Int32} {σ : gS} {H : Heap} {locs : List Loc} {cells slots : Nat} {ls : Array Slot}, r_10 l0 l1 l2 l3 σ = some res → gW E D A s σ H locs → lv_has ls 5 [(0, .ref l0), (1, .int l1), (2, .int l2), (3, .int l3)] → W p l e R s m args below meth c H locs cells slots Q (F0 m 10 ls [])) (hf : X12_bestSortColumn_39 E r_10 l0 l1 l2 l3 σ = some res) (hw : gW E D A s σ H locs) (hl : lv_has ls 5 [(0, .ref l0), (1, .int l1), (2, .int l2), (3, .int l3)]) : W p l e R s m args below meth c H locs cells slots Q (F0 m 39 ls []) := by
  have hC0 := hC
  obtain ⟨hx, hb, hml, hown, hts, -⟩ := hC0
  unfold X12_bestSortColumn_39 at hf
  refine lv_iinc (v := (l3 + 1)) (lv' := [(3, .int (l3 + 1)), (0, .ref l0), (1, .int l1), (2, .int l2)]) hx hb dX12_bestSortColumn_39 hl (k := 3) rfl rfl (by decide) rfl (fun ls hl => ?_)
  refine lv_goto (tgt := 10) hx hb dX12_bestSortColumn_42 (by decide) ?_
  exact h_10 hf hw (lv_sub hl [1, 2, 3, 0] rfl)

def X12_bestSortColumn_10_s (E : gE) (r_10 : Nat → Int32 → Int32 → Int32 → gS → Option (Int32 × gS)) (l0 : Nat) (l1 : Int32) (l2 : Int32) (l3 : Int32) (σ : gS) : Option (Int32 × gS) :=
  ob (gfR σ l0 10 0) fun x1 =>
  ob (gcl σ x1 9) fun _ =>
  ob (X11_columns_f E σ x1) fun x3 =>
  if x3 ≤ l3 then
    some (l1, σ)
  else
    ob (gcl σ l0 10) fun _ =>
    ob (X12_runsAfterSorting_f E l0 l3 σ) fun x6 =>
    if l2 ≤ x6.1 then
      X12_bestSortColumn_39 E r_10 l0 l1 l2 l3 x6.2
    else
      X12_bestSortColumn_39 E r_10 l0 l3 x6.1 l3 x6.2
set_option maxHeartbeats 4000000 in
set_option maxRecDepth 100000 in
theorem X12_bestSortColumn_10_s_W {σ : gS} {l0 : Nat} {l1 : Int32} {l2 : Int32} {l3 : Int32} {res : (Int32 × gS)} {ls : Array Slot} (hC : gC E D A p R s m args meth c cX12_bestSortColumn 5 RX12 "bestSortColumn" 3 71) (hQ : gQI E D A p l e R s m args below meth c Q cX12_bestSortColumn FieldType.int res) {r_10 : Nat → Int32 → Int32 → Int32 → gS → Option (Int32 × gS)} (h_10 : ∀ {l0 : Nat} {l1 : Int32} {l2 : Int32} {l3 : Int32} {σ : gS} {H : Heap} {locs : List Loc} {cells slots : Nat} {ls : Array Slot}, r_10 l0 l1 l2 l3 σ = some res → gW E D A s σ H locs → lv_has ls 5 [(0, .ref l0), (1, .int l1), (2, .int l2), (3, .int l3)] → W p l e R s m args below meth c H locs cells slots Q (F0 m 10 ls [])) (hf : X12_bestSortColumn_10_s E r_10 l0 l1 l2 l3 σ = some res) (hw : gW E D A s σ H locs) (hl : lv_has ls 5 [(0, .ref l0), (1, .int l1), (2, .int l2), (3, .int l3)]) : W p l e R s m args below meth c H locs cells slots Q (F0 m 10 ls []) := by
  have hC0 := hC
  obtain ⟨hx, hb, hml, hown, hts, -⟩ := hC0
  unfold X12_bestSortColumn_10_s at hf
  refine lv_iload_n hx hb dX12_bestSortColumn_10 rfl (lv_at hl 3 rfl) ?_
  refine lv_aload_n hx hb dX12_bestSortColumn_11 rfl (lv_at hl 0 rfl) ?_
  obtain ⟨x1, h2, hf⟩ := ob_some hf
  refine rR_fl_X12_10 hC hw h2 dX12_bestSortColumn_12 ?_
  obtain ⟨_, h5, hf⟩ := ob_some hf
  obtain ⟨x3, h4, hf⟩ := ob_some hf
  refine gg_cVI (As := []) hC hw (X11_columns_M l E D A h4) h5 rfl g_ml_X12_115 hd_X11_columns (Nat.le_of_ble_eq_true rfl) (Nat.le_of_ble_eq_true rfl) hl.1 rfl (Nat.le_of_ble_eq_true rfl) dX12_bestSortColumn_15 (fun H locs cells slots hw => ?_)
  refine lv_icmp_ge (tgt := 45) hx hb dX12_bestSortColumn_18 (by decide) (fun c10 => ?_) (fun c10 => ?_)
  · replace hf := (if_pos c10).symm.trans hf
    refine lv_iload_n hx hb dX12_bestSortColumn_45 rfl (lv_at hl 1 rfl) ?_
    cases hf
    exact hQ _ _ _ _ _ _ dX12_bestSortColumn_46 rfl hw
  · replace hf := (if_neg c10).symm.trans hf
    refine lv_aload_n hx hb dX12_bestSortColumn_21 rfl (lv_at hl 0 rfl) ?_
    refine lv_iload_n hx hb dX12_bestSortColumn_22 rfl (lv_at hl 3 rfl) ?_
    obtain ⟨_, h8, hf⟩ := ob_some hf
    obtain ⟨x6, h7, hf⟩ := ob_some hf
    refine gg_cVI (As := [.int l3]) hC hw (X12_runsAfterSorting_M l E D A h7) h8 rfl g_ml_X12_253 hd_X12_runsAfterSorting (Nat.le_of_ble_eq_true rfl) (Nat.le_of_ble_eq_true rfl) hl.1 rfl (Nat.le_of_ble_eq_true rfl) dX12_bestSortColumn_23 (fun H locs cells slots hw => ?_)
    refine lv_istore (lv' := [(4, .int x6.1), (0, .ref l0), (1, .int l1), (2, .int l2), (3, .int l3)]) hx hb dX12_bestSortColumn_26 hl (by decide) rfl (fun ls hl => ?_)
    refine lv_iload hx hb dX12_bestSortColumn_28 (lv_at hl 0 rfl) ?_
    refine lv_iload_n hx hb dX12_bestSortColumn_30 rfl (lv_at hl 3 rfl) ?_
    refine lv_icmp_ge (tgt := 39) hx hb dX12_bestSortColumn_31 (by decide) (fun c9 => ?_) (fun c9 => ?_)
    · replace hf := (if_pos c9).symm.trans hf
      exact X12_bestSortColumn_39_W hC hQ h_10 hf hw (lv_sub hl [1, 2, 3, 4] rfl)
    · replace hf := (if_neg c9).symm.trans hf
      refine lv_iload_n hx hb dX12_bestSortColumn_34 rfl (lv_at hl 4 rfl) ?_
      refine lv_istore_n (lv' := [(1, .int l3), (4, .int x6.1), (0, .ref l0), (2, .int l2), (3, .int l3)]) hx hb dX12_bestSortColumn_35 rfl hl (by decide) rfl (fun ls hl => ?_)
      refine lv_iload hx hb dX12_bestSortColumn_36 (lv_at hl 1 rfl) ?_
      refine lv_istore_n (lv' := [(2, .int x6.1), (1, .int l3), (4, .int x6.1), (0, .ref l0), (3, .int l3)]) hx hb dX12_bestSortColumn_38 rfl hl (by decide) rfl (fun ls hl => ?_)
      exact X12_bestSortColumn_39_W hC hQ h_10 hf hw (lv_sub hl [3, 1, 0, 4] rfl)
def X12_bestSortColumn_10 (E : gE) : Nat → Nat → Int32 → Int32 → Int32 → gS → Option (Int32 × gS)
  | 0 => fun _ _ _ _ _ => none
  | n + 1 => X12_bestSortColumn_10_s E (X12_bestSortColumn_10 E n)
theorem X12_bestSortColumn_10_W {res : (Int32 × gS)} (hC : gC E D A p R s m args meth c cX12_bestSortColumn 5 RX12 "bestSortColumn" 3 71) (hQ : gQI E D A p l e R s m args below meth c Q cX12_bestSortColumn FieldType.int res) : ∀ (n : Nat), ∀ {l0 : Nat} {l1 : Int32} {l2 : Int32} {l3 : Int32} {σ : gS} {H : Heap} {locs : List Loc} {cells slots : Nat} {ls : Array Slot}, X12_bestSortColumn_10 E n l0 l1 l2 l3 σ = some res → gW E D A s σ H locs → lv_has ls 5 [(0, .ref l0), (1, .int l1), (2, .int l2), (3, .int l3)] → W p l e R s m args below meth c H locs cells slots Q (F0 m 10 ls []) := by
  intro n
  induction n with
  | zero =>
    intros
    rename_i hf _ _
    exact absurd hf (fun h => by cases (show (none : Option (Int32 × gS)) = some res from h))
  | succ n ih =>
    intros
    rename_i hf hw hl
    exact X12_bestSortColumn_10_s_W hC hQ ih hf hw hl

def X12_bestSortColumn (E : gE) (l0 : Nat) (σ : gS) : Option (Int32 × gS) :=
  ob (gcl σ l0 10) fun _ =>
  ob (X12_runsAfterSorting_f E l0 (0 : Int32) σ) fun x11 =>
  X12_bestSortColumn_10 E (gN E) l0 (0 : Int32) x11.1 (1 : Int32) x11.2
set_option maxHeartbeats 4000000 in
set_option maxRecDepth 100000 in
theorem X12_bestSortColumn_W {σ : gS} {l0 : Nat} {res : (Int32 × gS)} {ls : Array Slot} (hC : gC E D A p R s m args meth c cX12_bestSortColumn 5 RX12 "bestSortColumn" 3 71) (hQ : gQI E D A p l e R s m args below meth c Q cX12_bestSortColumn FieldType.int res) (hf : X12_bestSortColumn E l0 σ = some res) (hw : gW E D A s σ H locs) (hl : lv_has ls 5 [(0, .ref l0)]) : W p l e R s m args below meth c H locs cells slots Q (F0 m 0 ls []) := by
  have hC0 := hC
  obtain ⟨hx, hb, hml, hown, hts, -⟩ := hC0
  unfold X12_bestSortColumn at hf
  refine lv_iconst (v := 0) hx hb dX12_bestSortColumn_0 (by decide) ?_
  refine lv_istore_n (lv' := [(1, .int (0 : Int32)), (0, .ref l0)]) hx hb dX12_bestSortColumn_1 rfl hl (by decide) rfl (fun ls hl => ?_)
  refine lv_aload_n hx hb dX12_bestSortColumn_2 rfl (lv_at hl 1 rfl) ?_
  refine lv_iconst (v := 0) hx hb dX12_bestSortColumn_3 (by decide) ?_
  obtain ⟨_, h13, hf⟩ := ob_some hf
  obtain ⟨x11, h12, hf⟩ := ob_some hf
  refine gg_cVI (As := [.int (0 : Int32)]) hC hw (X12_runsAfterSorting_M l E D A h12) h13 rfl g_ml_X12_253 hd_X12_runsAfterSorting (Nat.le_of_ble_eq_true rfl) (Nat.le_of_ble_eq_true rfl) hl.1 rfl (Nat.le_of_ble_eq_true rfl) dX12_bestSortColumn_4 (fun H locs cells slots hw => ?_)
  refine lv_istore_n (lv' := [(2, .int x11.1), (1, .int (0 : Int32)), (0, .ref l0)]) hx hb dX12_bestSortColumn_7 rfl hl (by decide) rfl (fun ls hl => ?_)
  refine lv_iconst (v := 1) hx hb dX12_bestSortColumn_8 (by decide) ?_
  refine lv_istore_n (lv' := [(3, .int (1 : Int32)), (2, .int x11.1), (1, .int (0 : Int32)), (0, .ref l0)]) hx hb dX12_bestSortColumn_9 rfl hl (by decide) rfl (fun ls hl => ?_)
  exact X12_bestSortColumn_10_W hC hQ (gN E) hf hw (lv_sub hl [3, 2, 1, 0] rfl)

def X12_bestSortColumn_f (E : gE) (l0 : Nat) (σ : gS) : Option (Int32 × gS) := X12_bestSortColumn E l0 σ
set_option maxRecDepth 100000 in
theorem X12_bestSortColumn_M (l : Launch) (E : gE) (D : va_G) (A : Nat → Prop) {l0 : Nat} {σ : gS} {res : (Int32 × gS)} (hf : X12_bestSortColumn_f E l0 σ = some res) : gCI l E D A yX12_bestSortColumn cX12_bestSortColumn 5 3 71 (some FieldType.int) [.ref l0] σ res := by
  refine gg_entI (own := RX12) (nm := "bestSortColumn") (ty := FieldType.int) (by decide +kernel) rfl rfl (Nat.le_of_ble_eq_true rfl) rfl ?_
  intro p e R s m args below meth c Q ls hC hw hQ hl
  have hl : lv_has ls 5 [(0, .ref l0)] := hl
  exact X12_bestSortColumn_W hC hQ hf hw hl

def X12_gap_37 (E : gE) (r_4 : Nat → Int32 → Int32 → gS → Option (Int32 × gS)) (l0 : Nat) (l1 : Int32) (l2 : Int32) (σ : gS) : Option (Int32 × gS) :=
  r_4 l0 l1 (l2 + 1) σ
set_option maxHeartbeats 4000000 in
set_option maxRecDepth 100000 in
theorem X12_gap_37_W {σ : gS} {l0 : Nat} {l1 : Int32} {l2 : Int32} {res : (Int32 × gS)} {ls : Array Slot} (hC : gC E D A p R s m args meth c cX12_gap 3 RX12 "gap" 5 113) (hQ : gQI E D A p l e R s m args below meth c Q cX12_gap FieldType.int res) {r_4 : Nat → Int32 → Int32 → gS → Option (Int32 × gS)} (h_4 : ∀ {l0 : Nat} {l1 : Int32} {l2 : Int32} {σ : gS} {H : Heap} {locs : List Loc} {cells slots : Nat} {ls : Array Slot}, r_4 l0 l1 l2 σ = some res → gW E D A s σ H locs → lv_has ls 3 [(0, .ref l0), (1, .int l1), (2, .int l2)] → W p l e R s m args below meth c H locs cells slots Q (F0 m 4 ls [])) (hf : X12_gap_37 E r_4 l0 l1 l2 σ = some res) (hw : gW E D A s σ H locs) (hl : lv_has ls 3 [(0, .ref l0), (1, .int l1), (2, .int l2)]) : W p l e R s m args below meth c H locs cells slots Q (F0 m 37 ls []) := by
  have hC0 := hC
  obtain ⟨hx, hb, hml, hown, hts, -⟩ := hC0
  unfold X12_gap_37 at hf
  refine lv_iinc (v := (l2 + 1)) (lv' := [(2, .int (l2 + 1)), (0, .ref l0), (1, .int l1)]) hx hb dX12_gap_37 hl (k := 2) rfl rfl (by decide) rfl (fun ls hl => ?_)
  refine lv_goto (tgt := 4) hx hb dX12_gap_40 (by decide) ?_
  exact h_4 hf hw (lv_sub hl [1, 2, 0] rfl)

def X12_gap_45_s (E : gE) (r_45 : Nat → Int32 → Int32 → gS → Option (Int32 × gS)) (l0 : Nat) (l1 : Int32) (l2 : Int32) (σ : gS) : Option (Int32 × gS) :=
  ob (gfR σ l0 10 0) fun x1 =>
  ob (gcl σ x1 9) fun _ =>
  ob (X11_columns_f E σ x1) fun x3 =>
  if x3 ≤ l2 then
    some (l1, σ)
  else
    ob (gfR σ l0 10 0) fun x6 =>
    ob (gcl σ x6 9) fun _ =>
    ob (X11_column_f E σ x6 l2) fun x8 =>
    ob (gcl σ l0 10) fun _ =>
    ob (X12_packingDifferences_f E l0 x8 σ) fun x11 =>
    r_45 l0 (l1 + x11.1) (l2 + 1) x11.2
set_option maxHeartbeats 4000000 in
set_option maxRecDepth 100000 in
theorem X12_gap_45_s_W {σ : gS} {l0 : Nat} {l1 : Int32} {l2 : Int32} {res : (Int32 × gS)} {ls : Array Slot} (hC : gC E D A p R s m args meth c cX12_gap 3 RX12 "gap" 5 113) (hQ : gQI E D A p l e R s m args below meth c Q cX12_gap FieldType.int res) {r_45 : Nat → Int32 → Int32 → gS → Option (Int32 × gS)} (h_45 : ∀ {l0 : Nat} {l1 : Int32} {l2 : Int32} {σ : gS} {H : Heap} {locs : List Loc} {cells slots : Nat} {ls : Array Slot}, r_45 l0 l1 l2 σ = some res → gW E D A s σ H locs → lv_has ls 3 [(0, .ref l0), (1, .int l1), (2, .int l2)] → W p l e R s m args below meth c H locs cells slots Q (F0 m 45 ls [])) (hf : X12_gap_45_s E r_45 l0 l1 l2 σ = some res) (hw : gW E D A s σ H locs) (hl : lv_has ls 3 [(0, .ref l0), (1, .int l1), (2, .int l2)]) : W p l e R s m args below meth c H locs cells slots Q (F0 m 45 ls []) := by
  have hC0 := hC
  obtain ⟨hx, hb, hml, hown, hts, -⟩ := hC0
  unfold X12_gap_45_s at hf
  refine lv_iload_n hx hb dX12_gap_45 rfl (lv_at hl 2 rfl) ?_
  refine lv_aload_n hx hb dX12_gap_46 rfl (lv_at hl 0 rfl) ?_
  obtain ⟨x1, h2, hf⟩ := ob_some hf
  refine rR_fl_X12_10 hC hw h2 dX12_gap_47 ?_
  obtain ⟨_, h5, hf⟩ := ob_some hf
  obtain ⟨x3, h4, hf⟩ := ob_some hf
  refine gg_cVI (As := []) hC hw (X11_columns_M l E D A h4) h5 rfl g_ml_X12_115 hd_X11_columns (Nat.le_of_ble_eq_true rfl) (Nat.le_of_ble_eq_true rfl) hl.1 rfl (Nat.le_of_ble_eq_true rfl) dX12_gap_50 (fun H locs cells slots hw => ?_)
  refine lv_icmp_ge (tgt := 77) hx hb dX12_gap_53 (by decide) (fun c14 => ?_) (fun c14 => ?_)
  · replace hf := (if_pos c14).symm.trans hf
    refine lv_iload_n hx hb dX12_gap_77 rfl (lv_at hl 1 rfl) ?_
    cases hf
    exact hQ _ _ _ _ _ _ dX12_gap_78 rfl hw
  · replace hf := (if_neg c14).symm.trans hf
    refine lv_iload_n hx hb dX12_gap_56 rfl (lv_at hl 1 rfl) ?_
    refine lv_aload_n hx hb dX12_gap_57 rfl (lv_at hl 0 rfl) ?_
    refine lv_aload_n hx hb dX12_gap_58 rfl (lv_at hl 0 rfl) ?_
    obtain ⟨x6, h7, hf⟩ := ob_some hf
    refine rR_fl_X12_10 hC hw h7 dX12_gap_59 ?_
    refine lv_iload_n hx hb dX12_gap_62 rfl (lv_at hl 2 rfl) ?_
    obtain ⟨_, h10, hf⟩ := ob_some hf
    obtain ⟨x8, h9, hf⟩ := ob_some hf
    refine gg_cVR (As := [.int l2]) hC hw (X11_column_M l E D A h9) h10 rfl g_ml_X12_122 hd_X11_column (Nat.le_of_ble_eq_true rfl) (Nat.le_of_ble_eq_true rfl) hl.1 rfl (Nat.le_of_ble_eq_true rfl) dX12_gap_63 (fun H locs cells slots hw => ?_)
    obtain ⟨_, h13, hf⟩ := ob_some hf
    obtain ⟨x11, h12, hf⟩ := ob_some hf
    refine gg_cVI (As := [.ref x8]) hC hw (X12_packingDifferences_M l E D A h12) h13 rfl g_ml_X12_259 hd_X12_packingDifferences (Nat.le_of_ble_eq_true rfl) (Nat.le_of_ble_eq_true rfl) hl.1 rfl (Nat.le_of_ble_eq_true rfl) dX12_gap_66 (fun H locs cells slots hw => ?_)
    refine lv_iadd hx hb dX12_gap_69 ?_
    refine lv_istore_n (lv' := [(1, .int (l1 + x11.1)), (0, .ref l0), (2, .int l2)]) hx hb dX12_gap_70 rfl hl (by decide) rfl (fun ls hl => ?_)
    refine lv_iinc (v := (l2 + 1)) (lv' := [(2, .int (l2 + 1)), (1, .int (l1 + x11.1)), (0, .ref l0)]) hx hb dX12_gap_71 hl (k := 2) rfl rfl (by decide) rfl (fun ls hl => ?_)
    refine lv_goto (tgt := 45) hx hb dX12_gap_74 (by decide) ?_
    exact h_45 hf hw (lv_sub hl [2, 1, 0] rfl)
def X12_gap_45 (E : gE) : Nat → Nat → Int32 → Int32 → gS → Option (Int32 × gS)
  | 0 => fun _ _ _ _ => none
  | n + 1 => X12_gap_45_s E (X12_gap_45 E n)
theorem X12_gap_45_W {res : (Int32 × gS)} (hC : gC E D A p R s m args meth c cX12_gap 3 RX12 "gap" 5 113) (hQ : gQI E D A p l e R s m args below meth c Q cX12_gap FieldType.int res) : ∀ (n : Nat), ∀ {l0 : Nat} {l1 : Int32} {l2 : Int32} {σ : gS} {H : Heap} {locs : List Loc} {cells slots : Nat} {ls : Array Slot}, X12_gap_45 E n l0 l1 l2 σ = some res → gW E D A s σ H locs → lv_has ls 3 [(0, .ref l0), (1, .int l1), (2, .int l2)] → W p l e R s m args below meth c H locs cells slots Q (F0 m 45 ls []) := by
  intro n
  induction n with
  | zero =>
    intros
    rename_i hf _ _
    exact absurd hf (fun h => by cases (show (none : Option (Int32 × gS)) = some res from h))
  | succ n ih =>
    intros
    rename_i hf hw hl
    exact X12_gap_45_s_W hC hQ ih hf hw hl

def X12_gap_4_s (E : gE) (r_4 : Nat → Int32 → Int32 → gS → Option (Int32 × gS)) (l0 : Nat) (l1 : Int32) (l2 : Int32) (σ : gS) : Option (Int32 × gS) :=
  ob (gfR σ l0 10 0) fun x15 =>
  ob (gcl σ x15 9) fun _ =>
  ob (X11_rows_f E σ x15) fun x17 =>
  if x17 ≤ l2 then
    X12_gap_45 E (gN E) l0 l1 (0 : Int32) σ
  else
    ob (gfR σ l0 10 0) fun x20 =>
    ob (gcl σ x20 9) fun _ =>
    ob (X11_selects_f E σ x20 l2) fun x22 =>
    ob (gfR σ l0 10 0) fun x25 =>
    ob (gcl σ x25 9) fun _ =>
    ob (X11_selectsByCode_f E σ x25 l2) fun x27 =>
    if x22 = x27 then
      X12_gap_37 E r_4 l0 l1 l2 σ
    else
      X12_gap_37 E r_4 l0 (l1 + 1) l2 σ
set_option maxHeartbeats 4000000 in
set_option maxRecDepth 100000 in
theorem X12_gap_4_s_W {σ : gS} {l0 : Nat} {l1 : Int32} {l2 : Int32} {res : (Int32 × gS)} {ls : Array Slot} (hC : gC E D A p R s m args meth c cX12_gap 3 RX12 "gap" 5 113) (hQ : gQI E D A p l e R s m args below meth c Q cX12_gap FieldType.int res) {r_4 : Nat → Int32 → Int32 → gS → Option (Int32 × gS)} (h_4 : ∀ {l0 : Nat} {l1 : Int32} {l2 : Int32} {σ : gS} {H : Heap} {locs : List Loc} {cells slots : Nat} {ls : Array Slot}, r_4 l0 l1 l2 σ = some res → gW E D A s σ H locs → lv_has ls 3 [(0, .ref l0), (1, .int l1), (2, .int l2)] → W p l e R s m args below meth c H locs cells slots Q (F0 m 4 ls [])) (hf : X12_gap_4_s E r_4 l0 l1 l2 σ = some res) (hw : gW E D A s σ H locs) (hl : lv_has ls 3 [(0, .ref l0), (1, .int l1), (2, .int l2)]) : W p l e R s m args below meth c H locs cells slots Q (F0 m 4 ls []) := by
  have hC0 := hC
  obtain ⟨hx, hb, hml, hown, hts, -⟩ := hC0
  unfold X12_gap_4_s at hf
  refine lv_iload_n hx hb dX12_gap_4 rfl (lv_at hl 2 rfl) ?_
  refine lv_aload_n hx hb dX12_gap_5 rfl (lv_at hl 0 rfl) ?_
  obtain ⟨x15, h16, hf⟩ := ob_some hf
  refine rR_fl_X12_10 hC hw h16 dX12_gap_6 ?_
  obtain ⟨_, h19, hf⟩ := ob_some hf
  obtain ⟨x17, h18, hf⟩ := ob_some hf
  refine gg_cVI (As := []) hC hw (X11_rows_M l E D A h18) h19 rfl g_ml_X12_108 hd_X11_rows (Nat.le_of_ble_eq_true rfl) (Nat.le_of_ble_eq_true rfl) hl.1 rfl (Nat.le_of_ble_eq_true rfl) dX12_gap_9 (fun H locs cells slots hw => ?_)
  refine lv_icmp_ge (tgt := 43) hx hb dX12_gap_12 (by decide) (fun c31 => ?_) (fun c31 => ?_)
  · replace hf := (if_pos c31).symm.trans hf
    refine lv_iconst (v := 0) hx hb dX12_gap_43 (by decide) ?_
    refine lv_istore_n (lv' := [(2, .int (0 : Int32)), (0, .ref l0), (1, .int l1)]) hx hb dX12_gap_44 rfl hl (by decide) rfl (fun ls hl => ?_)
    exact X12_gap_45_W hC hQ (gN E) hf hw (lv_sub hl [1, 2, 0] rfl)
  · replace hf := (if_neg c31).symm.trans hf
    refine lv_aload_n hx hb dX12_gap_15 rfl (lv_at hl 0 rfl) ?_
    obtain ⟨x20, h21, hf⟩ := ob_some hf
    refine rR_fl_X12_10 hC hw h21 dX12_gap_16 ?_
    refine lv_iload_n hx hb dX12_gap_19 rfl (lv_at hl 2 rfl) ?_
    obtain ⟨_, h24, hf⟩ := ob_some hf
    obtain ⟨x22, h23, hf⟩ := ob_some hf
    refine gg_cVI (As := [.int l2]) hC hw (X11_selects_M l E D A h23) h24 rfl g_ml_X12_226 hd_X11_selects (Nat.le_of_ble_eq_true rfl) (Nat.le_of_ble_eq_true rfl) hl.1 rfl (Nat.le_of_ble_eq_true rfl) dX12_gap_20 (fun H locs cells slots hw => ?_)
    refine lv_aload_n hx hb dX12_gap_23 rfl (lv_at hl 0 rfl) ?_
    obtain ⟨x25, h26, hf⟩ := ob_some hf
    refine rR_fl_X12_10 hC hw h26 dX12_gap_24 ?_
    refine lv_iload_n hx hb dX12_gap_27 rfl (lv_at hl 2 rfl) ?_
    obtain ⟨_, h29, hf⟩ := ob_some hf
    obtain ⟨x27, h28, hf⟩ := ob_some hf
    refine gg_cVI (As := [.int l2]) hC hw (X11_selectsByCode_M l E D A h28) h29 rfl g_ml_X12_256 hd_X11_selectsByCode (Nat.le_of_ble_eq_true rfl) (Nat.le_of_ble_eq_true rfl) hl.1 rfl (Nat.le_of_ble_eq_true rfl) dX12_gap_28 (fun H locs cells slots hw => ?_)
    refine lv_icmp_eq (tgt := 37) hx hb dX12_gap_31 (by decide) (fun c30 => ?_) (fun c30 => ?_)
    · replace hf := (if_pos c30).symm.trans hf
      exact X12_gap_37_W hC hQ h_4 hf hw (lv_sub hl [0, 1, 2] rfl)
    · replace hf := (if_neg c30).symm.trans hf
      refine lv_iinc (v := (l1 + 1)) (lv' := [(1, .int (l1 + 1)), (0, .ref l0), (2, .int l2)]) hx hb dX12_gap_34 hl (k := 1) rfl rfl (by decide) rfl (fun ls hl => ?_)
      exact X12_gap_37_W hC hQ h_4 hf hw (lv_sub hl [1, 0, 2] rfl)
def X12_gap_4 (E : gE) : Nat → Nat → Int32 → Int32 → gS → Option (Int32 × gS)
  | 0 => fun _ _ _ _ => none
  | n + 1 => X12_gap_4_s E (X12_gap_4 E n)
theorem X12_gap_4_W {res : (Int32 × gS)} (hC : gC E D A p R s m args meth c cX12_gap 3 RX12 "gap" 5 113) (hQ : gQI E D A p l e R s m args below meth c Q cX12_gap FieldType.int res) : ∀ (n : Nat), ∀ {l0 : Nat} {l1 : Int32} {l2 : Int32} {σ : gS} {H : Heap} {locs : List Loc} {cells slots : Nat} {ls : Array Slot}, X12_gap_4 E n l0 l1 l2 σ = some res → gW E D A s σ H locs → lv_has ls 3 [(0, .ref l0), (1, .int l1), (2, .int l2)] → W p l e R s m args below meth c H locs cells slots Q (F0 m 4 ls []) := by
  intro n
  induction n with
  | zero =>
    intros
    rename_i hf _ _
    exact absurd hf (fun h => by cases (show (none : Option (Int32 × gS)) = some res from h))
  | succ n ih =>
    intros
    rename_i hf hw hl
    exact X12_gap_4_s_W hC hQ ih hf hw hl

def X12_gap (E : gE) (l0 : Nat) (σ : gS) : Option (Int32 × gS) :=
  X12_gap_4 E (gN E) l0 (0 : Int32) (0 : Int32) σ
set_option maxHeartbeats 4000000 in
set_option maxRecDepth 100000 in
theorem X12_gap_W {σ : gS} {l0 : Nat} {res : (Int32 × gS)} {ls : Array Slot} (hC : gC E D A p R s m args meth c cX12_gap 3 RX12 "gap" 5 113) (hQ : gQI E D A p l e R s m args below meth c Q cX12_gap FieldType.int res) (hf : X12_gap E l0 σ = some res) (hw : gW E D A s σ H locs) (hl : lv_has ls 3 [(0, .ref l0)]) : W p l e R s m args below meth c H locs cells slots Q (F0 m 0 ls []) := by
  have hC0 := hC
  obtain ⟨hx, hb, hml, hown, hts, -⟩ := hC0
  unfold X12_gap at hf
  refine lv_iconst (v := 0) hx hb dX12_gap_0 (by decide) ?_
  refine lv_istore_n (lv' := [(1, .int (0 : Int32)), (0, .ref l0)]) hx hb dX12_gap_1 rfl hl (by decide) rfl (fun ls hl => ?_)
  refine lv_iconst (v := 0) hx hb dX12_gap_2 (by decide) ?_
  refine lv_istore_n (lv' := [(2, .int (0 : Int32)), (1, .int (0 : Int32)), (0, .ref l0)]) hx hb dX12_gap_3 rfl hl (by decide) rfl (fun ls hl => ?_)
  exact X12_gap_4_W hC hQ (gN E) hf hw (lv_sub hl [2, 1, 0] rfl)

def X12_gap_f (E : gE) (l0 : Nat) (σ : gS) : Option (Int32 × gS) := X12_gap E l0 σ
set_option maxRecDepth 100000 in
theorem X12_gap_M (l : Launch) (E : gE) (D : va_G) (A : Nat → Prop) {l0 : Nat} {σ : gS} {res : (Int32 × gS)} (hf : X12_gap_f E l0 σ = some res) : gCI l E D A yX12_gap cX12_gap 3 5 113 (some FieldType.int) [.ref l0] σ res := by
  refine gg_entI (own := RX12) (nm := "gap") (ty := FieldType.int) (by decide +kernel) rfl rfl (Nat.le_of_ble_eq_true rfl) rfl ?_
  intro p e R s m args below meth c Q ls hC hw hQ hl
  have hl : lv_has ls 3 [(0, .ref l0)] := hl
  exact X12_gap_W hC hQ hf hw hl

def X12_removeRow (E : gE) (l0 : Nat) (l1 : Int32) (σ : gS) : Option ((Nat ⊕ Int32) × gS) :=
  ob (gcl σ l0 10) fun _ =>
  ob (X12_checkRow_f E l0 l1 σ) fun x1 =>
  gtry x1 (fun k9 σ9 => some (Sum.inl k9, σ9)) (fun _ σ4 =>
    ob (gfR σ4 l0 10 3) fun x6 =>
    ob (gfR σ4 l0 10 0) fun x8 =>
    ob (gcl σ4 x6 4) fun _ =>
    ob (X5_record_f E x6 x8 σ4) fun x10 =>
    ob (gfR x10 l0 10 0) fun x13 =>
    ob (gcl x10 x13 9) fun _ =>
    ob (X11_deleteRow_f E x13 l1 x10) fun x15 =>
    ob (gfR x15 l0 10 0) fun x18 =>
    ob (gcl x15 x18 9) fun _ =>
    ob (X11_rows_f E x15 x18) fun x20 =>
    some (Sum.inr x20, x15))
set_option maxHeartbeats 4000000 in
set_option maxRecDepth 100000 in
theorem X12_removeRow_W {σ : gS} {l0 : Nat} {l1 : Int32} {res : ((Nat ⊕ Int32) × gS)} {ls : Array Slot} (hC : gC E D A p R s m args meth c cX12_removeRow 2 RX12 "removeRow" 7 165) (hQ : ∀ (r : Int32) (σ1 : gS), res = (.inr r, σ1) → gQI E D A p l e R s m args below meth c Q cX12_removeRow FieldType.int (r, σ1)) (hT : ∀ (k : Nat) (σ1 : gS), res = (.inl k, σ1) → gTN E D A p l e R s m args below meth c Q cX12_removeRow 2 RX12 k σ1) (hst : l.stackTraces = false) (hf : X12_removeRow E l0 l1 σ = some res) (hw : gW E D A s σ H locs) (hl : lv_has ls 2 [(0, .ref l0), (1, .int l1)]) : W p l e R s m args below meth c H locs cells slots Q (F0 m 0 ls []) := by
  have hC0 := hC
  obtain ⟨hx, hb, hml, hown, hts, -⟩ := hC0
  unfold X12_removeRow at hf
  refine lv_aload_n hx hb dX12_removeRow_0 rfl (lv_at hl 0 rfl) ?_
  refine lv_iload_n hx hb dX12_removeRow_1 rfl (lv_at hl 1 rfl) ?_
  obtain ⟨_, h3, hf⟩ := ob_some hf
  obtain ⟨x1, h2, hf⟩ := ob_some hf
  refine gg_yVV (As := [.int l1]) hC hw (X12_checkRow_M l hst E D A h2) h3 rfl g_ml_X12_119 hd_X12_checkRow (Nat.le_of_ble_eq_true rfl) (Nat.le_of_ble_eq_true rfl) hl.1 rfl (Nat.le_of_ble_eq_true rfl) dX12_removeRow_2 (fun k9 σ9 he => ?_) (fun σ4 he H locs cells slots hw => ?_)
  · subst he
    replace hf := gtry_inl.symm.trans hf
    cases hf
    exact (hT _ _ rfl).2.2 _ _ _
  · subst he
    replace hf := gtry_inr.symm.trans hf
    refine lv_aload_n hx hb dX12_removeRow_5 rfl (lv_at hl 0 rfl) ?_
    obtain ⟨x6, h7, hf⟩ := ob_some hf
    refine rR_fl_X12_22 hC hw h7 dX12_removeRow_6 ?_
    refine lv_aload_n hx hb dX12_removeRow_9 rfl (lv_at hl 0 rfl) ?_
    obtain ⟨x8, h9, hf⟩ := ob_some hf
    refine rR_fl_X12_10 hC hw h9 dX12_removeRow_10 ?_
    obtain ⟨_, h12, hf⟩ := ob_some hf
    obtain ⟨x10, h11, hf⟩ := ob_some hf
    refine gg_cVV (As := [.ref x8]) hC hw (X5_record_M l E D A h11) h12 rfl g_ml_X12_275 hd_X5_record (Nat.le_of_ble_eq_true rfl) (Nat.le_of_ble_eq_true rfl) hl.1 rfl (Nat.le_of_ble_eq_true rfl) dX12_removeRow_13 (fun H locs cells slots hw => ?_)
    refine lv_aload_n hx hb dX12_removeRow_16 rfl (lv_at hl 0 rfl) ?_
    obtain ⟨x13, h14, hf⟩ := ob_some hf
    refine rR_fl_X12_10 hC hw h14 dX12_removeRow_17 ?_
    refine lv_iload_n hx hb dX12_removeRow_20 rfl (lv_at hl 1 rfl) ?_
    obtain ⟨_, h17, hf⟩ := ob_some hf
    obtain ⟨x15, h16, hf⟩ := ob_some hf
    refine gg_cVV (As := [.int l1]) hC hw (X11_deleteRow_M l E D A h16) h17 rfl g_ml_X12_283 hd_X11_deleteRow (Nat.le_of_ble_eq_true rfl) (Nat.le_of_ble_eq_true rfl) hl.1 rfl (Nat.le_of_ble_eq_true rfl) dX12_removeRow_21 (fun H locs cells slots hw => ?_)
    refine lv_aload_n hx hb dX12_removeRow_24 rfl (lv_at hl 0 rfl) ?_
    obtain ⟨x18, h19, hf⟩ := ob_some hf
    refine rR_fl_X12_10 hC hw h19 dX12_removeRow_25 ?_
    obtain ⟨_, h22, hf⟩ := ob_some hf
    obtain ⟨x20, h21, hf⟩ := ob_some hf
    refine gg_cVI (As := []) hC hw (X11_rows_M l E D A h21) h22 rfl g_ml_X12_108 hd_X11_rows (Nat.le_of_ble_eq_true rfl) (Nat.le_of_ble_eq_true rfl) hl.1 rfl (Nat.le_of_ble_eq_true rfl) dX12_removeRow_28 (fun H locs cells slots hw => ?_)
    cases hf
    exact hQ _ _ rfl _ _ _ _ _ _ dX12_removeRow_31 rfl hw

def X12_removeRow_f (E : gE) (l0 : Nat) (l1 : Int32) (σ : gS) : Option ((Nat ⊕ Int32) × gS) := X12_removeRow E l0 l1 σ
set_option maxRecDepth 100000 in
theorem X12_removeRow_M (l : Launch) (hst : l.stackTraces = false) (E : gE) (D : va_G) (A : Nat → Prop) {l0 : Nat} {l1 : Int32} {σ : gS} {res : ((Nat ⊕ Int32) × gS)} (hf : X12_removeRow_f E l0 l1 σ = some res) : gYI l E D A yX12_removeRow (Cond.code yX12_removeRow cX12_removeRow 2 (some FieldType.int)) 7 165 [.ref l0, .int l1] σ res := by
  refine gg_entYI (own := RX12) (nm := "removeRow") (ty := FieldType.int) hst (Nat.le_of_ble_eq_true rfl) (Nat.le_of_ble_eq_true rfl) (by decide +kernel) rfl rfl (Nat.le_of_ble_eq_true rfl) rfl ?_
  intro p e R s m args below meth c Q ls hC hw hQ hT hl
  have hl : lv_has ls 2 [(0, .ref l0), (1, .int l1)] := hl
  exact X12_removeRow_W hC hQ hT hst hf hw hl

def X12_setValue (E : gE) (l0 : Nat) (l1 : Int32) (l2 : Int32) (l3 : Int32) (σ : gS) : Option ((Nat ⊕ Int32) × gS) :=
  ob (gcl σ l0 10) fun _ =>
  ob (X12_checkColumn_f E l0 l1 σ) fun x1 =>
  gtry x1 (fun k9 σ9 => some (Sum.inl k9, σ9)) (fun _ σ4 =>
    ob (gcl σ4 l0 10) fun _ =>
    ob (X12_checkRow_f E l0 l2 σ4) fun x6 =>
    gtry x6 (fun k9 σ9 => some (Sum.inl k9, σ9)) (fun _ σ9 =>
      ob (gcl σ9 l0 10) fun _ =>
      ob (X12_checkValue_f E l0 l3 σ9) fun x11 =>
      gtry x11 (fun k9 σ9 => some (Sum.inl k9, σ9)) (fun _ σ14 =>
        ob (gfR σ14 l0 10 0) fun x16 =>
        ob (gcl σ14 x16 9) fun _ =>
        ob (X11_column_f E σ14 x16 l1) fun x18 =>
        ob (gcl σ14 x18 0) fun _ =>
        ob (X1_valueAt_f E σ14 x18 l2) fun x21 =>
        ob (gfR σ14 l0 10 3) fun x24 =>
        ob (gfR σ14 l0 10 0) fun x26 =>
        ob (gcl σ14 x24 4) fun _ =>
        ob (X5_record_f E x24 x26 σ14) fun x28 =>
        ob (gfR x28 l0 10 0) fun x31 =>
        ob (gcl x28 x31 9) fun _ =>
        ob (X11_column_f E x28 x31 l1) fun x33 =>
        ob (gcl x28 x33 0) fun _ =>
        ob (X1_put_f E x33 l2 l3 x28) fun x36 =>
        some (Sum.inr x21, x36))))
set_option maxHeartbeats 4000000 in
set_option maxRecDepth 100000 in
theorem X12_setValue_W {σ : gS} {l0 : Nat} {l1 : Int32} {l2 : Int32} {l3 : Int32} {res : ((Nat ⊕ Int32) × gS)} {ls : Array Slot} (hC : gC E D A p R s m args meth c cX12_setValue 5 RX12 "setValue" 7 165) (hQ : ∀ (r : Int32) (σ1 : gS), res = (.inr r, σ1) → gQI E D A p l e R s m args below meth c Q cX12_setValue FieldType.int (r, σ1)) (hT : ∀ (k : Nat) (σ1 : gS), res = (.inl k, σ1) → gTN E D A p l e R s m args below meth c Q cX12_setValue 5 RX12 k σ1) (hst : l.stackTraces = false) (hf : X12_setValue E l0 l1 l2 l3 σ = some res) (hw : gW E D A s σ H locs) (hl : lv_has ls 5 [(0, .ref l0), (1, .int l1), (2, .int l2), (3, .int l3)]) : W p l e R s m args below meth c H locs cells slots Q (F0 m 0 ls []) := by
  have hC0 := hC
  obtain ⟨hx, hb, hml, hown, hts, -⟩ := hC0
  unfold X12_setValue at hf
  refine lv_aload_n hx hb dX12_setValue_0 rfl (lv_at hl 0 rfl) ?_
  refine lv_iload_n hx hb dX12_setValue_1 rfl (lv_at hl 1 rfl) ?_
  obtain ⟨_, h3, hf⟩ := ob_some hf
  obtain ⟨x1, h2, hf⟩ := ob_some hf
  refine gg_yVV (As := [.int l1]) hC hw (X12_checkColumn_M l hst E D A h2) h3 rfl g_ml_X12_116 hd_X12_checkColumn (Nat.le_of_ble_eq_true rfl) (Nat.le_of_ble_eq_true rfl) hl.1 rfl (Nat.le_of_ble_eq_true rfl) dX12_setValue_2 (fun k9 σ9 he => ?_) (fun σ4 he H locs cells slots hw => ?_)
  · subst he
    replace hf := gtry_inl.symm.trans hf
    cases hf
    exact (hT _ _ rfl).2.2 _ _ _
  · subst he
    replace hf := gtry_inr.symm.trans hf
    refine lv_aload_n hx hb dX12_setValue_5 rfl (lv_at hl 0 rfl) ?_
    refine lv_iload_n hx hb dX12_setValue_6 rfl (lv_at hl 2 rfl) ?_
    obtain ⟨_, h8, hf⟩ := ob_some hf
    obtain ⟨x6, h7, hf⟩ := ob_some hf
    refine gg_yVV (As := [.int l2]) hC hw (X12_checkRow_M l hst E D A h7) h8 rfl g_ml_X12_119 hd_X12_checkRow (Nat.le_of_ble_eq_true rfl) (Nat.le_of_ble_eq_true rfl) hl.1 rfl (Nat.le_of_ble_eq_true rfl) dX12_setValue_7 (fun k9 σ9 he => ?_) (fun σ9 he H locs cells slots hw => ?_)
    · subst he
      replace hf := gtry_inl.symm.trans hf
      cases hf
      exact (hT _ _ rfl).2.2 _ _ _
    · subst he
      replace hf := gtry_inr.symm.trans hf
      refine lv_aload_n hx hb dX12_setValue_10 rfl (lv_at hl 0 rfl) ?_
      refine lv_iload_n hx hb dX12_setValue_11 rfl (lv_at hl 3 rfl) ?_
      obtain ⟨_, h13, hf⟩ := ob_some hf
      obtain ⟨x11, h12, hf⟩ := ob_some hf
      refine gg_yVV (As := [.int l3]) hC hw (X12_checkValue_M l hst E D A h12) h13 rfl g_ml_X12_244 hd_X12_checkValue (Nat.le_of_ble_eq_true rfl) (Nat.le_of_ble_eq_true rfl) hl.1 rfl (Nat.le_of_ble_eq_true rfl) dX12_setValue_12 (fun k9 σ9 he => ?_) (fun σ14 he H locs cells slots hw => ?_)
      · subst he
        replace hf := gtry_inl.symm.trans hf
        cases hf
        exact (hT _ _ rfl).2.2 _ _ _
      · subst he
        replace hf := gtry_inr.symm.trans hf
        refine lv_aload_n hx hb dX12_setValue_15 rfl (lv_at hl 0 rfl) ?_
        obtain ⟨x16, h17, hf⟩ := ob_some hf
        refine rR_fl_X12_10 hC hw h17 dX12_setValue_16 ?_
        refine lv_iload_n hx hb dX12_setValue_19 rfl (lv_at hl 1 rfl) ?_
        obtain ⟨_, h20, hf⟩ := ob_some hf
        obtain ⟨x18, h19, hf⟩ := ob_some hf
        refine gg_cVR (As := [.int l1]) hC hw (X11_column_M l E D A h19) h20 rfl g_ml_X12_122 hd_X11_column (Nat.le_of_ble_eq_true rfl) (Nat.le_of_ble_eq_true rfl) hl.1 rfl (Nat.le_of_ble_eq_true rfl) dX12_setValue_20 (fun H locs cells slots hw => ?_)
        refine lv_iload_n hx hb dX12_setValue_23 rfl (lv_at hl 2 rfl) ?_
        obtain ⟨_, h23, hf⟩ := ob_some hf
        obtain ⟨x21, h22, hf⟩ := ob_some hf
        refine gg_cVI (As := [.int l2]) hC hw (X1_valueAt_M l E D A h22) h23 rfl g_ml_X12_126 hd_X1_valueAt (Nat.le_of_ble_eq_true rfl) (Nat.le_of_ble_eq_true rfl) hl.1 rfl (Nat.le_of_ble_eq_true rfl) dX12_setValue_24 (fun H locs cells slots hw => ?_)
        refine lv_istore (lv' := [(4, .int x21), (0, .ref l0), (1, .int l1), (2, .int l2), (3, .int l3)]) hx hb dX12_setValue_27 hl (by decide) rfl (fun ls hl => ?_)
        refine lv_aload_n hx hb dX12_setValue_29 rfl (lv_at hl 1 rfl) ?_
        obtain ⟨x24, h25, hf⟩ := ob_some hf
        refine rR_fl_X12_22 hC hw h25 dX12_setValue_30 ?_
        refine lv_aload_n hx hb dX12_setValue_33 rfl (lv_at hl 1 rfl) ?_
        obtain ⟨x26, h27, hf⟩ := ob_some hf
        refine rR_fl_X12_10 hC hw h27 dX12_setValue_34 ?_
        obtain ⟨_, h30, hf⟩ := ob_some hf
        obtain ⟨x28, h29, hf⟩ := ob_some hf
        refine gg_cVV (As := [.ref x26]) hC hw (X5_record_M l E D A h29) h30 rfl g_ml_X12_275 hd_X5_record (Nat.le_of_ble_eq_true rfl) (Nat.le_of_ble_eq_true rfl) hl.1 rfl (Nat.le_of_ble_eq_true rfl) dX12_setValue_37 (fun H locs cells slots hw => ?_)
        refine lv_aload_n hx hb dX12_setValue_40 rfl (lv_at hl 1 rfl) ?_
        obtain ⟨x31, h32, hf⟩ := ob_some hf
        refine rR_fl_X12_10 hC hw h32 dX12_setValue_41 ?_
        refine lv_iload_n hx hb dX12_setValue_44 rfl (lv_at hl 2 rfl) ?_
        obtain ⟨_, h35, hf⟩ := ob_some hf
        obtain ⟨x33, h34, hf⟩ := ob_some hf
        refine gg_cVR (As := [.int l1]) hC hw (X11_column_M l E D A h34) h35 rfl g_ml_X12_122 hd_X11_column (Nat.le_of_ble_eq_true rfl) (Nat.le_of_ble_eq_true rfl) hl.1 rfl (Nat.le_of_ble_eq_true rfl) dX12_setValue_45 (fun H locs cells slots hw => ?_)
        refine lv_iload_n hx hb dX12_setValue_48 rfl (lv_at hl 3 rfl) ?_
        refine lv_iload_n hx hb dX12_setValue_49 rfl (lv_at hl 4 rfl) ?_
        obtain ⟨_, h38, hf⟩ := ob_some hf
        obtain ⟨x36, h37, hf⟩ := ob_some hf
        refine gg_cVV (As := [.int l2, .int l3]) hC hw (X1_put_M l E D A h37) h38 rfl g_ml_X12_286 hd_X1_put (Nat.le_of_ble_eq_true rfl) (Nat.le_of_ble_eq_true rfl) hl.1 rfl (Nat.le_of_ble_eq_true rfl) dX12_setValue_50 (fun H locs cells slots hw => ?_)
        refine lv_iload hx hb dX12_setValue_53 (lv_at hl 0 rfl) ?_
        cases hf
        exact hQ _ _ rfl _ _ _ _ _ _ dX12_setValue_55 rfl hw

def X12_setValue_f (E : gE) (l0 : Nat) (l1 : Int32) (l2 : Int32) (l3 : Int32) (σ : gS) : Option ((Nat ⊕ Int32) × gS) := X12_setValue E l0 l1 l2 l3 σ
set_option maxRecDepth 100000 in
theorem X12_setValue_M (l : Launch) (hst : l.stackTraces = false) (E : gE) (D : va_G) (A : Nat → Prop) {l0 : Nat} {l1 : Int32} {l2 : Int32} {l3 : Int32} {σ : gS} {res : ((Nat ⊕ Int32) × gS)} (hf : X12_setValue_f E l0 l1 l2 l3 σ = some res) : gYI l E D A yX12_setValue (Cond.code yX12_setValue cX12_setValue 5 (some FieldType.int)) 7 165 [.ref l0, .int l1, .int l2, .int l3] σ res := by
  refine gg_entYI (own := RX12) (nm := "setValue") (ty := FieldType.int) hst (Nat.le_of_ble_eq_true rfl) (Nat.le_of_ble_eq_true rfl) (by decide +kernel) rfl rfl (Nat.le_of_ble_eq_true rfl) rfl ?_
  intro p e R s m args below meth c Q ls hC hw hQ hT hl
  have hl : lv_has ls 5 [(0, .ref l0), (1, .int l1), (2, .int l2), (3, .int l3)] := hl
  exact X12_setValue_W hC hQ hT hst hf hw hl

def X12_sort (E : gE) (l0 : Nat) (l1 : Int32) (l2 : Int32) (σ : gS) : Option ((Nat ⊕ Int32) × gS) :=
  ob (gcl σ l0 10) fun _ =>
  ob (X12_checkColumn_f E l0 l1 σ) fun x1 =>
  gtry x1 (fun k9 σ9 => some (Sum.inl k9, σ9)) (fun _ σ4 =>
    ob (gfR σ4 l0 10 3) fun x6 =>
    ob (gfR σ4 l0 10 0) fun x8 =>
    ob (gcl σ4 x6 4) fun _ =>
    ob (X5_record_f E x6 x8 σ4) fun x10 =>
    ob (gcl x10 l0 10) fun _ =>
    ob (X12_sortRows_f E l0 l1 l2 x10) fun x13 =>
    ob (gfR x13 l0 10 8) fun x16 =>
    ob (gfR x13 l0 10 0) fun x18 =>
    ob (gcl x13 x18 9) fun _ =>
    ob (X11_rows_f E x13 x18) fun x20 =>
    ob (gcl x13 x16 8) fun _ =>
    ob (X10_reset_f E x16 x20 x13) fun x23 =>
    ob (gfR x23 l0 10 0) fun x26 =>
    ob (gcl x23 x26 9) fun _ =>
    ob (X11_column_f E x23 x26 l1) fun x28 =>
    ob (gfR x23 l0 10 8) fun x31 =>
    ob (gcl x23 x28 0) fun _ =>
    ob (X1_runsIn_f E x23 x28 x31) fun x33 =>
    some (Sum.inr x33, x23))
set_option maxHeartbeats 4000000 in
set_option maxRecDepth 100000 in
theorem X12_sort_W {σ : gS} {l0 : Nat} {l1 : Int32} {l2 : Int32} {res : ((Nat ⊕ Int32) × gS)} {ls : Array Slot} (hC : gC E D A p R s m args meth c cX12_sort 3 RX12 "sort" 7 167) (hQ : ∀ (r : Int32) (σ1 : gS), res = (.inr r, σ1) → gQI E D A p l e R s m args below meth c Q cX12_sort FieldType.int (r, σ1)) (hT : ∀ (k : Nat) (σ1 : gS), res = (.inl k, σ1) → gTN E D A p l e R s m args below meth c Q cX12_sort 3 RX12 k σ1) (hst : l.stackTraces = false) (hf : X12_sort E l0 l1 l2 σ = some res) (hw : gW E D A s σ H locs) (hl : lv_has ls 3 [(0, .ref l0), (1, .int l1), (2, .int l2)]) : W p l e R s m args below meth c H locs cells slots Q (F0 m 0 ls []) := by
  have hC0 := hC
  obtain ⟨hx, hb, hml, hown, hts, -⟩ := hC0
  unfold X12_sort at hf
  refine lv_aload_n hx hb dX12_sort_0 rfl (lv_at hl 0 rfl) ?_
  refine lv_iload_n hx hb dX12_sort_1 rfl (lv_at hl 1 rfl) ?_
  obtain ⟨_, h3, hf⟩ := ob_some hf
  obtain ⟨x1, h2, hf⟩ := ob_some hf
  refine gg_yVV (As := [.int l1]) hC hw (X12_checkColumn_M l hst E D A h2) h3 rfl g_ml_X12_116 hd_X12_checkColumn (Nat.le_of_ble_eq_true rfl) (Nat.le_of_ble_eq_true rfl) hl.1 rfl (Nat.le_of_ble_eq_true rfl) dX12_sort_2 (fun k9 σ9 he => ?_) (fun σ4 he H locs cells slots hw => ?_)
  · subst he
    replace hf := gtry_inl.symm.trans hf
    cases hf
    exact (hT _ _ rfl).2.2 _ _ _
  · subst he
    replace hf := gtry_inr.symm.trans hf
    refine lv_aload_n hx hb dX12_sort_5 rfl (lv_at hl 0 rfl) ?_
    obtain ⟨x6, h7, hf⟩ := ob_some hf
    refine rR_fl_X12_22 hC hw h7 dX12_sort_6 ?_
    refine lv_aload_n hx hb dX12_sort_9 rfl (lv_at hl 0 rfl) ?_
    obtain ⟨x8, h9, hf⟩ := ob_some hf
    refine rR_fl_X12_10 hC hw h9 dX12_sort_10 ?_
    obtain ⟨_, h12, hf⟩ := ob_some hf
    obtain ⟨x10, h11, hf⟩ := ob_some hf
    refine gg_cVV (As := [.ref x8]) hC hw (X5_record_M l E D A h11) h12 rfl g_ml_X12_275 hd_X5_record (Nat.le_of_ble_eq_true rfl) (Nat.le_of_ble_eq_true rfl) hl.1 rfl (Nat.le_of_ble_eq_true rfl) dX12_sort_13 (fun H locs cells slots hw => ?_)
    refine lv_aload_n hx hb dX12_sort_16 rfl (lv_at hl 0 rfl) ?_
    refine lv_iload_n hx hb dX12_sort_17 rfl (lv_at hl 1 rfl) ?_
    refine lv_iload_n hx hb dX12_sort_18 rfl (lv_at hl 2 rfl) ?_
    obtain ⟨_, h15, hf⟩ := ob_some hf
    obtain ⟨x13, h14, hf⟩ := ob_some hf
    refine gg_cVV (As := [.int l1, .int l2]) hC hw (X12_sortRows_M l E D A h14) h15 rfl g_ml_X12_289 hd_X12_sortRows (Nat.le_of_ble_eq_true rfl) (Nat.le_of_ble_eq_true rfl) hl.1 rfl (Nat.le_of_ble_eq_true rfl) dX12_sort_19 (fun H locs cells slots hw => ?_)
    refine lv_aload_n hx hb dX12_sort_22 rfl (lv_at hl 0 rfl) ?_
    obtain ⟨x16, h17, hf⟩ := ob_some hf
    refine rR_fl_X12_49 hC hw h17 dX12_sort_23 ?_
    refine lv_aload_n hx hb dX12_sort_26 rfl (lv_at hl 0 rfl) ?_
    obtain ⟨x18, h19, hf⟩ := ob_some hf
    refine rR_fl_X12_10 hC hw h19 dX12_sort_27 ?_
    obtain ⟨_, h22, hf⟩ := ob_some hf
    obtain ⟨x20, h21, hf⟩ := ob_some hf
    refine gg_cVI (As := []) hC hw (X11_rows_M l E D A h21) h22 rfl g_ml_X12_108 hd_X11_rows (Nat.le_of_ble_eq_true rfl) (Nat.le_of_ble_eq_true rfl) hl.1 rfl (Nat.le_of_ble_eq_true rfl) dX12_sort_30 (fun H locs cells slots hw => ?_)
    obtain ⟨_, h25, hf⟩ := ob_some hf
    obtain ⟨x23, h24, hf⟩ := ob_some hf
    refine gg_cVV (As := [.int x20]) hC hw (X10_reset_M l E D A h24) h25 rfl g_ml_X12_184 hd_X10_reset (Nat.le_of_ble_eq_true rfl) (Nat.le_of_ble_eq_true rfl) hl.1 rfl (Nat.le_of_ble_eq_true rfl) dX12_sort_33 (fun H locs cells slots hw => ?_)
    refine lv_aload_n hx hb dX12_sort_36 rfl (lv_at hl 0 rfl) ?_
    obtain ⟨x26, h27, hf⟩ := ob_some hf
    refine rR_fl_X12_10 hC hw h27 dX12_sort_37 ?_
    refine lv_iload_n hx hb dX12_sort_40 rfl (lv_at hl 1 rfl) ?_
    obtain ⟨_, h30, hf⟩ := ob_some hf
    obtain ⟨x28, h29, hf⟩ := ob_some hf
    refine gg_cVR (As := [.int l1]) hC hw (X11_column_M l E D A h29) h30 rfl g_ml_X12_122 hd_X11_column (Nat.le_of_ble_eq_true rfl) (Nat.le_of_ble_eq_true rfl) hl.1 rfl (Nat.le_of_ble_eq_true rfl) dX12_sort_41 (fun H locs cells slots hw => ?_)
    refine lv_aload_n hx hb dX12_sort_44 rfl (lv_at hl 0 rfl) ?_
    obtain ⟨x31, h32, hf⟩ := ob_some hf
    refine rR_fl_X12_49 hC hw h32 dX12_sort_45 ?_
    obtain ⟨_, h35, hf⟩ := ob_some hf
    obtain ⟨x33, h34, hf⟩ := ob_some hf
    refine gg_cVI (As := [.ref x31]) hC hw (X1_runsIn_M l E D A h34) h35 rfl g_ml_X12_187 hd_X1_runsIn (Nat.le_of_ble_eq_true rfl) (Nat.le_of_ble_eq_true rfl) hl.1 rfl (Nat.le_of_ble_eq_true rfl) dX12_sort_48 (fun H locs cells slots hw => ?_)
    cases hf
    exact hQ _ _ rfl _ _ _ _ _ _ dX12_sort_51 rfl hw

def X12_sort_f (E : gE) (l0 : Nat) (l1 : Int32) (l2 : Int32) (σ : gS) : Option ((Nat ⊕ Int32) × gS) := X12_sort E l0 l1 l2 σ
set_option maxRecDepth 100000 in
theorem X12_sort_M (l : Launch) (hst : l.stackTraces = false) (E : gE) (D : va_G) (A : Nat → Prop) {l0 : Nat} {l1 : Int32} {l2 : Int32} {σ : gS} {res : ((Nat ⊕ Int32) × gS)} (hf : X12_sort_f E l0 l1 l2 σ = some res) : gYI l E D A yX12_sort (Cond.code yX12_sort cX12_sort 3 (some FieldType.int)) 7 167 [.ref l0, .int l1, .int l2] σ res := by
  refine gg_entYI (own := RX12) (nm := "sort") (ty := FieldType.int) hst (Nat.le_of_ble_eq_true rfl) (Nat.le_of_ble_eq_true rfl) (by decide +kernel) rfl rfl (Nat.le_of_ble_eq_true rfl) rfl ?_
  intro p e R s m args below meth c Q ls hC hw hQ hT hl
  have hl : lv_has ls 3 [(0, .ref l0), (1, .int l1), (2, .int l2)] := hl
  exact X12_sort_W hC hQ hT hst hf hw hl

def X12_removeCondition (E : gE) (l0 : Nat) (l1 : Int32) (σ : gS) : Option ((Nat ⊕ Int32) × gS) :=
  ob (gcl σ l0 10) fun _ =>
  ob (X12_checkCondition_f E l0 l1 σ) fun x1 =>
  gtry x1 (fun k9 σ9 => some (Sum.inl k9, σ9)) (fun _ σ4 =>
    ob (gfR σ4 l0 10 3) fun x6 =>
    ob (gfR σ4 l0 10 0) fun x8 =>
    ob (gcl σ4 x6 4) fun _ =>
    ob (X5_record_f E x6 x8 σ4) fun x10 =>
    ob (gfR x10 l0 10 0) fun x13 =>
    ob (gcl x10 x13 9) fun _ =>
    ob (X11_filter_f E x10 x13) fun x15 =>
    ob (gcl x10 x15 3) fun _ =>
    ob (X4_remove_f E x15 l1 x10) fun x18 =>
    ob (gfR x18 l0 10 0) fun x21 =>
    ob (gcl x18 x21 9) fun _ =>
    ob (X11_selectedRows_f E x18 x21) fun x23 =>
    some (Sum.inr x23, x18))
set_option maxHeartbeats 4000000 in
set_option maxRecDepth 100000 in
theorem X12_removeCondition_W {σ : gS} {l0 : Nat} {l1 : Int32} {res : ((Nat ⊕ Int32) × gS)} {ls : Array Slot} (hC : gC E D A p R s m args meth c cX12_removeCondition 2 RX12 "removeCondition" 7 165) (hQ : ∀ (r : Int32) (σ1 : gS), res = (.inr r, σ1) → gQI E D A p l e R s m args below meth c Q cX12_removeCondition FieldType.int (r, σ1)) (hT : ∀ (k : Nat) (σ1 : gS), res = (.inl k, σ1) → gTN E D A p l e R s m args below meth c Q cX12_removeCondition 2 RX12 k σ1) (hst : l.stackTraces = false) (hf : X12_removeCondition E l0 l1 σ = some res) (hw : gW E D A s σ H locs) (hl : lv_has ls 2 [(0, .ref l0), (1, .int l1)]) : W p l e R s m args below meth c H locs cells slots Q (F0 m 0 ls []) := by
  have hC0 := hC
  obtain ⟨hx, hb, hml, hown, hts, -⟩ := hC0
  unfold X12_removeCondition at hf
  refine lv_aload_n hx hb dX12_removeCondition_0 rfl (lv_at hl 0 rfl) ?_
  refine lv_iload_n hx hb dX12_removeCondition_1 rfl (lv_at hl 1 rfl) ?_
  obtain ⟨_, h3, hf⟩ := ob_some hf
  obtain ⟨x1, h2, hf⟩ := ob_some hf
  refine gg_yVV (As := [.int l1]) hC hw (X12_checkCondition_M l hst E D A h2) h3 rfl g_ml_X12_205 hd_X12_checkCondition (Nat.le_of_ble_eq_true rfl) (Nat.le_of_ble_eq_true rfl) hl.1 rfl (Nat.le_of_ble_eq_true rfl) dX12_removeCondition_2 (fun k9 σ9 he => ?_) (fun σ4 he H locs cells slots hw => ?_)
  · subst he
    replace hf := gtry_inl.symm.trans hf
    cases hf
    exact (hT _ _ rfl).2.2 _ _ _
  · subst he
    replace hf := gtry_inr.symm.trans hf
    refine lv_aload_n hx hb dX12_removeCondition_5 rfl (lv_at hl 0 rfl) ?_
    obtain ⟨x6, h7, hf⟩ := ob_some hf
    refine rR_fl_X12_22 hC hw h7 dX12_removeCondition_6 ?_
    refine lv_aload_n hx hb dX12_removeCondition_9 rfl (lv_at hl 0 rfl) ?_
    obtain ⟨x8, h9, hf⟩ := ob_some hf
    refine rR_fl_X12_10 hC hw h9 dX12_removeCondition_10 ?_
    obtain ⟨_, h12, hf⟩ := ob_some hf
    obtain ⟨x10, h11, hf⟩ := ob_some hf
    refine gg_cVV (As := [.ref x8]) hC hw (X5_record_M l E D A h11) h12 rfl g_ml_X12_275 hd_X5_record (Nat.le_of_ble_eq_true rfl) (Nat.le_of_ble_eq_true rfl) hl.1 rfl (Nat.le_of_ble_eq_true rfl) dX12_removeCondition_13 (fun H locs cells slots hw => ?_)
    refine lv_aload_n hx hb dX12_removeCondition_16 rfl (lv_at hl 0 rfl) ?_
    obtain ⟨x13, h14, hf⟩ := ob_some hf
    refine rR_fl_X12_10 hC hw h14 dX12_removeCondition_17 ?_
    obtain ⟨_, h17, hf⟩ := ob_some hf
    obtain ⟨x15, h16, hf⟩ := ob_some hf
    refine gg_cVR (As := []) hC hw (X11_filter_M l E D A h16) h17 rfl g_ml_X12_198 hd_X11_filter (Nat.le_of_ble_eq_true rfl) (Nat.le_of_ble_eq_true rfl) hl.1 rfl (Nat.le_of_ble_eq_true rfl) dX12_removeCondition_20 (fun H locs cells slots hw => ?_)
    refine lv_iload_n hx hb dX12_removeCondition_23 rfl (lv_at hl 1 rfl) ?_
    obtain ⟨_, h20, hf⟩ := ob_some hf
    obtain ⟨x18, h19, hf⟩ := ob_some hf
    refine gg_cVV (As := [.int l1]) hC hw (X4_remove_M l E D A h19) h20 rfl g_ml_X12_297 hd_X4_remove (Nat.le_of_ble_eq_true rfl) (Nat.le_of_ble_eq_true rfl) hl.1 rfl (Nat.le_of_ble_eq_true rfl) dX12_removeCondition_24 (fun H locs cells slots hw => ?_)
    refine lv_aload_n hx hb dX12_removeCondition_27 rfl (lv_at hl 0 rfl) ?_
    obtain ⟨x21, h22, hf⟩ := ob_some hf
    refine rR_fl_X12_10 hC hw h22 dX12_removeCondition_28 ?_
    obtain ⟨_, h25, hf⟩ := ob_some hf
    obtain ⟨x23, h24, hf⟩ := ob_some hf
    refine gg_cVI (As := []) hC hw (X11_selectedRows_M l E D A h24) h25 rfl g_ml_X12_229 hd_X11_selectedRows (Nat.le_of_ble_eq_true rfl) (Nat.le_of_ble_eq_true rfl) hl.1 rfl (Nat.le_of_ble_eq_true rfl) dX12_removeCondition_31 (fun H locs cells slots hw => ?_)
    cases hf
    exact hQ _ _ rfl _ _ _ _ _ _ dX12_removeCondition_34 rfl hw

def X12_removeCondition_f (E : gE) (l0 : Nat) (l1 : Int32) (σ : gS) : Option ((Nat ⊕ Int32) × gS) := X12_removeCondition E l0 l1 σ
set_option maxRecDepth 100000 in
theorem X12_removeCondition_M (l : Launch) (hst : l.stackTraces = false) (E : gE) (D : va_G) (A : Nat → Prop) {l0 : Nat} {l1 : Int32} {σ : gS} {res : ((Nat ⊕ Int32) × gS)} (hf : X12_removeCondition_f E l0 l1 σ = some res) : gYI l E D A yX12_removeCondition (Cond.code yX12_removeCondition cX12_removeCondition 2 (some FieldType.int)) 7 165 [.ref l0, .int l1] σ res := by
  refine gg_entYI (own := RX12) (nm := "removeCondition") (ty := FieldType.int) hst (Nat.le_of_ble_eq_true rfl) (Nat.le_of_ble_eq_true rfl) (by decide +kernel) rfl rfl (Nat.le_of_ble_eq_true rfl) rfl ?_
  intro p e R s m args below meth c Q ls hC hw hQ hT hl
  have hl : lv_has ls 2 [(0, .ref l0), (1, .int l1)] := hl
  exact X12_removeCondition_W hC hQ hT hst hf hw hl

def X12_deleteSelected (E : gE) (l0 : Nat) (σ : gS) : Option (Int32 × gS) :=
  ob (gfR σ l0 10 3) fun x1 =>
  ob (gfR σ l0 10 0) fun x3 =>
  ob (gcl σ x1 4) fun _ =>
  ob (X5_record_f E x1 x3 σ) fun x5 =>
  ob (gfR x5 l0 10 0) fun x8 =>
  ob (gcl x5 x8 9) fun _ =>
  ob (X11_deleteSelectedRows_f E x8 x5) fun x10 =>
  some (x10.1, x10.2)
set_option maxHeartbeats 4000000 in
set_option maxRecDepth 100000 in
theorem X12_deleteSelected_W {σ : gS} {l0 : Nat} {res : (Int32 × gS)} {ls : Array Slot} (hC : gC E D A p R s m args meth c cX12_deleteSelected 1 RX12 "deleteSelected" 7 165) (hQ : gQI E D A p l e R s m args below meth c Q cX12_deleteSelected FieldType.int res) (hf : X12_deleteSelected E l0 σ = some res) (hw : gW E D A s σ H locs) (hl : lv_has ls 1 [(0, .ref l0)]) : W p l e R s m args below meth c H locs cells slots Q (F0 m 0 ls []) := by
  have hC0 := hC
  obtain ⟨hx, hb, hml, hown, hts, -⟩ := hC0
  unfold X12_deleteSelected at hf
  refine lv_aload_n hx hb dX12_deleteSelected_0 rfl (lv_at hl 0 rfl) ?_
  obtain ⟨x1, h2, hf⟩ := ob_some hf
  refine rR_fl_X12_22 hC hw h2 dX12_deleteSelected_1 ?_
  refine lv_aload_n hx hb dX12_deleteSelected_4 rfl (lv_at hl 0 rfl) ?_
  obtain ⟨x3, h4, hf⟩ := ob_some hf
  refine rR_fl_X12_10 hC hw h4 dX12_deleteSelected_5 ?_
  obtain ⟨_, h7, hf⟩ := ob_some hf
  obtain ⟨x5, h6, hf⟩ := ob_some hf
  refine gg_cVV (As := [.ref x3]) hC hw (X5_record_M l E D A h6) h7 rfl g_ml_X12_275 hd_X5_record (Nat.le_of_ble_eq_true rfl) (Nat.le_of_ble_eq_true rfl) hl.1 rfl (Nat.le_of_ble_eq_true rfl) dX12_deleteSelected_8 (fun H locs cells slots hw => ?_)
  refine lv_aload_n hx hb dX12_deleteSelected_11 rfl (lv_at hl 0 rfl) ?_
  obtain ⟨x8, h9, hf⟩ := ob_some hf
  refine rR_fl_X12_10 hC hw h9 dX12_deleteSelected_12 ?_
  obtain ⟨_, h12, hf⟩ := ob_some hf
  obtain ⟨x10, h11, hf⟩ := ob_some hf
  refine gg_cVI (As := []) hC hw (X11_deleteSelectedRows_M l E D A h11) h12 rfl g_ml_X12_300 hd_X11_deleteSelectedRows (Nat.le_of_ble_eq_true rfl) (Nat.le_of_ble_eq_true rfl) hl.1 rfl (Nat.le_of_ble_eq_true rfl) dX12_deleteSelected_15 (fun H locs cells slots hw => ?_)
  cases hf
  exact hQ _ _ _ _ _ _ dX12_deleteSelected_18 rfl hw

def X12_deleteSelected_f (E : gE) (l0 : Nat) (σ : gS) : Option (Int32 × gS) := X12_deleteSelected E l0 σ
set_option maxRecDepth 100000 in
theorem X12_deleteSelected_M (l : Launch) (E : gE) (D : va_G) (A : Nat → Prop) {l0 : Nat} {σ : gS} {res : (Int32 × gS)} (hf : X12_deleteSelected_f E l0 σ = some res) : gCI l E D A yX12_deleteSelected cX12_deleteSelected 1 7 165 (some FieldType.int) [.ref l0] σ res := by
  refine gg_entI (own := RX12) (nm := "deleteSelected") (ty := FieldType.int) (by decide +kernel) rfl rfl (Nat.le_of_ble_eq_true rfl) rfl ?_
  intro p e R s m args below meth c Q ls hC hw hQ hl
  have hl : lv_has ls 1 [(0, .ref l0)] := hl
  exact X12_deleteSelected_W hC hQ hf hw hl

def X12_compact (E : gE) (l0 : Nat) (l1 : Int32) (σ : gS) : Option ((Nat ⊕ Int32) × gS) :=
  ob (gcl σ l0 10) fun _ =>
  ob (X12_checkColumn_f E l0 l1 σ) fun x1 =>
  gtry x1 (fun k9 σ9 => some (Sum.inl k9, σ9)) (fun _ σ4 =>
    ob (gfR σ4 l0 10 3) fun x6 =>
    ob (gfR σ4 l0 10 0) fun x8 =>
    ob (gcl σ4 x6 4) fun _ =>
    ob (X5_record_f E x6 x8 σ4) fun x10 =>
    ob (gfR x10 l0 10 0) fun x13 =>
    ob (gcl x10 x13 9) fun _ =>
    ob (X11_dictionary_f E x10 x13 l1) fun x15 =>
    ob (gcl x10 x15 2) fun _ =>
    ob (X3_size_f E x10 x15) fun x18 =>
    ob (gfR x10 l0 10 0) fun x21 =>
    ob (gcl x10 x21 9) fun _ =>
    ob (X11_column_f E x10 x21 l1) fun x23 =>
    ob (gcl x10 x23 0) fun _ =>
    ob (X1_dropStale_f E x23 x10) fun x26 =>
    ob (gfR x26 l0 10 0) fun x29 =>
    ob (gcl x26 x29 9) fun _ =>
    ob (X11_dictionary_f E x26 x29 l1) fun x31 =>
    ob (gcl x26 x31 2) fun _ =>
    ob (X3_size_f E x26 x31) fun x34 =>
    some (Sum.inr (x18 - x34), x26))
set_option maxHeartbeats 4000000 in
set_option maxRecDepth 100000 in
theorem X12_compact_W {σ : gS} {l0 : Nat} {l1 : Int32} {res : ((Nat ⊕ Int32) × gS)} {ls : Array Slot} (hC : gC E D A p R s m args meth c cX12_compact 3 RX12 "compact" 7 166) (hQ : ∀ (r : Int32) (σ1 : gS), res = (.inr r, σ1) → gQI E D A p l e R s m args below meth c Q cX12_compact FieldType.int (r, σ1)) (hT : ∀ (k : Nat) (σ1 : gS), res = (.inl k, σ1) → gTN E D A p l e R s m args below meth c Q cX12_compact 3 RX12 k σ1) (hst : l.stackTraces = false) (hf : X12_compact E l0 l1 σ = some res) (hw : gW E D A s σ H locs) (hl : lv_has ls 3 [(0, .ref l0), (1, .int l1)]) : W p l e R s m args below meth c H locs cells slots Q (F0 m 0 ls []) := by
  have hC0 := hC
  obtain ⟨hx, hb, hml, hown, hts, -⟩ := hC0
  unfold X12_compact at hf
  refine lv_aload_n hx hb dX12_compact_0 rfl (lv_at hl 0 rfl) ?_
  refine lv_iload_n hx hb dX12_compact_1 rfl (lv_at hl 1 rfl) ?_
  obtain ⟨_, h3, hf⟩ := ob_some hf
  obtain ⟨x1, h2, hf⟩ := ob_some hf
  refine gg_yVV (As := [.int l1]) hC hw (X12_checkColumn_M l hst E D A h2) h3 rfl g_ml_X12_116 hd_X12_checkColumn (Nat.le_of_ble_eq_true rfl) (Nat.le_of_ble_eq_true rfl) hl.1 rfl (Nat.le_of_ble_eq_true rfl) dX12_compact_2 (fun k9 σ9 he => ?_) (fun σ4 he H locs cells slots hw => ?_)
  · subst he
    replace hf := gtry_inl.symm.trans hf
    cases hf
    exact (hT _ _ rfl).2.2 _ _ _
  · subst he
    replace hf := gtry_inr.symm.trans hf
    refine lv_aload_n hx hb dX12_compact_5 rfl (lv_at hl 0 rfl) ?_
    obtain ⟨x6, h7, hf⟩ := ob_some hf
    refine rR_fl_X12_22 hC hw h7 dX12_compact_6 ?_
    refine lv_aload_n hx hb dX12_compact_9 rfl (lv_at hl 0 rfl) ?_
    obtain ⟨x8, h9, hf⟩ := ob_some hf
    refine rR_fl_X12_10 hC hw h9 dX12_compact_10 ?_
    obtain ⟨_, h12, hf⟩ := ob_some hf
    obtain ⟨x10, h11, hf⟩ := ob_some hf
    refine gg_cVV (As := [.ref x8]) hC hw (X5_record_M l E D A h11) h12 rfl g_ml_X12_275 hd_X5_record (Nat.le_of_ble_eq_true rfl) (Nat.le_of_ble_eq_true rfl) hl.1 rfl (Nat.le_of_ble_eq_true rfl) dX12_compact_13 (fun H locs cells slots hw => ?_)
    refine lv_aload_n hx hb dX12_compact_16 rfl (lv_at hl 0 rfl) ?_
    obtain ⟨x13, h14, hf⟩ := ob_some hf
    refine rR_fl_X12_10 hC hw h14 dX12_compact_17 ?_
    refine lv_iload_n hx hb dX12_compact_20 rfl (lv_at hl 1 rfl) ?_
    obtain ⟨_, h17, hf⟩ := ob_some hf
    obtain ⟨x15, h16, hf⟩ := ob_some hf
    refine gg_cVR (As := [.int l1]) hC hw (X11_dictionary_M l E D A h16) h17 rfl g_ml_X12_135 hd_X11_dictionary (Nat.le_of_ble_eq_true rfl) (Nat.le_of_ble_eq_true rfl) hl.1 rfl (Nat.le_of_ble_eq_true rfl) dX12_compact_21 (fun H locs cells slots hw => ?_)
    obtain ⟨_, h20, hf⟩ := ob_some hf
    obtain ⟨x18, h19, hf⟩ := ob_some hf
    refine gg_cVI (As := []) hC hw (X3_size_M l E D A h19) h20 rfl g_ml_X12_139 hd_X3_size (Nat.le_of_ble_eq_true rfl) (Nat.le_of_ble_eq_true rfl) hl.1 rfl (Nat.le_of_ble_eq_true rfl) dX12_compact_24 (fun H locs cells slots hw => ?_)
    refine lv_istore_n (lv' := [(2, .int x18), (0, .ref l0), (1, .int l1)]) hx hb dX12_compact_27 rfl hl (by decide) rfl (fun ls hl => ?_)
    refine lv_aload_n hx hb dX12_compact_28 rfl (lv_at hl 1 rfl) ?_
    obtain ⟨x21, h22, hf⟩ := ob_some hf
    refine rR_fl_X12_10 hC hw h22 dX12_compact_29 ?_
    refine lv_iload_n hx hb dX12_compact_32 rfl (lv_at hl 2 rfl) ?_
    obtain ⟨_, h25, hf⟩ := ob_some hf
    obtain ⟨x23, h24, hf⟩ := ob_some hf
    refine gg_cVR (As := [.int l1]) hC hw (X11_column_M l E D A h24) h25 rfl g_ml_X12_122 hd_X11_column (Nat.le_of_ble_eq_true rfl) (Nat.le_of_ble_eq_true rfl) hl.1 rfl (Nat.le_of_ble_eq_true rfl) dX12_compact_33 (fun H locs cells slots hw => ?_)
    obtain ⟨_, h28, hf⟩ := ob_some hf
    obtain ⟨x26, h27, hf⟩ := ob_some hf
    refine gg_cVV (As := []) hC hw (X1_dropStale_M l E D A h27) h28 rfl g_ml_X12_303 hd_X1_dropStale (Nat.le_of_ble_eq_true rfl) (Nat.le_of_ble_eq_true rfl) hl.1 rfl (Nat.le_of_ble_eq_true rfl) dX12_compact_36 (fun H locs cells slots hw => ?_)
    refine lv_iload_n hx hb dX12_compact_39 rfl (lv_at hl 0 rfl) ?_
    refine lv_aload_n hx hb dX12_compact_40 rfl (lv_at hl 1 rfl) ?_
    obtain ⟨x29, h30, hf⟩ := ob_some hf
    refine rR_fl_X12_10 hC hw h30 dX12_compact_41 ?_
    refine lv_iload_n hx hb dX12_compact_44 rfl (lv_at hl 2 rfl) ?_
    obtain ⟨_, h33, hf⟩ := ob_some hf
    obtain ⟨x31, h32, hf⟩ := ob_some hf
    refine gg_cVR (As := [.int l1]) hC hw (X11_dictionary_M l E D A h32) h33 rfl g_ml_X12_135 hd_X11_dictionary (Nat.le_of_ble_eq_true rfl) (Nat.le_of_ble_eq_true rfl) hl.1 rfl (Nat.le_of_ble_eq_true rfl) dX12_compact_45 (fun H locs cells slots hw => ?_)
    obtain ⟨_, h36, hf⟩ := ob_some hf
    obtain ⟨x34, h35, hf⟩ := ob_some hf
    refine gg_cVI (As := []) hC hw (X3_size_M l E D A h35) h36 rfl g_ml_X12_139 hd_X3_size (Nat.le_of_ble_eq_true rfl) (Nat.le_of_ble_eq_true rfl) hl.1 rfl (Nat.le_of_ble_eq_true rfl) dX12_compact_48 (fun H locs cells slots hw => ?_)
    refine lv_isub hx hb dX12_compact_51 ?_
    cases hf
    exact hQ _ _ rfl _ _ _ _ _ _ dX12_compact_52 rfl hw

def X12_compact_f (E : gE) (l0 : Nat) (l1 : Int32) (σ : gS) : Option ((Nat ⊕ Int32) × gS) := X12_compact E l0 l1 σ
set_option maxRecDepth 100000 in
theorem X12_compact_M (l : Launch) (hst : l.stackTraces = false) (E : gE) (D : va_G) (A : Nat → Prop) {l0 : Nat} {l1 : Int32} {σ : gS} {res : ((Nat ⊕ Int32) × gS)} (hf : X12_compact_f E l0 l1 σ = some res) : gYI l E D A yX12_compact (Cond.code yX12_compact cX12_compact 3 (some FieldType.int)) 7 166 [.ref l0, .int l1] σ res := by
  refine gg_entYI (own := RX12) (nm := "compact") (ty := FieldType.int) hst (Nat.le_of_ble_eq_true rfl) (Nat.le_of_ble_eq_true rfl) (by decide +kernel) rfl rfl (Nat.le_of_ble_eq_true rfl) rfl ?_
  intro p e R s m args below meth c Q ls hC hw hQ hT hl
  have hl : lv_has ls 3 [(0, .ref l0), (1, .int l1)] := hl
  exact X12_compact_W hC hQ hT hst hf hw hl

def X12_undo (E : gE) (l0 : Nat) (σ : gS) : Option ((Nat ⊕ Int32) × gS) :=
  ob (gfR σ l0 10 3) fun x1 =>
  ob (gcl σ x1 4) fun _ =>
  ob (X5_size_f E σ x1) fun x3 =>
  if x3 = 0 then
    ob (gthr E σ) fun σ18 =>
    some (Sum.inl 2, σ18)
  else
    ob (gfR σ l0 10 3) fun x6 =>
    ob (gfR σ l0 10 0) fun x8 =>
    ob (gcl σ x6 4) fun _ =>
    ob (X5_takeBack_f E x6 x8 σ) fun x10 =>
    ob (gfR x10 l0 10 3) fun x13 =>
    ob (gcl x10 x13 4) fun _ =>
    ob (X5_size_f E x10 x13) fun x15 =>
    some (Sum.inr x15, x10)
set_option maxHeartbeats 4000000 in
set_option maxRecDepth 100000 in
theorem X12_undo_W {σ : gS} {l0 : Nat} {res : ((Nat ⊕ Int32) × gS)} {ls : Array Slot} (hC : gC E D A p R s m args meth c cX12_undo 1 RX12 "undo" 7 165) (hQ : ∀ (r : Int32) (σ1 : gS), res = (.inr r, σ1) → gQI E D A p l e R s m args below meth c Q cX12_undo FieldType.int (r, σ1)) (hT : ∀ (k : Nat) (σ1 : gS), res = (.inl k, σ1) → gTN E D A p l e R s m args below meth c Q cX12_undo 1 RX12 k σ1) (hst : l.stackTraces = false) (hf : X12_undo E l0 σ = some res) (hw : gW E D A s σ H locs) (hl : lv_has ls 1 [(0, .ref l0)]) : W p l e R s m args below meth c H locs cells slots Q (F0 m 0 ls []) := by
  have hC0 := hC
  obtain ⟨hx, hb, hml, hown, hts, -⟩ := hC0
  unfold X12_undo at hf
  refine lv_aload_n hx hb dX12_undo_0 rfl (lv_at hl 0 rfl) ?_
  obtain ⟨x1, h2, hf⟩ := ob_some hf
  refine rR_fl_X12_22 hC hw h2 dX12_undo_1 ?_
  obtain ⟨_, h5, hf⟩ := ob_some hf
  obtain ⟨x3, h4, hf⟩ := ob_some hf
  refine gg_cVI (As := []) hC hw (X5_size_M l E D A h4) h5 rfl g_ml_X12_336 hd_X5_size (Nat.le_of_ble_eq_true rfl) (Nat.le_of_ble_eq_true rfl) hl.1 rfl (Nat.le_of_ble_eq_true rfl) dX12_undo_4 (fun H locs cells slots hw => ?_)
  refine lv_if_ne (tgt := 21) hx hb dX12_undo_7 (by decide) (fun c20 => ?_) (fun c20 => ?_)
  · replace hf := (if_neg c20).symm.trans hf
    refine lv_aload_n hx hb dX12_undo_21 rfl (lv_at hl 0 rfl) ?_
    obtain ⟨x6, h7, hf⟩ := ob_some hf
    refine rR_fl_X12_22 hC hw h7 dX12_undo_22 ?_
    refine lv_aload_n hx hb dX12_undo_25 rfl (lv_at hl 0 rfl) ?_
    obtain ⟨x8, h9, hf⟩ := ob_some hf
    refine rR_fl_X12_10 hC hw h9 dX12_undo_26 ?_
    obtain ⟨_, h12, hf⟩ := ob_some hf
    obtain ⟨x10, h11, hf⟩ := ob_some hf
    refine gg_cVV (As := [.ref x8]) hC hw (X5_takeBack_M l E D A h11) h12 rfl g_ml_X12_339 hd_X5_takeBack (Nat.le_of_ble_eq_true rfl) (Nat.le_of_ble_eq_true rfl) hl.1 rfl (Nat.le_of_ble_eq_true rfl) dX12_undo_29 (fun H locs cells slots hw => ?_)
    refine lv_aload_n hx hb dX12_undo_32 rfl (lv_at hl 0 rfl) ?_
    obtain ⟨x13, h14, hf⟩ := ob_some hf
    refine rR_fl_X12_22 hC hw h14 dX12_undo_33 ?_
    obtain ⟨_, h17, hf⟩ := ob_some hf
    obtain ⟨x15, h16, hf⟩ := ob_some hf
    refine gg_cVI (As := []) hC hw (X5_size_M l E D A h16) h17 rfl g_ml_X12_336 hd_X5_size (Nat.le_of_ble_eq_true rfl) (Nat.le_of_ble_eq_true rfl) hl.1 rfl (Nat.le_of_ble_eq_true rfl) dX12_undo_36 (fun H locs cells slots hw => ?_)
    cases hf
    exact hQ _ _ rfl _ _ _ _ _ _ dX12_undo_39 rfl hw
  · replace hf := (if_pos c20).symm.trans hf
    obtain ⟨σ18, h19, hf⟩ := ob_some hf
    cases hf
    exact (hT _ _ rfl).2.1 _ _ _ _ 14 _ _ _ _ _ _ _ h19 hw hl.1 tw_2 rfl rfl rfl dX12_undo_10 dX12_undo_13 dX12_undo_14 dX12_undo_17 dX12_undo_20

def X12_undo_f (E : gE) (l0 : Nat) (σ : gS) : Option ((Nat ⊕ Int32) × gS) := X12_undo E l0 σ
set_option maxRecDepth 100000 in
theorem X12_undo_M (l : Launch) (hst : l.stackTraces = false) (E : gE) (D : va_G) (A : Nat → Prop) {l0 : Nat} {σ : gS} {res : ((Nat ⊕ Int32) × gS)} (hf : X12_undo_f E l0 σ = some res) : gYI l E D A yX12_undo (Cond.code yX12_undo cX12_undo 1 (some FieldType.int)) 7 165 [.ref l0] σ res := by
  refine gg_entYI (own := RX12) (nm := "undo") (ty := FieldType.int) hst (Nat.le_of_ble_eq_true rfl) (Nat.le_of_ble_eq_true rfl) (by decide +kernel) rfl rfl (Nat.le_of_ble_eq_true rfl) rfl ?_
  intro p e R s m args below meth c Q ls hC hw hQ hT hl
  have hl : lv_has ls 1 [(0, .ref l0)] := hl
  exact X12_undo_W hC hQ hT hst hf hw hl

def X12_addCondition (E : gE) (l0 : Nat) (l1 : Int32) (l2 : Int32) (l3 : Int32) (σ : gS) : Option ((Nat ⊕ Int32) × gS) :=
  ob (gcl σ l0 10) fun _ =>
  ob (X12_checkColumn_f E l0 l1 σ) fun x1 =>
  gtry x1 (fun k9 σ9 => some (Sum.inl k9, σ9)) (fun _ σ4 =>
    ob (gcl σ4 l0 10) fun _ =>
    ob (X12_checkValue_f E l0 l2 σ4) fun x6 =>
    gtry x6 (fun k9 σ9 => some (Sum.inl k9, σ9)) (fun _ σ9 =>
      ob (gfR σ9 l0 10 0) fun x11 =>
      ob (gcl σ9 x11 9) fun _ =>
      ob (X11_filter_f E σ9 x11) fun x13 =>
      ob (gcl σ9 x13 3) fun _ =>
      ob (X4_isFull_f E σ9 x13) fun x16 =>
      if x16 = 0 then
        ob (gfR σ9 l0 10 3) fun x19 =>
        ob (gfR σ9 l0 10 0) fun x21 =>
        ob (gcl σ9 x19 4) fun _ =>
        ob (X5_record_f E x19 x21 σ9) fun x23 =>
        ob (gfR x23 l0 10 0) fun x26 =>
        ob (gcl x23 x26 9) fun _ =>
        ob (X11_filter_f E x23 x26) fun x28 =>
        ob (gcl x23 x28 3) fun _ =>
        ob (X4_add_f E x28 l1 l2 l3 x23) fun x31 =>
        ob (gfR x31 l0 10 0) fun x34 =>
        ob (gcl x31 x34 9) fun _ =>
        ob (X11_selectedRows_f E x31 x34) fun x36 =>
        some (Sum.inr x36, x31)
      else
        ob (gthr E σ9) fun σ39 =>
        some (Sum.inl 2, σ39)))
set_option maxHeartbeats 4000000 in
set_option maxRecDepth 100000 in
theorem X12_addCondition_W {σ : gS} {l0 : Nat} {l1 : Int32} {l2 : Int32} {l3 : Int32} {res : ((Nat ⊕ Int32) × gS)} {ls : Array Slot} (hC : gC E D A p R s m args meth c cX12_addCondition 4 RX12 "addCondition" 7 165) (hQ : ∀ (r : Int32) (σ1 : gS), res = (.inr r, σ1) → gQI E D A p l e R s m args below meth c Q cX12_addCondition FieldType.int (r, σ1)) (hT : ∀ (k : Nat) (σ1 : gS), res = (.inl k, σ1) → gTN E D A p l e R s m args below meth c Q cX12_addCondition 4 RX12 k σ1) (hst : l.stackTraces = false) (hf : X12_addCondition E l0 l1 l2 l3 σ = some res) (hw : gW E D A s σ H locs) (hl : lv_has ls 4 [(0, .ref l0), (1, .int l1), (2, .int l2), (3, .int l3)]) : W p l e R s m args below meth c H locs cells slots Q (F0 m 0 ls []) := by
  have hC0 := hC
  obtain ⟨hx, hb, hml, hown, hts, -⟩ := hC0
  unfold X12_addCondition at hf
  refine lv_aload_n hx hb dX12_addCondition_0 rfl (lv_at hl 0 rfl) ?_
  refine lv_iload_n hx hb dX12_addCondition_1 rfl (lv_at hl 1 rfl) ?_
  obtain ⟨_, h3, hf⟩ := ob_some hf
  obtain ⟨x1, h2, hf⟩ := ob_some hf
  refine gg_yVV (As := [.int l1]) hC hw (X12_checkColumn_M l hst E D A h2) h3 rfl g_ml_X12_116 hd_X12_checkColumn (Nat.le_of_ble_eq_true rfl) (Nat.le_of_ble_eq_true rfl) hl.1 rfl (Nat.le_of_ble_eq_true rfl) dX12_addCondition_2 (fun k9 σ9 he => ?_) (fun σ4 he H locs cells slots hw => ?_)
  · subst he
    replace hf := gtry_inl.symm.trans hf
    cases hf
    exact (hT _ _ rfl).2.2 _ _ _
  · subst he
    replace hf := gtry_inr.symm.trans hf
    refine lv_aload_n hx hb dX12_addCondition_5 rfl (lv_at hl 0 rfl) ?_
    refine lv_iload_n hx hb dX12_addCondition_6 rfl (lv_at hl 2 rfl) ?_
    obtain ⟨_, h8, hf⟩ := ob_some hf
    obtain ⟨x6, h7, hf⟩ := ob_some hf
    refine gg_yVV (As := [.int l2]) hC hw (X12_checkValue_M l hst E D A h7) h8 rfl g_ml_X12_244 hd_X12_checkValue (Nat.le_of_ble_eq_true rfl) (Nat.le_of_ble_eq_true rfl) hl.1 rfl (Nat.le_of_ble_eq_true rfl) dX12_addCondition_7 (fun k9 σ9 he => ?_) (fun σ9 he H locs cells slots hw => ?_)
    · subst he
      replace hf := gtry_inl.symm.trans hf
      cases hf
      exact (hT _ _ rfl).2.2 _ _ _
    · subst he
      replace hf := gtry_inr.symm.trans hf
      refine lv_aload_n hx hb dX12_addCondition_10 rfl (lv_at hl 0 rfl) ?_
      obtain ⟨x11, h12, hf⟩ := ob_some hf
      refine rR_fl_X12_10 hC hw h12 dX12_addCondition_11 ?_
      obtain ⟨_, h15, hf⟩ := ob_some hf
      obtain ⟨x13, h14, hf⟩ := ob_some hf
      refine gg_cVR (As := []) hC hw (X11_filter_M l E D A h14) h15 rfl g_ml_X12_198 hd_X11_filter (Nat.le_of_ble_eq_true rfl) (Nat.le_of_ble_eq_true rfl) hl.1 rfl (Nat.le_of_ble_eq_true rfl) dX12_addCondition_14 (fun H locs cells slots hw => ?_)
      obtain ⟨_, h18, hf⟩ := ob_some hf
      obtain ⟨x16, h17, hf⟩ := ob_some hf
      refine gg_cVI (As := []) hC hw (X4_isFull_M l E D A h17) h18 rfl g_ml_X12_387 hd_X4_isFull (Nat.le_of_ble_eq_true rfl) (Nat.le_of_ble_eq_true rfl) hl.1 rfl (Nat.le_of_ble_eq_true rfl) dX12_addCondition_17 (fun H locs cells slots hw => ?_)
      refine lv_if_eq (tgt := 34) hx hb dX12_addCondition_20 (by decide) (fun c41 => ?_) (fun c41 => ?_)
      · replace hf := (if_pos c41).symm.trans hf
        refine lv_aload_n hx hb dX12_addCondition_34 rfl (lv_at hl 0 rfl) ?_
        obtain ⟨x19, h20, hf⟩ := ob_some hf
        refine rR_fl_X12_22 hC hw h20 dX12_addCondition_35 ?_
        refine lv_aload_n hx hb dX12_addCondition_38 rfl (lv_at hl 0 rfl) ?_
        obtain ⟨x21, h22, hf⟩ := ob_some hf
        refine rR_fl_X12_10 hC hw h22 dX12_addCondition_39 ?_
        obtain ⟨_, h25, hf⟩ := ob_some hf
        obtain ⟨x23, h24, hf⟩ := ob_some hf
        refine gg_cVV (As := [.ref x21]) hC hw (X5_record_M l E D A h24) h25 rfl g_ml_X12_275 hd_X5_record (Nat.le_of_ble_eq_true rfl) (Nat.le_of_ble_eq_true rfl) hl.1 rfl (Nat.le_of_ble_eq_true rfl) dX12_addCondition_42 (fun H locs cells slots hw => ?_)
        refine lv_aload_n hx hb dX12_addCondition_45 rfl (lv_at hl 0 rfl) ?_
        obtain ⟨x26, h27, hf⟩ := ob_some hf
        refine rR_fl_X12_10 hC hw h27 dX12_addCondition_46 ?_
        obtain ⟨_, h30, hf⟩ := ob_some hf
        obtain ⟨x28, h29, hf⟩ := ob_some hf
        refine gg_cVR (As := []) hC hw (X11_filter_M l E D A h29) h30 rfl g_ml_X12_198 hd_X11_filter (Nat.le_of_ble_eq_true rfl) (Nat.le_of_ble_eq_true rfl) hl.1 rfl (Nat.le_of_ble_eq_true rfl) dX12_addCondition_49 (fun H locs cells slots hw => ?_)
        refine lv_iload_n hx hb dX12_addCondition_52 rfl (lv_at hl 1 rfl) ?_
        refine lv_iload_n hx hb dX12_addCondition_53 rfl (lv_at hl 2 rfl) ?_
        refine lv_iload_n hx hb dX12_addCondition_54 rfl (lv_at hl 3 rfl) ?_
        obtain ⟨_, h33, hf⟩ := ob_some hf
        obtain ⟨x31, h32, hf⟩ := ob_some hf
        refine gg_cVV (As := [.int l1, .int l2, .int l3]) hC hw (X4_add_M l E D A h32) h33 rfl g_ml_X12_390 hd_X4_add (Nat.le_of_ble_eq_true rfl) (Nat.le_of_ble_eq_true rfl) hl.1 rfl (Nat.le_of_ble_eq_true rfl) dX12_addCondition_55 (fun H locs cells slots hw => ?_)
        refine lv_aload_n hx hb dX12_addCondition_58 rfl (lv_at hl 0 rfl) ?_
        obtain ⟨x34, h35, hf⟩ := ob_some hf
        refine rR_fl_X12_10 hC hw h35 dX12_addCondition_59 ?_
        obtain ⟨_, h38, hf⟩ := ob_some hf
        obtain ⟨x36, h37, hf⟩ := ob_some hf
        refine gg_cVI (As := []) hC hw (X11_selectedRows_M l E D A h37) h38 rfl g_ml_X12_229 hd_X11_selectedRows (Nat.le_of_ble_eq_true rfl) (Nat.le_of_ble_eq_true rfl) hl.1 rfl (Nat.le_of_ble_eq_true rfl) dX12_addCondition_62 (fun H locs cells slots hw => ?_)
        cases hf
        exact hQ _ _ rfl _ _ _ _ _ _ dX12_addCondition_65 rfl hw
      · replace hf := (if_neg c41).symm.trans hf
        obtain ⟨σ39, h40, hf⟩ := ob_some hf
        cases hf
        exact (hT _ _ rfl).2.1 _ _ _ _ 13 _ _ _ _ _ _ _ h40 hw hl.1 tw_2 rfl rfl rfl dX12_addCondition_23 dX12_addCondition_26 dX12_addCondition_27 dX12_addCondition_30 dX12_addCondition_33

def X12_addCondition_f (E : gE) (l0 : Nat) (l1 : Int32) (l2 : Int32) (l3 : Int32) (σ : gS) : Option ((Nat ⊕ Int32) × gS) := X12_addCondition E l0 l1 l2 l3 σ
set_option maxRecDepth 100000 in
theorem X12_addCondition_M (l : Launch) (hst : l.stackTraces = false) (E : gE) (D : va_G) (A : Nat → Prop) {l0 : Nat} {l1 : Int32} {l2 : Int32} {l3 : Int32} {σ : gS} {res : ((Nat ⊕ Int32) × gS)} (hf : X12_addCondition_f E l0 l1 l2 l3 σ = some res) : gYI l E D A yX12_addCondition (Cond.code yX12_addCondition cX12_addCondition 4 (some FieldType.int)) 7 165 [.ref l0, .int l1, .int l2, .int l3] σ res := by
  refine gg_entYI (own := RX12) (nm := "addCondition") (ty := FieldType.int) hst (Nat.le_of_ble_eq_true rfl) (Nat.le_of_ble_eq_true rfl) (by decide +kernel) rfl rfl (Nat.le_of_ble_eq_true rfl) rfl ?_
  intro p e R s m args below meth c Q ls hC hw hQ hT hl
  have hl : lv_has ls 4 [(0, .ref l0), (1, .int l1), (2, .int l2), (3, .int l3)] := hl
  exact X12_addCondition_W hC hQ hT hst hf hw hl

def X12_init (E : gE) (l0 : Nat) (σ : gS) : Option gS :=
  ob (gnew E σ 9 [.null, .int 0, .null]) fun q1 =>
  ob (X11_init_f E q1.1 q1.2) fun x3 =>
  ob (gpf E x3 l0 10 0 (.ref q1.1)) fun σ5 =>
  ob (gnew E σ5 9 [.null, .int 0, .null]) fun q7 =>
  ob (X11_init_f E q7.1 q7.2) fun x9 =>
  ob (gpf E x9 l0 10 1 (.ref q7.1)) fun σ11 =>
  ob (gnew E σ11 4 [.null, .int 0, .int 0]) fun q13 =>
  ob (X5_init_f E q13.1 q13.2) fun x15 =>
  ob (gpf E x15 l0 10 3 (.ref q13.1)) fun σ17 =>
  ob (gnew E σ17 5 [.null, .int 0, .int 0, .int 0, .int 0, .int 0, .int 0]) fun q19 =>
  ob (X6_init_f E q19.1 q19.2) fun x21 =>
  ob (gpf E x21 l0 10 4 (.ref q19.1)) fun σ23 =>
  ob (gnew E σ23 7 [.null, .int 0, .int 0, .int 0, .int 0, .int 0, .null, .null, .int 0]) fun q25 =>
  ob (gfR q25.2 l0 10 4) fun x27 =>
  ob (X9_init_f E q25.1 x27 q25.2) fun x29 =>
  ob (gpf E x29 l0 10 5 (.ref q25.1)) fun σ31 =>
  ob (gnaB E σ31 (36 : Int32)) fun q33 =>
  ob (gpf E q33.2 l0 10 6 (.ref q33.1)) fun σ35 =>
  ob (gnew E σ35 8 [.null, .null, .int 0]) fun q37 =>
  ob (X10_init_f E q37.1 q37.2) fun x39 =>
  ob (gpf E x39 l0 10 8 (.ref q37.1)) fun σ41 =>
  ob (gnew E σ41 2 [.null, .int 0]) fun q43 =>
  ob (X3_init_f E q43.1 q43.2) fun x45 =>
  ob (gpf E x45 l0 10 9 (.ref q43.1)) fun σ47 =>
  ob (gnew E σ47 6 [.null, .int 0]) fun q49 =>
  ob (X8_init_f E q49.1 q49.2) fun x51 =>
  ob (gpf E x51 l0 10 10 (.ref q49.1)) fun σ53 =>
  ob (gfR σ53 l0 10 0) fun x55 =>
  ob (gcl σ53 x55 9) fun _ =>
  ob (X11_replace_f E x55 (3 : Int32) (6 : Int32) (gst E 40) σ53) fun x57 =>
  some x57
set_option maxHeartbeats 4000000 in
set_option maxRecDepth 100000 in
theorem X12_init_W {σ : gS} {l0 : Nat} {σz : gS} {ls : Array Slot} (hC : gC E D A p R s m args meth c cX12_init 1 RX12 "<init>" 8 192) (hQ : gQV E D A p l e R s m args below meth c Q cX12_init σz) (hf : X12_init E l0 σ = some σz) (hw : gW E D A s σ H locs) (hl : lv_has ls 1 [(0, .ref l0)]) : W p l e R s m args below meth c H locs cells slots Q (F0 m 0 ls []) := by
  have hC0 := hC
  obtain ⟨hx, hb, hml, hown, hts, -⟩ := hC0
  unfold X12_init at hf
  refine lv_aload_n hx hb dX12_init_0 rfl (lv_at hl 0 rfl) ?_
  refine gg_obj hC rfl (hts _ ml_X12_1) hl.1 (Nat.le_of_ble_eq_true rfl) dX12_init_1 (Nat.le_of_ble_eq_true rfl) (Nat.le_of_ble_eq_true rfl) ?_
  refine lv_aload_n hx hb dX12_init_4 rfl (lv_at hl 0 rfl) ?_
  obtain ⟨q1, h2, hf⟩ := ob_some hf
  refine n_cl_X12_7 hC hw h2 dX12_init_5 (fun H locs cells slots hw => ?_)
  refine lv_dup hx hb dX12_init_8 rfl ?_
  obtain ⟨x3, h4, hf⟩ := ob_some hf
  refine gg_cIV (rt := none) (As := []) hC hw (X11_init_M l E D A h4) co_X11_init in_X11 ml_X12_9 im_X11_init rfl hd_X11_init.2 (Nat.le_of_ble_eq_true rfl) (Nat.le_of_ble_eq_true rfl) hl.1 rfl (Nat.le_of_ble_eq_true rfl) dX12_init_9 (fun H locs cells slots hw => ?_)
  obtain ⟨σ5, h6, hf⟩ := ob_some hf
  refine pF_fl_X12_10 hC hw h6 rfl rfl dX12_init_12 (fun H locs hw => ?_)
  refine lv_aload_n hx hb dX12_init_15 rfl (lv_at hl 0 rfl) ?_
  obtain ⟨q7, h8, hf⟩ := ob_some hf
  refine n_cl_X12_7 hC hw h8 dX12_init_16 (fun H locs cells slots hw => ?_)
  refine lv_dup hx hb dX12_init_19 rfl ?_
  obtain ⟨x9, h10, hf⟩ := ob_some hf
  refine gg_cIV (rt := none) (As := []) hC hw (X11_init_M l E D A h10) co_X11_init in_X11 ml_X12_9 im_X11_init rfl hd_X11_init.2 (Nat.le_of_ble_eq_true rfl) (Nat.le_of_ble_eq_true rfl) hl.1 rfl (Nat.le_of_ble_eq_true rfl) dX12_init_20 (fun H locs cells slots hw => ?_)
  obtain ⟨σ11, h12, hf⟩ := ob_some hf
  refine pF_fl_X12_16 hC hw h12 rfl rfl dX12_init_23 (fun H locs hw => ?_)
  refine lv_aload_n hx hb dX12_init_26 rfl (lv_at hl 0 rfl) ?_
  obtain ⟨q13, h14, hf⟩ := ob_some hf
  refine n_cl_X12_19 hC hw h14 dX12_init_27 (fun H locs cells slots hw => ?_)
  refine lv_dup hx hb dX12_init_30 rfl ?_
  obtain ⟨x15, h16, hf⟩ := ob_some hf
  refine gg_cIV (rt := none) (As := []) hC hw (X5_init_M l E D A h16) co_X5_init in_X5 ml_X12_21 im_X5_init rfl hd_X5_init.2 (Nat.le_of_ble_eq_true rfl) (Nat.le_of_ble_eq_true rfl) hl.1 rfl (Nat.le_of_ble_eq_true rfl) dX12_init_31 (fun H locs cells slots hw => ?_)
  obtain ⟨σ17, h18, hf⟩ := ob_some hf
  refine pF_fl_X12_22 hC hw h18 rfl rfl dX12_init_34 (fun H locs hw => ?_)
  refine lv_aload_n hx hb dX12_init_37 rfl (lv_at hl 0 rfl) ?_
  obtain ⟨q19, h20, hf⟩ := ob_some hf
  refine n_cl_X12_26 hC hw h20 dX12_init_38 (fun H locs cells slots hw => ?_)
  refine lv_dup hx hb dX12_init_41 rfl ?_
  obtain ⟨x21, h22, hf⟩ := ob_some hf
  refine gg_cNV (As := []) hC hw (X6_init_M l E D A h22) co_X6_init in_X6 mn_X12_28 im_X6_init rfl hd_X6_init.2 (Nat.le_of_ble_eq_true rfl) (Nat.le_of_ble_eq_true rfl) hl.1 rfl (Nat.le_of_ble_eq_true rfl) dX12_init_42 (fun H locs cells slots hw => ?_)
  obtain ⟨σ23, h24, hf⟩ := ob_some hf
  refine pF_fl_X12_29 hC hw h24 rfl rfl dX12_init_45 (fun H locs hw => ?_)
  refine lv_aload_n hx hb dX12_init_48 rfl (lv_at hl 0 rfl) ?_
  obtain ⟨q25, h26, hf⟩ := ob_some hf
  refine n_cl_X12_33 hC hw h26 dX12_init_49 (fun H locs cells slots hw => ?_)
  refine lv_dup hx hb dX12_init_52 rfl ?_
  refine lv_aload_n hx hb dX12_init_53 rfl (lv_at hl 0 rfl) ?_
  obtain ⟨x27, h28, hf⟩ := ob_some hf
  refine rR_fl_X12_29 hC hw h28 dX12_init_54 ?_
  obtain ⟨x29, h30, hf⟩ := ob_some hf
  refine gg_cIV (rt := none) (As := [.ref x27]) hC hw (X9_init_M l E D A h30) co_X9_init in_X9 ml_X12_35 im_X9_init rfl hd_X9_init.2 (Nat.le_of_ble_eq_true rfl) (Nat.le_of_ble_eq_true rfl) hl.1 rfl (Nat.le_of_ble_eq_true rfl) dX12_init_57 (fun H locs cells slots hw => ?_)
  obtain ⟨σ31, h32, hf⟩ := ob_some hf
  refine pF_fl_X12_38 hC hw h32 rfl rfl dX12_init_60 (fun H locs hw => ?_)
  refine lv_aload_n hx hb dX12_init_63 rfl (lv_at hl 0 rfl) ?_
  refine lv_bipush (v := 36) hx hb dX12_init_64 (by decide) ?_
  obtain ⟨q33, h34, hf⟩ := ob_some hf
  refine gg_naB hC hw h34 dX12_init_66 (fun H locs cells slots hw => ?_)
  obtain ⟨σ35, h36, hf⟩ := ob_some hf
  refine pF_fl_X12_42 hC hw h36 rfl rfl dX12_init_68 (fun H locs hw => ?_)
  refine lv_aload_n hx hb dX12_init_71 rfl (lv_at hl 0 rfl) ?_
  obtain ⟨q37, h38, hf⟩ := ob_some hf
  refine n_cl_X12_46 hC hw h38 dX12_init_72 (fun H locs cells slots hw => ?_)
  refine lv_dup hx hb dX12_init_75 rfl ?_
  obtain ⟨x39, h40, hf⟩ := ob_some hf
  refine gg_cNV (As := []) hC hw (X10_init_M l E D A h40) co_X10_init in_X10 mn_X12_48 im_X10_init rfl hd_X10_init.2 (Nat.le_of_ble_eq_true rfl) (Nat.le_of_ble_eq_true rfl) hl.1 rfl (Nat.le_of_ble_eq_true rfl) dX12_init_76 (fun H locs cells slots hw => ?_)
  obtain ⟨σ41, h42, hf⟩ := ob_some hf
  refine pF_fl_X12_49 hC hw h42 rfl rfl dX12_init_79 (fun H locs hw => ?_)
  refine lv_aload_n hx hb dX12_init_82 rfl (lv_at hl 0 rfl) ?_
  obtain ⟨q43, h44, hf⟩ := ob_some hf
  refine n_cl_X12_53 hC hw h44 dX12_init_83 (fun H locs cells slots hw => ?_)
  refine lv_dup hx hb dX12_init_86 rfl ?_
  obtain ⟨x45, h46, hf⟩ := ob_some hf
  refine gg_cNV (As := []) hC hw (X3_init_M l E D A h46) co_X3_init in_X3 mn_X12_55 im_X3_init rfl hd_X3_init.2 (Nat.le_of_ble_eq_true rfl) (Nat.le_of_ble_eq_true rfl) hl.1 rfl (Nat.le_of_ble_eq_true rfl) dX12_init_87 (fun H locs cells slots hw => ?_)
  obtain ⟨σ47, h48, hf⟩ := ob_some hf
  refine pF_fl_X12_56 hC hw h48 rfl rfl dX12_init_90 (fun H locs hw => ?_)
  refine lv_aload_n hx hb dX12_init_93 rfl (lv_at hl 0 rfl) ?_
  obtain ⟨q49, h50, hf⟩ := ob_some hf
  refine n_cl_X12_60 hC hw h50 dX12_init_94 (fun H locs cells slots hw => ?_)
  refine lv_dup hx hb dX12_init_97 rfl ?_
  obtain ⟨x51, h52, hf⟩ := ob_some hf
  refine gg_cNV (As := []) hC hw (X8_init_M l E D A h52) co_X8_init in_X8 mn_X12_62 im_X8_init rfl hd_X8_init.2 (Nat.le_of_ble_eq_true rfl) (Nat.le_of_ble_eq_true rfl) hl.1 rfl (Nat.le_of_ble_eq_true rfl) dX12_init_98 (fun H locs cells slots hw => ?_)
  obtain ⟨σ53, h54, hf⟩ := ob_some hf
  refine pF_fl_X12_63 hC hw h54 rfl rfl dX12_init_101 (fun H locs hw => ?_)
  refine lv_aload_n hx hb dX12_init_104 rfl (lv_at hl 0 rfl) ?_
  obtain ⟨x55, h56, hf⟩ := ob_some hf
  refine rR_fl_X12_10 hC hw h56 dX12_init_105 ?_
  refine lv_iconst (v := 3) hx hb dX12_init_108 (by decide) ?_
  refine lv_bipush (v := 6) hx hb dX12_init_109 (by decide) ?_
  refine gg_gets hC hw (k := 0) rfl fl_X12_67 dX12_init_111 ?_
  obtain ⟨_, h59, hf⟩ := ob_some hf
  obtain ⟨x57, h58, hf⟩ := ob_some hf
  refine gg_cVV (As := [.int (3 : Int32), .int (6 : Int32), .ref (gst E 40)]) hC hw (X11_replace_M l E D A h58) h59 rfl g_ml_X12_71 hd_X11_replace (Nat.le_of_ble_eq_true rfl) (Nat.le_of_ble_eq_true rfl) hl.1 rfl (Nat.le_of_ble_eq_true rfl) dX12_init_114 (fun H locs cells slots hw => ?_)
  cases hf
  exact hQ _ _ _ _ _ _ dX12_init_117 hw

def X12_init_f (E : gE) (l0 : Nat) (σ : gS) : Option gS := X12_init E l0 σ
set_option maxRecDepth 100000 in
theorem X12_init_M (l : Launch) (E : gE) (D : va_G) (A : Nat → Prop) {l0 : Nat} {σ : gS} {σz : gS} (hf : X12_init_f E l0 σ = some σz) : gCV l E D A yX12_init cX12_init 1 8 192 none [.ref l0] σ σz := by
  refine gg_entV (own := RX12) (nm := "<init>") (by decide +kernel) rfl rfl (Nat.le_of_ble_eq_true rfl) rfl ?_
  intro p e R s m args below meth c Q ls hC hw hQ hl
  have hl : lv_has ls 1 [(0, .ref l0)] := hl
  exact X12_init_W hC hQ hf hw hl

def X12_addLess (E : gE) (l0 : Nat) (l1 : Int32) (l2 : Int32) (σ : gS) : Option ((Nat ⊕ Int32) × gS) :=
  ob (gcl σ l0 10) fun _ =>
  ob (X12_addCondition_f E l0 l1 l2 (-1 : Int32) σ) fun x1 =>
  gtry x1 (fun k9 σ9 => some (Sum.inl k9, σ9)) (fun x5 σ4 =>
    some (Sum.inr x5, σ4))
set_option maxHeartbeats 4000000 in
set_option maxRecDepth 100000 in
theorem X12_addLess_W {σ : gS} {l0 : Nat} {l1 : Int32} {l2 : Int32} {res : ((Nat ⊕ Int32) × gS)} {ls : Array Slot} (hC : gC E D A p R s m args meth c cX12_addLess 3 RX12 "addLess" 8 188) (hQ : ∀ (r : Int32) (σ1 : gS), res = (.inr r, σ1) → gQI E D A p l e R s m args below meth c Q cX12_addLess FieldType.int (r, σ1)) (hT : ∀ (k : Nat) (σ1 : gS), res = (.inl k, σ1) → gTN E D A p l e R s m args below meth c Q cX12_addLess 3 RX12 k σ1) (hst : l.stackTraces = false) (hf : X12_addLess E l0 l1 l2 σ = some res) (hw : gW E D A s σ H locs) (hl : lv_has ls 3 [(0, .ref l0), (1, .int l1), (2, .int l2)]) : W p l e R s m args below meth c H locs cells slots Q (F0 m 0 ls []) := by
  have hC0 := hC
  obtain ⟨hx, hb, hml, hown, hts, -⟩ := hC0
  unfold X12_addLess at hf
  refine lv_aload_n hx hb dX12_addLess_0 rfl (lv_at hl 0 rfl) ?_
  refine lv_iload_n hx hb dX12_addLess_1 rfl (lv_at hl 1 rfl) ?_
  refine lv_iload_n hx hb dX12_addLess_2 rfl (lv_at hl 2 rfl) ?_
  refine lv_iconst (v := -1) hx hb dX12_addLess_3 (by decide) ?_
  obtain ⟨_, h3, hf⟩ := ob_some hf
  obtain ⟨x1, h2, hf⟩ := ob_some hf
  refine gg_yVI (As := [.int l1, .int l2, .int (-1 : Int32)]) hC hw (X12_addCondition_M l hst E D A h2) h3 rfl g_ml_X12_293 hd_X12_addCondition (Nat.le_of_ble_eq_true rfl) (Nat.le_of_ble_eq_true rfl) hl.1 rfl (Nat.le_of_ble_eq_true rfl) dX12_addLess_4 (fun k9 σ9 he => ?_) (fun x5 σ4 he H locs cells slots hw => ?_)
  · subst he
    replace hf := gtry_inl.symm.trans hf
    cases hf
    exact (hT _ _ rfl).2.2 _ _ _
  · subst he
    replace hf := gtry_inr.symm.trans hf
    cases hf
    exact hQ _ _ rfl _ _ _ _ _ _ dX12_addLess_7 rfl hw

def X12_addLess_f (E : gE) (l0 : Nat) (l1 : Int32) (l2 : Int32) (σ : gS) : Option ((Nat ⊕ Int32) × gS) := X12_addLess E l0 l1 l2 σ
set_option maxRecDepth 100000 in
theorem X12_addLess_M (l : Launch) (hst : l.stackTraces = false) (E : gE) (D : va_G) (A : Nat → Prop) {l0 : Nat} {l1 : Int32} {l2 : Int32} {σ : gS} {res : ((Nat ⊕ Int32) × gS)} (hf : X12_addLess_f E l0 l1 l2 σ = some res) : gYI l E D A yX12_addLess (Cond.code yX12_addLess cX12_addLess 3 (some FieldType.int)) 8 188 [.ref l0, .int l1, .int l2] σ res := by
  refine gg_entYI (own := RX12) (nm := "addLess") (ty := FieldType.int) hst (Nat.le_of_ble_eq_true rfl) (Nat.le_of_ble_eq_true rfl) (by decide +kernel) rfl rfl (Nat.le_of_ble_eq_true rfl) rfl ?_
  intro p e R s m args below meth c Q ls hC hw hQ hT hl
  have hl : lv_has ls 3 [(0, .ref l0), (1, .int l1), (2, .int l2)] := hl
  exact X12_addLess_W hC hQ hT hst hf hw hl

def X12_addEqual (E : gE) (l0 : Nat) (l1 : Int32) (l2 : Int32) (σ : gS) : Option ((Nat ⊕ Int32) × gS) :=
  ob (gcl σ l0 10) fun _ =>
  ob (X12_addCondition_f E l0 l1 l2 (0 : Int32) σ) fun x1 =>
  gtry x1 (fun k9 σ9 => some (Sum.inl k9, σ9)) (fun x5 σ4 =>
    some (Sum.inr x5, σ4))
set_option maxHeartbeats 4000000 in
set_option maxRecDepth 100000 in
theorem X12_addEqual_W {σ : gS} {l0 : Nat} {l1 : Int32} {l2 : Int32} {res : ((Nat ⊕ Int32) × gS)} {ls : Array Slot} (hC : gC E D A p R s m args meth c cX12_addEqual 3 RX12 "addEqual" 8 188) (hQ : ∀ (r : Int32) (σ1 : gS), res = (.inr r, σ1) → gQI E D A p l e R s m args below meth c Q cX12_addEqual FieldType.int (r, σ1)) (hT : ∀ (k : Nat) (σ1 : gS), res = (.inl k, σ1) → gTN E D A p l e R s m args below meth c Q cX12_addEqual 3 RX12 k σ1) (hst : l.stackTraces = false) (hf : X12_addEqual E l0 l1 l2 σ = some res) (hw : gW E D A s σ H locs) (hl : lv_has ls 3 [(0, .ref l0), (1, .int l1), (2, .int l2)]) : W p l e R s m args below meth c H locs cells slots Q (F0 m 0 ls []) := by
  have hC0 := hC
  obtain ⟨hx, hb, hml, hown, hts, -⟩ := hC0
  unfold X12_addEqual at hf
  refine lv_aload_n hx hb dX12_addEqual_0 rfl (lv_at hl 0 rfl) ?_
  refine lv_iload_n hx hb dX12_addEqual_1 rfl (lv_at hl 1 rfl) ?_
  refine lv_iload_n hx hb dX12_addEqual_2 rfl (lv_at hl 2 rfl) ?_
  refine lv_iconst (v := 0) hx hb dX12_addEqual_3 (by decide) ?_
  obtain ⟨_, h3, hf⟩ := ob_some hf
  obtain ⟨x1, h2, hf⟩ := ob_some hf
  refine gg_yVI (As := [.int l1, .int l2, .int (0 : Int32)]) hC hw (X12_addCondition_M l hst E D A h2) h3 rfl g_ml_X12_293 hd_X12_addCondition (Nat.le_of_ble_eq_true rfl) (Nat.le_of_ble_eq_true rfl) hl.1 rfl (Nat.le_of_ble_eq_true rfl) dX12_addEqual_4 (fun k9 σ9 he => ?_) (fun x5 σ4 he H locs cells slots hw => ?_)
  · subst he
    replace hf := gtry_inl.symm.trans hf
    cases hf
    exact (hT _ _ rfl).2.2 _ _ _
  · subst he
    replace hf := gtry_inr.symm.trans hf
    cases hf
    exact hQ _ _ rfl _ _ _ _ _ _ dX12_addEqual_7 rfl hw

def X12_addEqual_f (E : gE) (l0 : Nat) (l1 : Int32) (l2 : Int32) (σ : gS) : Option ((Nat ⊕ Int32) × gS) := X12_addEqual E l0 l1 l2 σ
set_option maxRecDepth 100000 in
theorem X12_addEqual_M (l : Launch) (hst : l.stackTraces = false) (E : gE) (D : va_G) (A : Nat → Prop) {l0 : Nat} {l1 : Int32} {l2 : Int32} {σ : gS} {res : ((Nat ⊕ Int32) × gS)} (hf : X12_addEqual_f E l0 l1 l2 σ = some res) : gYI l E D A yX12_addEqual (Cond.code yX12_addEqual cX12_addEqual 3 (some FieldType.int)) 8 188 [.ref l0, .int l1, .int l2] σ res := by
  refine gg_entYI (own := RX12) (nm := "addEqual") (ty := FieldType.int) hst (Nat.le_of_ble_eq_true rfl) (Nat.le_of_ble_eq_true rfl) (by decide +kernel) rfl rfl (Nat.le_of_ble_eq_true rfl) rfl ?_
  intro p e R s m args below meth c Q ls hC hw hQ hT hl
  have hl : lv_has ls 3 [(0, .ref l0), (1, .int l1), (2, .int l2)] := hl
  exact X12_addEqual_W hC hQ hT hst hf hw hl

def X12_addGreater (E : gE) (l0 : Nat) (l1 : Int32) (l2 : Int32) (σ : gS) : Option ((Nat ⊕ Int32) × gS) :=
  ob (gcl σ l0 10) fun _ =>
  ob (X12_addCondition_f E l0 l1 l2 (1 : Int32) σ) fun x1 =>
  gtry x1 (fun k9 σ9 => some (Sum.inl k9, σ9)) (fun x5 σ4 =>
    some (Sum.inr x5, σ4))
set_option maxHeartbeats 4000000 in
set_option maxRecDepth 100000 in
theorem X12_addGreater_W {σ : gS} {l0 : Nat} {l1 : Int32} {l2 : Int32} {res : ((Nat ⊕ Int32) × gS)} {ls : Array Slot} (hC : gC E D A p R s m args meth c cX12_addGreater 3 RX12 "addGreater" 8 188) (hQ : ∀ (r : Int32) (σ1 : gS), res = (.inr r, σ1) → gQI E D A p l e R s m args below meth c Q cX12_addGreater FieldType.int (r, σ1)) (hT : ∀ (k : Nat) (σ1 : gS), res = (.inl k, σ1) → gTN E D A p l e R s m args below meth c Q cX12_addGreater 3 RX12 k σ1) (hst : l.stackTraces = false) (hf : X12_addGreater E l0 l1 l2 σ = some res) (hw : gW E D A s σ H locs) (hl : lv_has ls 3 [(0, .ref l0), (1, .int l1), (2, .int l2)]) : W p l e R s m args below meth c H locs cells slots Q (F0 m 0 ls []) := by
  have hC0 := hC
  obtain ⟨hx, hb, hml, hown, hts, -⟩ := hC0
  unfold X12_addGreater at hf
  refine lv_aload_n hx hb dX12_addGreater_0 rfl (lv_at hl 0 rfl) ?_
  refine lv_iload_n hx hb dX12_addGreater_1 rfl (lv_at hl 1 rfl) ?_
  refine lv_iload_n hx hb dX12_addGreater_2 rfl (lv_at hl 2 rfl) ?_
  refine lv_iconst (v := 1) hx hb dX12_addGreater_3 (by decide) ?_
  obtain ⟨_, h3, hf⟩ := ob_some hf
  obtain ⟨x1, h2, hf⟩ := ob_some hf
  refine gg_yVI (As := [.int l1, .int l2, .int (1 : Int32)]) hC hw (X12_addCondition_M l hst E D A h2) h3 rfl g_ml_X12_293 hd_X12_addCondition (Nat.le_of_ble_eq_true rfl) (Nat.le_of_ble_eq_true rfl) hl.1 rfl (Nat.le_of_ble_eq_true rfl) dX12_addGreater_4 (fun k9 σ9 he => ?_) (fun x5 σ4 he H locs cells slots hw => ?_)
  · subst he
    replace hf := gtry_inl.symm.trans hf
    cases hf
    exact (hT _ _ rfl).2.2 _ _ _
  · subst he
    replace hf := gtry_inr.symm.trans hf
    cases hf
    exact hQ _ _ rfl _ _ _ _ _ _ dX12_addGreater_7 rfl hw

def X12_addGreater_f (E : gE) (l0 : Nat) (l1 : Int32) (l2 : Int32) (σ : gS) : Option ((Nat ⊕ Int32) × gS) := X12_addGreater E l0 l1 l2 σ
set_option maxRecDepth 100000 in
theorem X12_addGreater_M (l : Launch) (hst : l.stackTraces = false) (E : gE) (D : va_G) (A : Nat → Prop) {l0 : Nat} {l1 : Int32} {l2 : Int32} {σ : gS} {res : ((Nat ⊕ Int32) × gS)} (hf : X12_addGreater_f E l0 l1 l2 σ = some res) : gYI l E D A yX12_addGreater (Cond.code yX12_addGreater cX12_addGreater 3 (some FieldType.int)) 8 188 [.ref l0, .int l1, .int l2] σ res := by
  refine gg_entYI (own := RX12) (nm := "addGreater") (ty := FieldType.int) hst (Nat.le_of_ble_eq_true rfl) (Nat.le_of_ble_eq_true rfl) (by decide +kernel) rfl rfl (Nat.le_of_ble_eq_true rfl) rfl ?_
  intro p e R s m args below meth c Q ls hC hw hQ hT hl
  have hl : lv_has ls 3 [(0, .ref l0), (1, .int l1), (2, .int l2)] := hl
  exact X12_addGreater_W hC hQ hT hst hf hw hl

end MC2
