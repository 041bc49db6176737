/-! decompiled: X11_init, X11_deleteRow, X11_reorder, X11_fulfills, X11_rowsFulfilling, X11_firstRejecting, X11_selects, X11_selectedRows, X11_selectsByCode, X11_copyFrom, J5_newCapacity_0f7a4, J5_inflateIfNeededFor_a7421, J0_length_8abf5, J0_getBytes_840e7, J0_checkIndex_df160, J1_charAt_3b067, J7_copyOfRange_39247, J0_length_8abf5m, J0_charAt_5068em, X1_append, X1_put, X1_collectInto, X1_dropStale, X5_init, X5_record, X5_takeBack, X11_appendRow, X11_deleteSelectedRows, J5_ensureCapacityInternal_d00df, J5_append_3fe6f, J5_append_c97b9, J5_putStringAt_47b60, J0_charAt_5068e -/
section MA3
variable {p : Program} {l : Launch} {e : Env} {R : Room} {s : State} {m : MethodId} {args : Array Value} {below : List Frame} {meth : Method} {c : Code} {H : Heap} {locs : List Loc} {cells slots : Nat} {Q : State → Prop} {E : gE} {D : va_G} {A : Nat → Prop}
def X11_init_31_s (E : gE) (r_31 : Nat → Int32 → gS → Option gS) (l0 : Nat) (l1 : Int32) (σ : gS) : Option gS :=
  if (6 : Int32) ≤ l1 then
    some σ
  else
    ob (gfR σ l0 9 0) fun x1 =>
    ob (gnew E σ 0 [.null, .null, .int 0]) fun q3 =>
    ob (X1_init_f E q3.1 q3.2) fun x5 =>
    ob (gwaR E 4 0 x5 x1 l1 q3.1) fun σ7 =>
    r_31 l0 (l1 + 1) σ7
set_option maxHeartbeats 4000000 in
set_option maxRecDepth 100000 in
theorem X11_init_31_s_W {σ : gS} {l0 : Nat} {l1 : Int32} {σz : gS} {ls : Array Slot} (hC : gC E D A p R s m args meth c cX11_init 2 RX11 "<init>" 5 120) (hQ : gQV E D A p l e R s m args below meth c Q cX11_init σz) {r_31 : Nat → Int32 → gS → Option gS} (h_31 : ∀ {l0 : Nat} {l1 : Int32} {σ : gS} {H : Heap} {locs : List Loc} {cells slots : Nat} {ls : Array Slot}, r_31 l0 l1 σ = some σz → gW E D A s σ H locs → lv_has ls 2 [(0, .ref l0), (1, .int l1)] → W p l e R s m args below meth c H locs cells slots Q (F0 m 31 ls [])) (hf : X11_init_31_s E r_31 l0 l1 σ = some σz) (hw : gW E D A s σ H locs) (hl : lv_has ls 2 [(0, .ref l0), (1, .int l1)]) : W p l e R s m args below meth c H locs cells slots Q (F0 m 31 ls []) := by
  have hC0 := hC
  obtain ⟨hx, hb, hml, hown, hts, -⟩ := hC0
  unfold X11_init_31_s at hf
  refine lv_iload_n hx hb dX11_init_31 rfl (lv_at hl 1 rfl) ?_
  refine lv_bipush (v := 6) hx hb dX11_init_32 (by decide) ?_
  refine lv_icmp_ge (tgt := 56) hx hb dX11_init_34 (by decide) (fun c9 => ?_) (fun c9 => ?_)
  · replace hf := (if_pos c9).symm.trans hf
    cases hf
    exact hQ _ _ _ _ _ _ dX11_init_56 hw
  · replace hf := (if_neg c9).symm.trans hf
    refine lv_aload_n hx hb dX11_init_37 rfl (lv_at hl 0 rfl) ?_
    obtain ⟨x1, h2, hf⟩ := ob_some hf
    refine rR_fl_X11_11 hC hw h2 dX11_init_38 ?_
    refine lv_iload_n hx hb dX11_init_41 rfl (lv_at hl 1 rfl) ?_
    obtain ⟨q3, h4, hf⟩ := ob_some hf
    refine n_cl_X11_9 hC hw h4 dX11_init_42 (fun H locs cells slots hw => ?_)
    refine lv_dup hx hb dX11_init_45 rfl ?_
    obtain ⟨x5, h6, hf⟩ := ob_some hf
    refine gg_cNV (As := []) hC hw (X1_init_M l E D A h6) co_X1_init in_X1 mn_X11_28 im_X1_init rfl hd_X1_init.2 (Nat.le_of_ble_eq_true rfl) (Nat.le_of_ble_eq_true rfl) hl.1 rfl (Nat.le_of_ble_eq_true rfl) dX11_init_46 (fun H locs cells slots hw => ?_)
    obtain ⟨σ7, h8, hf⟩ := ob_some hf
    refine gg_astR hC hw h8 rfl rfl dX11_init_49 (fun H locs hw => ?_)
    refine lv_iinc (v := (l1 + 1)) (lv' := [(1, .int (l1 + 1)), (0, .ref l0)]) hx hb dX11_init_50 hl (k := 1) rfl rfl (by decide) rfl (fun ls hl => ?_)
    refine lv_goto (tgt := 31) hx hb dX11_init_53 (by decide) ?_
    exact h_31 hf hw (lv_sub hl [1, 0] rfl)
def X11_init_31 (E : gE) : Nat → Nat → Int32 → gS → Option gS
  | 0 => fun _ _ _ => none
  | n + 1 => X11_init_31_s E (X11_init_31 E n)
theorem X11_init_31_W {σz : gS} (hC : gC E D A p R s m args meth c cX11_init 2 RX11 "<init>" 5 120) (hQ : gQV E D A p l e R s m args below meth c Q cX11_init σz) : ∀ (n : Nat), ∀ {l0 : Nat} {l1 : Int32} {σ : gS} {H : Heap} {locs : List Loc} {cells slots : Nat} {ls : Array Slot}, X11_init_31 E n l0 l1 σ = some σz → gW E D A s σ H locs → lv_has ls 2 [(0, .ref l0), (1, .int l1)] → W p l e R s m args below meth c H locs cells slots Q (F0 m 31 ls []) := by
  intro n
  induction n with
  | zero =>
    intros
    rename_i hf _ _
    exact absurd hf (fun h => by cases (show (none : Option gS) = some σz from h))
  | succ n ih =>
    intros
    rename_i hf hw hl
    exact X11_init_31_s_W hC hQ ih hf hw hl

def X11_init (E : gE) (l0 : Nat) (σ : gS) : Option gS :=
  ob (gnaR E 4 σ (6 : Int32)) fun q10 =>
  ob (gpf E q10.2 l0 9 0 (.ref q10.1)) fun σ12 =>
  ob (gpf E σ12 l0 9 1 (.int (1 : Int32))) fun σ14 =>
  ob (gnew E σ14 3 [.null, .null, .null, .int 0]) fun q16 =>
  ob (X4_init_f E q16.1 q16.2) fun x18 =>
  ob (gpf E x18 l0 9 2 (.ref q16.1)) fun σ20 =>
  X11_init_31 E (gN E) l0 (0 : Int32) σ20
set_option maxHeartbeats 4000000 in
set_option maxRecDepth 100000 in
theorem X11_init_W {σ : gS} {l0 : Nat} {σz : gS} {ls : Array Slot} (hC : gC E D A p R s m args meth c cX11_init 2 RX11 "<init>" 5 120) (hQ : gQV E D A p l e R s m args below meth c Q cX11_init σz) (hf : X11_init E l0 σ = some σz) (hw : gW E D A s σ H locs) (hl : lv_has ls 2 [(0, .ref l0)]) : W p l e R s m args below meth c H locs cells slots Q (F0 m 0 ls []) := by
  have hC0 := hC
  obtain ⟨hx, hb, hml, hown, hts, -⟩ := hC0
  unfold X11_init at hf
  refine lv_aload_n hx hb dX11_init_0 rfl (lv_at hl 0 rfl) ?_
  refine gg_obj hC rfl (hts _ ml_X11_3) hl.1 (Nat.le_of_ble_eq_true rfl) dX11_init_1 (Nat.le_of_ble_eq_true rfl) (Nat.le_of_ble_eq_true rfl) ?_
  refine lv_aload_n hx hb dX11_init_4 rfl (lv_at hl 0 rfl) ?_
  refine lv_bipush (v := 6) hx hb dX11_init_5 (by decide) ?_
  obtain ⟨q10, h11, hf⟩ := ob_some hf
  refine na_cl_X11_9 hC hw h11 dX11_init_7 (fun H locs cells slots hw => ?_)
  obtain ⟨σ12, h13, hf⟩ := ob_some hf
  refine pF_fl_X11_11 hC hw h13 rfl rfl dX11_init_10 (fun H locs hw => ?_)
  refine lv_aload_n hx hb dX11_init_13 rfl (lv_at hl 0 rfl) ?_
  refine lv_iconst (v := 1) hx hb dX11_init_14 (by decide) ?_
  obtain ⟨σ14, h15, hf⟩ := ob_some hf
  refine p_fl_X11_17 hC hw h15 rfl rfl dX11_init_15 (fun H locs hw => ?_)
  refine lv_aload_n hx hb dX11_init_18 rfl (lv_at hl 0 rfl) ?_
  obtain ⟨q16, h17, hf⟩ := ob_some hf
  refine n_cl_X11_21 hC hw h17 dX11_init_19 (fun H locs cells slots hw => ?_)
  refine lv_dup hx hb dX11_init_22 rfl ?_
  obtain ⟨x18, h19, hf⟩ := ob_some hf
  refine gg_cNV (As := []) hC hw (X4_init_M l E D A h19) co_X4_init in_X4 mn_X11_23 im_X4_init rfl hd_X4_init.2 (Nat.le_of_ble_eq_true rfl) (Nat.le_of_ble_eq_true rfl) hl.1 rfl (Nat.le_of_ble_eq_true rfl) dX11_init_23 (fun H locs cells slots hw => ?_)
  obtain ⟨σ20, h21, hf⟩ := ob_some hf
  refine pF_fl_X11_24 hC hw h21 rfl rfl dX11_init_26 (fun H locs hw => ?_)
  refine lv_iconst (v := 0) hx hb dX11_init_29 (by decide) ?_
  refine lv_istore_n (lv' := [(1, .int (0 : Int32)), (0, .ref l0)]) hx hb dX11_init_30 rfl hl (by decide) rfl (fun ls hl => ?_)
  exact X11_init_31_W hC hQ (gN E) hf hw (lv_sub hl [1, 0] rfl)

def X11_init_f (E : gE) (l0 : Nat) (σ : gS) : Option gS := X11_init E l0 σ
set_option maxRecDepth 100000 in
theorem X11_init_M (l : Launch) (E : gE) (D : va_G) (A : Nat → Prop) {l0 : Nat} {σ : gS} {σz : gS} (hf : X11_init_f E l0 σ = some σz) : gCV l E D A yX11_init cX11_init 2 5 120 none [.ref l0] σ σz := by
  refine gg_entV (own := RX11) (nm := "<init>") (by decide +kernel) rfl rfl (Nat.le_of_ble_eq_true rfl) rfl ?_
  intro p e R s m args below meth c Q ls hC hw hQ hl
  have hl : lv_has ls 2 [(0, .ref l0)] := hl
  exact X11_init_W hC hQ hf hw hl

def X11_deleteRow_4_s (E : gE) (r_4 : Nat → Int32 → gS → Option gS) (l0 : Nat) (l2 : Int32) (σ : gS) : Option gS :=
  ob (gcl σ l0 9) fun _ =>
  ob (X11_rows_f E σ l0) fun x1 =>
  if x1 ≤ l2 then
    ob (gcl σ l0 9) fun _ =>
    ob (X11_rows_f E σ l0) fun x4 =>
    ob (gcl σ l0 9) fun _ =>
    ob (X11_shorten_f E l0 (x4 - (1 : Int32)) σ) fun x7 =>
    some x7
  else
    ob (gcl σ l0 9) fun _ =>
    ob (X11_moveRow_f E l0 l2 (l2 - (1 : Int32)) σ) fun x10 =>
    r_4 l0 (l2 + 1) x10
set_option maxHeartbeats 4000000 in
set_option maxRecDepth 100000 in
theorem X11_deleteRow_4_s_W {σ : gS} {l0 : Nat} {l2 : Int32} {σz : gS} {ls : Array Slot} (hC : gC E D A p R s m args meth c cX11_deleteRow 3 RX11 "deleteRow" 2 45) (hQ : gQV E D A p l e R s m args below meth c Q cX11_deleteRow σz) {r_4 : Nat → Int32 → gS → Option gS} (h_4 : ∀ {l0 : Nat} {l2 : Int32} {σ : gS} {H : Heap} {locs : List Loc} {cells slots : Nat} {ls : Array Slot}, r_4 l0 l2 σ = some σz → gW E D A s σ H locs → lv_has ls 3 [(0, .ref l0), (2, .int l2)] → W p l e R s m args below meth c H locs cells slots Q (F0 m 4 ls [])) (hf : X11_deleteRow_4_s E r_4 l0 l2 σ = some σz) (hw : gW E D A s σ H locs) (hl : lv_has ls 3 [(0, .ref l0), (2, .int l2)]) : W p l e R s m args below meth c H locs cells slots Q (F0 m 4 ls []) := by
  have hC0 := hC
  obtain ⟨hx, hb, hml, hown, hts, -⟩ := hC0
  unfold X11_deleteRow_4_s at hf
  refine lv_iload_n hx hb dX11_deleteRow_4 rfl (lv_at hl 1 rfl) ?_
  refine lv_aload_n hx hb dX11_deleteRow_5 rfl (lv_at hl 0 rfl) ?_
  obtain ⟨_, h3, hf⟩ := ob_some hf
  obtain ⟨x1, h2, hf⟩ := ob_some hf
  refine gg_cVI (As := []) hC hw (X11_rows_M l E D A h2) h3 rfl g_ml_X11_37 hd_X11_rows (Nat.le_of_ble_eq_true rfl) (Nat.le_of_ble_eq_true rfl) hl.1 rfl (Nat.le_of_ble_eq_true rfl) dX11_deleteRow_6 (fun H locs cells slots hw => ?_)
  refine lv_icmp_ge (tgt := 26) hx hb dX11_deleteRow_9 (by decide) (fun c13 => ?_) (fun c13 => ?_)
  · replace hf := (if_pos c13).symm.trans hf
    refine lv_aload_n hx hb dX11_deleteRow_26 rfl (lv_at hl 0 rfl) ?_
    refine lv_aload_n hx hb dX11_deleteRow_27 rfl (lv_at hl 0 rfl) ?_
    obtain ⟨_, h6, hf⟩ := ob_some hf
    obtain ⟨x4, h5, hf⟩ := ob_some hf
    refine gg_cVI (As := []) hC hw (X11_rows_M l E D A h5) h6 rfl g_ml_X11_37 hd_X11_rows (Nat.le_of_ble_eq_true rfl) (Nat.le_of_ble_eq_true rfl) hl.1 rfl (Nat.le_of_ble_eq_true rfl) dX11_deleteRow_28 (fun H locs cells slots hw => ?_)
    refine lv_iconst (v := 1) hx hb dX11_deleteRow_31 (by decide) ?_
    refine lv_isub hx hb dX11_deleteRow_32 ?_
    obtain ⟨_, h9, hf⟩ := ob_some hf
    obtain ⟨x7, h8, hf⟩ := ob_some hf
    refine gg_cVV (As := [.int (x4 - (1 : Int32))]) hC hw (X11_shorten_M l E D A h8) h9 rfl g_ml_X11_56 hd_X11_shorten (Nat.le_of_ble_eq_true rfl) (Nat.le_of_ble_eq_true rfl) hl.1 rfl (Nat.le_of_ble_eq_true rfl) dX11_deleteRow_33 (fun H locs cells slots hw => ?_)
    cases hf
    exact hQ _ _ _ _ _ _ dX11_deleteRow_36 hw
  · replace hf := (if_neg c13).symm.trans hf
    refine lv_aload_n hx hb dX11_deleteRow_12 rfl (lv_at hl 0 rfl) ?_
    refine lv_iload_n hx hb dX11_deleteRow_13 rfl (lv_at hl 1 rfl) ?_
    refine lv_iload_n hx hb dX11_deleteRow_14 rfl (lv_at hl 1 rfl) ?_
    refine lv_iconst (v := 1) hx hb dX11_deleteRow_15 (by decide) ?_
    refine lv_isub hx hb dX11_deleteRow_16 ?_
    obtain ⟨_, h12, hf⟩ := ob_some hf
    obtain ⟨x10, h11, hf⟩ := ob_some hf
    refine gg_cVV (As := [.int l2, .int (l2 - (1 : Int32))]) hC hw (X11_moveRow_M l E D A h11) h12 rfl g_ml_X11_52 hd_X11_moveRow (Nat.le_of_ble_eq_true rfl) (Nat.le_of_ble_eq_true rfl) hl.1 rfl (Nat.le_of_ble_eq_true rfl) dX11_deleteRow_17 (fun H locs cells slots hw => ?_)
    refine lv_iinc (v := (l2 + 1)) (lv' := [(2, .int (l2 + 1)), (0, .ref l0)]) hx hb dX11_deleteRow_20 hl (k := 1) rfl rfl (by decide) rfl (fun ls hl => ?_)
    refine lv_goto (tgt := 4) hx hb dX11_deleteRow_23 (by decide) ?_
    exact h_4 hf hw (lv_sub hl [1, 0] rfl)
def X11_deleteRow_4 (E : gE) : Nat → Nat → Int32 → gS → Option gS
  | 0 => fun _ _ _ => none
  | n + 1 => X11_deleteRow_4_s E (X11_deleteRow_4 E n)
theorem X11_deleteRow_4_W {σz : gS} (hC : gC E D A p R s m args meth c cX11_deleteRow 3 RX11 "deleteRow" 2 45) (hQ : gQV E D A p l e R s m args below meth c Q cX11_deleteRow σz) : ∀ (n : Nat), ∀ {l0 : Nat} {l2 : Int32} {σ : gS} {H : Heap} {locs : List Loc} {cells slots : Nat} {ls : Array Slot}, X11_deleteRow_4 E n l0 l2 σ = some σz → gW E D A s σ H locs → lv_has ls 3 [(0, .ref l0), (2, .int l2)] → W p l e R s m args below meth c H locs cells slots Q (F0 m 4 ls []) := by
  intro n
  induction n with
  | zero =>
    intros
    rename_i hf _ _
    exact absurd hf (fun h => by cases (show (none : Option gS) = some σz from h))
  | succ n ih =>
    intros
    rename_i hf hw hl
    exact X11_deleteRow_4_s_W hC hQ ih hf hw hl

def X11_deleteRow (E : gE) (l0 : Nat) (l1 : Int32) (σ : gS) : Option gS :=
  X11_deleteRow_4 E (gN E) l0 (l1 + (1 : Int32)) σ
set_option maxHeartbeats 4000000 in
set_option maxRecDepth 100000 in
theorem X11_deleteRow_W {σ : gS} {l0 : Nat} {l1 : Int32} {σz : gS} {ls : Array Slot} (hC : gC E D A p R s m args meth c cX11_deleteRow 3 RX11 "deleteRow" 2 45) (hQ : gQV E D A p l e R s m args below meth c Q cX11_deleteRow σz) (hf : X11_deleteRow E l0 l1 σ = some σz) (hw : gW E D A s σ H locs) (hl : lv_has ls 3 [(0, .ref l0), (1, .int l1)]) : W p l e R s m args below meth c H locs cells slots Q (F0 m 0 ls []) := by
  have hC0 := hC
  obtain ⟨hx, hb, hml, hown, hts, -⟩ := hC0
  unfold X11_deleteRow at hf
  refine lv_iload_n hx hb dX11_deleteRow_0 rfl (lv_at hl 1 rfl) ?_
  refine lv_iconst (v := 1) hx hb dX11_deleteRow_1 (by decide) ?_
  refine lv_iadd hx hb dX11_deleteRow_2 ?_
  refine lv_istore_n (lv' := [(2, .int (l1 + (1 : Int32))), (0, .ref l0), (1, .int l1)]) hx hb dX11_deleteRow_3 rfl hl (by decide) rfl (fun ls hl => ?_)
  exact X11_deleteRow_4_W hC hQ (gN E) hf hw (lv_sub hl [1, 0] rfl)

def X11_deleteRow_f (E : gE) (l0 : Nat) (l1 : Int32) (σ : gS) : Option gS := X11_deleteRow E l0 l1 σ
set_option maxRecDepth 100000 in
theorem X11_deleteRow_M (l : Launch) (E : gE) (D : va_G) (A : Nat → Prop) {l0 : Nat} {l1 : Int32} {σ : gS} {σz : gS} (hf : X11_deleteRow_f E l0 l1 σ = some σz) : gCV l E D A yX11_deleteRow cX11_deleteRow 3 2 45 none [.ref l0, .int l1] σ σz := by
  refine gg_entV (own := RX11) (nm := "deleteRow") (by decide +kernel) rfl rfl (Nat.le_of_ble_eq_true rfl) rfl ?_
  intro p e R s m args below meth c Q ls hC hw hQ hl
  have hl : lv_has ls 3 [(0, .ref l0), (1, .int l1)] := hl
  exact X11_deleteRow_W hC hQ hf hw hl

def X11_reorder_2_s (E : gE) (r_2 : Nat → Nat → Int32 → gS → Option gS) (l0 : Nat) (l1 : Nat) (l2 : Int32) (σ : gS) : Option gS :=
  ob (gfI σ l0 9 1) fun x1 =>
  if x1 ≤ l2 then
    some σ
  else
    ob (gfR σ l0 9 0) fun x3 =>
    ob (graR E 4 σ x3 l2) fun x5 =>
    ob (gcl σ x5 0) fun _ =>
    ob (X1_reorder_f E x5 l1 σ) fun x7 =>
    r_2 l0 l1 (l2 + 1) x7
set_option maxHeartbeats 4000000 in
set_option maxRecDepth 100000 in
theorem X11_reorder_2_s_W {σ : gS} {l0 : Nat} {l1 : Nat} {l2 : Int32} {σz : gS} {ls : Array Slot} (hC : gC E D A p R s m args meth c cX11_reorder 3 RX11 "reorder" 5 123) (hQ : gQV E D A p l e R s m args below meth c Q cX11_reorder σz) {r_2 : Nat → Nat → Int32 → gS → Option gS} (h_2 : ∀ {l0 : Nat} {l1 : Nat} {l2 : Int32} {σ : gS} {H : Heap} {locs : List Loc} {cells slots : Nat} {ls : Array Slot}, r_2 l0 l1 l2 σ = some σz → gW E D A s σ H locs → lv_has ls 3 [(0, .ref l0), (1, .ref l1), (2, .int l2)] → W p l e R s m args below meth c H locs cells slots Q (F0 m 2 ls [])) (hf : X11_reorder_2_s E r_2 l0 l1 l2 σ = some σz) (hw : gW E D A s σ H locs) (hl : lv_has ls 3 [(0, .ref l0), (1, .ref l1), (2, .int l2)]) : W p l e R s m args below meth c H locs cells slots Q (F0 m 2 ls []) := by
  have hC0 := hC
  obtain ⟨hx, hb, hml, hown, hts, -⟩ := hC0
  unfold X11_reorder_2_s at hf
  refine lv_iload_n hx hb dX11_reorder_2 rfl (lv_at hl 2 rfl) ?_
  refine lv_aload_n hx hb dX11_reorder_3 rfl (lv_at hl 0 rfl) ?_
  obtain ⟨x1, h2, hf⟩ := ob_some hf
  refine rI_fl_X11_17 hC hw h2 dX11_reorder_4 ?_
  refine lv_icmp_ge (tgt := 26) hx hb dX11_reorder_7 (by decide) (fun c10 => ?_) (fun c10 => ?_)
  · replace hf := (if_pos c10).symm.trans hf
    cases hf
    exact hQ _ _ _ _ _ _ dX11_reorder_26 hw
  · replace hf := (if_neg c10).symm.trans hf
    refine lv_aload_n hx hb dX11_reorder_10 rfl (lv_at hl 0 rfl) ?_
    obtain ⟨x3, h4, hf⟩ := ob_some hf
    refine rR_fl_X11_11 hC hw h4 dX11_reorder_11 ?_
    refine lv_iload_n hx hb dX11_reorder_14 rfl (lv_at hl 2 rfl) ?_
    obtain ⟨x5, h6, hf⟩ := ob_some hf
    refine gg_aldR hC hw h6 rfl rfl dX11_reorder_15 ?_
    refine lv_aload_n hx hb dX11_reorder_16 rfl (lv_at hl 1 rfl) ?_
    obtain ⟨_, h9, hf⟩ := ob_some hf
    obtain ⟨x7, h8, hf⟩ := ob_some hf
    refine gg_cVV (As := [.ref l1]) hC hw (X1_reorder_M l E D A h8) h9 rfl g_ml_X11_67 hd_X1_reorder (Nat.le_of_ble_eq_true rfl) (Nat.le_of_ble_eq_true rfl) hl.1 rfl (Nat.le_of_ble_eq_true rfl) dX11_reorder_17 (fun H locs cells slots hw => ?_)
    refine lv_iinc (v := (l2 + 1)) (lv' := [(2, .int (l2 + 1)), (0, .ref l0), (1, .ref l1)]) hx hb dX11_reorder_20 hl (k := 2) rfl rfl (by decide) rfl (fun ls hl => ?_)
    refine lv_goto (tgt := 2) hx hb dX11_reorder_23 (by decide) ?_
    exact h_2 hf hw (lv_sub hl [1, 2, 0] rfl)
def X11_reorder_2 (E : gE) : Nat → Nat → Nat → Int32 → gS → Option gS
  | 0 => fun _ _ _ _ => none
  | n + 1 => X11_reorder_2_s E (X11_reorder_2 E n)
theorem X11_reorder_2_W {σz : gS} (hC : gC E D A p R s m args meth c cX11_reorder 3 RX11 "reorder" 5 123) (hQ : gQV E D A p l e R s m args below meth c Q cX11_reorder σz) : ∀ (n : Nat), ∀ {l0 : Nat} {l1 : Nat} {l2 : Int32} {σ : gS} {H : Heap} {locs : List Loc} {cells slots : Nat} {ls : Array Slot}, X11_reorder_2 E n l0 l1 l2 σ = some σz → gW E D A s σ H locs → lv_has ls 3 [(0, .ref l0), (1, .ref l1), (2, .int l2)] → W p l e R s m args below meth c H locs cells slots Q (F0 m 2 ls []) := by
  intro n
  induction n with
  | zero =>
    intros
    rename_i hf _ _
    exact absurd hf (fun h => by cases (show (none : Option gS) = some σz from h))
  | succ n ih =>
    intros
    rename_i hf hw hl
    exact X11_reorder_2_s_W hC hQ ih hf hw hl

def X11_reorder (E : gE) (l0 : Nat) (l1 : Nat) (σ : gS) : Option gS :=
  X11_reorder_2 E (gN E) l0 l1 (0 : Int32) σ
set_option maxHeartbeats 4000000 in
set_option maxRecDepth 100000 in
theorem X11_reorder_W {σ : gS} {l0 : Nat} {l1 : Nat} {σz : gS} {ls : Array Slot} (hC : gC E D A p R s m args meth c cX11_reorder 3 RX11 "reorder" 5 123) (hQ : gQV E D A p l e R s m args below meth c Q cX11_reorder σz) (hf : X11_reorder E l0 l1 σ = some σz) (hw : gW E D A s σ H locs) (hl : lv_has ls 3 [(0, .ref l0), (1, .ref l1)]) : W p l e R s m args below meth c H locs cells slots Q (F0 m 0 ls []) := by
  have hC0 := hC
  obtain ⟨hx, hb, hml, hown, hts, -⟩ := hC0
  unfold X11_reorder at hf
  refine lv_iconst (v := 0) hx hb dX11_reorder_0 (by decide) ?_
  refine lv_istore_n (lv' := [(2, .int (0 : Int32)), (0, .ref l0), (1, .ref l1)]) hx hb dX11_reorder_1 rfl hl (by decide) rfl (fun ls hl => ?_)
  exact X11_reorder_2_W hC hQ (gN E) hf hw (lv_sub hl [1, 2, 0] rfl)

def X11_reorder_f (E : gE) (l0 : Nat) (l1 : Nat) (σ : gS) : Option gS := X11_reorder E l0 l1 σ
set_option maxRecDepth 100000 in
theorem X11_reorder_M (l : Launch) (E : gE) (D : va_G) (A : Nat → Prop) {l0 : Nat} {l1 : Nat} {σ : gS} {σz : gS} (hf : X11_reorder_f E l0 l1 σ = some σz) : gCV l E D A yX11_reorder cX11_reorder 3 5 123 none [.ref l0, .ref l1] σ σz := by
  refine gg_entV (own := RX11) (nm := "reorder") (by decide +kernel) rfl rfl (Nat.le_of_ble_eq_true rfl) rfl ?_
  intro p e R s m args below meth c Q ls hC hw hQ hl
  have hl : lv_has ls 3 [(0, .ref l0), (1, .ref l1)] := hl
  exact X11_reorder_W hC hQ hf hw hl

def X11_fulfills (E : gE) (σ : gS) (l0 : Nat) (l1 : Int32) (l2 : Int32) : Option Int32 :=
  ob (gfR σ l0 9 2) fun x1 =>
  ob (gfR σ l0 9 0) fun x3 =>
  ob (gfR σ l0 9 2) fun x5 =>
  ob (gcl σ x5 3) fun _ =>
  ob (X4_columnOf_f E σ x5 l2) fun x7 =>
  ob (graR E 4 σ x3 x7) fun x10 =>
  ob (gcl σ x10 0) fun _ =>
  ob (X1_valueAt_f E σ x10 l1) fun x12 =>
  ob (gcl σ x1 3) fun _ =>
  ob (X4_allows_f E σ x1 l2 x12) fun x15 =>
  ob (gz x15) fun _ =>
  some x15
set_option maxHeartbeats 4000000 in
set_option maxRecDepth 100000 in
theorem X11_fulfills_W {σ : gS} {l0 : Nat} {l1 : Int32} {l2 : Int32} {res : Int32} {ls : Array Slot} (hC : gC E D A p R s m args meth c cX11_fulfills 3 RX11 "fulfills" 2 42) (hQ : gQI E D A p l e R s m args below meth c Q cX11_fulfills FieldType.boolean (res, σ)) (hf : X11_fulfills E σ l0 l1 l2 = some res) (hw : gW E D A s σ H locs) (hl : lv_has ls 3 [(0, .ref l0), (1, .int l1), (2, .int l2)]) : W p l e R s m args below meth c H locs cells slots Q (F0 m 0 ls []) := by
  have hC0 := hC
  obtain ⟨hx, hb, hml, hown, hts, -⟩ := hC0
  unfold X11_fulfills at hf
  refine lv_aload_n hx hb dX11_fulfills_0 rfl (lv_at hl 0 rfl) ?_
  obtain ⟨x1, h2, hf⟩ := ob_some hf
  refine rR_fl_X11_24 hC hw h2 dX11_fulfills_1 ?_
  refine lv_iload_n hx hb dX11_fulfills_4 rfl (lv_at hl 2 rfl) ?_
  refine lv_aload_n hx hb dX11_fulfills_5 rfl (lv_at hl 0 rfl) ?_
  obtain ⟨x3, h4, hf⟩ := ob_some hf
  refine rR_fl_X11_11 hC hw h4 dX11_fulfills_6 ?_
  refine lv_aload_n hx hb dX11_fulfills_9 rfl (lv_at hl 0 rfl) ?_
  obtain ⟨x5, h6, hf⟩ := ob_some hf
  refine rR_fl_X11_24 hC hw h6 dX11_fulfills_10 ?_
  refine lv_iload_n hx hb dX11_fulfills_13 rfl (lv_at hl 2 rfl) ?_
  obtain ⟨_, h9, hf⟩ := ob_some hf
  obtain ⟨x7, h8, hf⟩ := ob_some hf
  refine gg_cVI (As := [.int l2]) hC hw (X4_columnOf_M l E D A h8) h9 rfl g_ml_X11_71 hd_X4_columnOf (Nat.le_of_ble_eq_true rfl) (Nat.le_of_ble_eq_true rfl) hl.1 rfl (Nat.le_of_ble_eq_true rfl) dX11_fulfills_14 (fun H locs cells slots hw => ?_)
  obtain ⟨x10, h11, hf⟩ := ob_some hf
  refine gg_aldR hC hw h11 rfl rfl dX11_fulfills_17 ?_
  refine lv_iload_n hx hb dX11_fulfills_18 rfl (lv_at hl 1 rfl) ?_
  obtain ⟨_, h14, hf⟩ := ob_some hf
  obtain ⟨x12, h13, hf⟩ := ob_some hf
  refine gg_cVI (As := [.int l1]) hC hw (X1_valueAt_M l E D A h13) h14 rfl g_ml_X11_75 hd_X1_valueAt (Nat.le_of_ble_eq_true rfl) (Nat.le_of_ble_eq_true rfl) hl.1 rfl (Nat.le_of_ble_eq_true rfl) dX11_fulfills_19 (fun H locs cells slots hw => ?_)
  obtain ⟨_, h17, hf⟩ := ob_some hf
  obtain ⟨x15, h16, hf⟩ := ob_some hf
  refine gg_cVI (As := [.int l2, .int x12]) hC hw (X4_allows_M l E D A h16) h17 rfl g_ml_X11_78 hd_X4_allows (Nat.le_of_ble_eq_true rfl) (Nat.le_of_ble_eq_true rfl) hl.1 rfl (Nat.le_of_ble_eq_true rfl) dX11_fulfills_22 (fun H locs cells slots hw => ?_)
  obtain ⟨_, h18, hf⟩ := ob_some hf
  cases hf
  exact hQ _ _ _ _ _ _ dX11_fulfills_25 (gz_some h18) hw

def X11_fulfills_f (E : gE) (σ : gS) (l0 : Nat) (l1 : Int32) (l2 : Int32) : Option Int32 := X11_fulfills E σ l0 l1 l2
set_option maxRecDepth 100000 in
theorem X11_fulfills_M (l : Launch) (E : gE) (D : va_G) (A : Nat → Prop) {l0 : Nat} {l1 : Int32} {l2 : Int32} {σ : gS} {res : Int32} (hf : X11_fulfills_f E σ l0 l1 l2 = some res) : gCI l E D A yX11_fulfills cX11_fulfills 3 2 42 (some FieldType.boolean) [.ref l0, .int l1, .int l2] σ (res, σ) := by
  refine gg_entI (own := RX11) (nm := "fulfills") (ty := FieldType.boolean) (by decide +kernel) rfl rfl (Nat.le_of_ble_eq_true rfl) rfl ?_
  intro p e R s m args below meth c Q ls hC hw hQ hl
  have hl : lv_has ls 3 [(0, .ref l0), (1, .int l1), (2, .int l2)] := hl
  exact X11_fulfills_W hC hQ hf hw hl

def X11_rowsFulfilling_24 (E : gE) (σ : gS) (r_4 : Nat → Int32 → Int32 → Int32 → Option Int32) (l0 : Nat) (l1 : Int32) (l2 : Int32) (l3 : Int32) : Option Int32 :=
  r_4 l0 l1 l2 (l3 + 1)
set_option maxHeartbeats 4000000 in
set_option maxRecDepth 100000 in
theorem X11_rowsFulfilling_24_W {σ : gS} {l0 : Nat} {l1 : Int32} {l2 : Int32} {l3 : Int32} {res : Int32} {ls : Array Slot} (hC : gC E D A p R s m args meth c cX11_rowsFulfilling 4 RX11 "rowsFulfilling" 3 64) (hQ : gQI E D A p l e R s m args below meth c Q cX11_rowsFulfilling FieldType.int (res, σ)) {r_4 : Nat → Int32 → Int32 → Int32 → Option Int32} (h_4 : ∀ {l0 : Nat} {l1 : Int32} {l2 : Int32} {l3 : Int32} {H : Heap} {locs : List Loc} {cells slots : Nat} {ls : Array Slot}, r_4 l0 l1 l2 l3 = some res → gW E D A s σ H locs → lv_has ls 4 [(0, .ref l0), (1, .int l1), (2, .int l2), (3, .int l3)] → W p l e R s m args below meth c H locs cells slots Q (F0 m 4 ls [])) (hf : X11_rowsFulfilling_24 E σ r_4 l0 l1 l2 l3 = some res) (hw : gW E D A s σ H locs) (hl : lv_has ls 4 [(0, .ref l0), (1, .int l1), (2, .int l2), (3, .int l3)]) : W p l e R s m args below meth c H locs cells slots Q (F0 m 24 ls []) := by
  have hC0 := hC
  obtain ⟨hx, hb, hml, hown, hts, -⟩ := hC0
  unfold X11_rowsFulfilling_24 at hf
  refine lv_iinc (v := (l3 + 1)) (lv' := [(3, .int (l3 + 1)), (0, .ref l0), (1, .int l1), (2, .int l2)]) hx hb dX11_rowsFulfilling_24 hl (k := 3) rfl rfl (by decide) rfl (fun ls hl => ?_)
  refine lv_goto (tgt := 4) hx hb dX11_rowsFulfilling_27 (by decide) ?_
  exact h_4 hf hw (lv_sub hl [1, 2, 3, 0] rfl)

def X11_rowsFulfilling_4_s (E : gE) (σ : gS) (r_4 : Nat → Int32 → Int32 → Int32 → Option Int32) (l0 : Nat) (l1 : Int32) (l2 : Int32) (l3 : Int32) : Option Int32 :=
  ob (gcl σ l0 9) fun _ =>
  ob (X11_rows_f E σ l0) fun x1 =>
  if x1 ≤ l3 then
    some l2
  else
    ob (gcl σ l0 9) fun _ =>
    ob (X11_fulfills_f E σ l0 l3 l1) fun x4 =>
    if x4 = 0 then
      X11_rowsFulfilling_24 E σ r_4 l0 l1 l2 l3
    else
      X11_rowsFulfilling_24 E σ r_4 l0 l1 (l2 + 1) l3
set_option maxHeartbeats 4000000 in
set_option maxRecDepth 100000 in
theorem X11_rowsFulfilling_4_s_W {σ : gS} {l0 : Nat} {l1 : Int32} {l2 : Int32} {l3 : Int32} {res : Int32} {ls : Array Slot} (hC : gC E D A p R s m args meth c cX11_rowsFulfilling 4 RX11 "rowsFulfilling" 3 64) (hQ : gQI E D A p l e R s m args below meth c Q cX11_rowsFulfilling FieldType.int (res, σ)) {r_4 : Nat → Int32 → Int32 → Int32 → Option Int32} (h_4 : ∀ {l0 : Nat} {l1 : Int32} {l2 : Int32} {l3 : Int32} {H : Heap} {locs : List Loc} {cells slots : Nat} {ls : Array Slot}, r_4 l0 l1 l2 l3 = some res → gW E D A s σ H locs → lv_has ls 4 [(0, .ref l0), (1, .int l1), (2, .int l2), (3, .int l3)] → W p l e R s m args below meth c H locs cells slots Q (F0 m 4 ls [])) (hf : X11_rowsFulfilling_4_s E σ r_4 l0 l1 l2 l3 = some res) (hw : gW E D A s σ H locs) (hl : lv_has ls 4 [(0, .ref l0), (1, .int l1), (2, .int l2), (3, .int l3)]) : W p l e R s m args below meth c H locs cells slots Q (F0 m 4 ls []) := by
  have hC0 := hC
  obtain ⟨hx, hb, hml, hown, hts, -⟩ := hC0
  unfold X11_rowsFulfilling_4_s at hf
  refine lv_iload_n hx hb dX11_rowsFulfilling_4 rfl (lv_at hl 3 rfl) ?_
  refine lv_aload_n hx hb dX11_rowsFulfilling_5 rfl (lv_at hl 0 rfl) ?_
  obtain ⟨_, h3, hf⟩ := ob_some hf
  obtain ⟨x1, h2, hf⟩ := ob_some hf
  refine gg_cVI (As := []) hC hw (X11_rows_M l E D A h2) h3 rfl g_ml_X11_37 hd_X11_rows (Nat.le_of_ble_eq_true rfl) (Nat.le_of_ble_eq_true rfl) hl.1 rfl (Nat.le_of_ble_eq_true rfl) dX11_rowsFulfilling_6 (fun H locs cells slots hw => ?_)
  refine lv_icmp_ge (tgt := 30) hx hb dX11_rowsFulfilling_9 (by decide) (fun c8 => ?_) (fun c8 => ?_)
  · replace hf := (if_pos c8).symm.trans hf
    refine lv_iload_n hx hb dX11_rowsFulfilling_30 rfl (lv_at hl 2 rfl) ?_
    cases hf
    exact hQ _ _ _ _ _ _ dX11_rowsFulfilling_31 rfl hw
  · replace hf := (if_neg c8).symm.trans hf
    refine lv_aload_n hx hb dX11_rowsFulfilling_12 rfl (lv_at hl 0 rfl) ?_
    refine lv_iload_n hx hb dX11_rowsFulfilling_13 rfl (lv_at hl 3 rfl) ?_
    refine lv_iload_n hx hb dX11_rowsFulfilling_14 rfl (lv_at hl 1 rfl) ?_
    obtain ⟨_, h6, hf⟩ := ob_some hf
    obtain ⟨x4, h5, hf⟩ := ob_some hf
    refine gg_cVI (As := [.int l3, .int l1]) hC hw (X11_fulfills_M l E D A h5) h6 rfl g_ml_X11_82 hd_X11_fulfills (Nat.le_of_ble_eq_true rfl) (Nat.le_of_ble_eq_true rfl) hl.1 rfl (Nat.le_of_ble_eq_true rfl) dX11_rowsFulfilling_15 (fun H locs cells slots hw => ?_)
    refine lv_if_eq (tgt := 24) hx hb dX11_rowsFulfilling_18 (by decide) (fun c7 => ?_) (fun c7 => ?_)
    · replace hf := (if_pos c7).symm.trans hf
      exact X11_rowsFulfilling_24_W hC hQ h_4 hf hw (lv_sub hl [0, 1, 2, 3] rfl)
    · replace hf := (if_neg c7).symm.trans hf
      refine lv_iinc (v := (l2 + 1)) (lv' := [(2, .int (l2 + 1)), (0, .ref l0), (1, .int l1), (3, .int l3)]) hx hb dX11_rowsFulfilling_21 hl (k := 2) rfl rfl (by decide) rfl (fun ls hl => ?_)
      exact X11_rowsFulfilling_24_W hC hQ h_4 hf hw (lv_sub hl [1, 2, 0, 3] rfl)
def X11_rowsFulfilling_4 (E : gE) (σ : gS) : Nat → Nat → Int32 → Int32 → Int32 → Option Int32
  | 0 => fun _ _ _ _ => none
  | n + 1 => X11_rowsFulfilling_4_s E σ (X11_rowsFulfilling_4 E σ n)
theorem X11_rowsFulfilling_4_W {σ : gS} {res : Int32} (hC : gC E D A p R s m args meth c cX11_rowsFulfilling 4 RX11 "rowsFulfilling" 3 64) (hQ : gQI E D A p l e R s m args below meth c Q cX11_rowsFulfilling FieldType.int (res, σ)) : ∀ (n : Nat), ∀ {l0 : Nat} {l1 : Int32} {l2 : Int32} {l3 : Int32} {H : Heap} {locs : List Loc} {cells slots : Nat} {ls : Array Slot}, X11_rowsFulfilling_4 E σ n l0 l1 l2 l3 = some res → gW E D A s σ H locs → lv_has ls 4 [(0, .ref l0), (1, .int l1), (2, .int l2), (3, .int l3)] → W p l e R s m args below meth c H locs cells slots Q (F0 m 4 ls []) := by
  intro n
  induction n with
  | zero =>
    intros
    rename_i hf _ _
    exact absurd hf (fun h => by cases (show (none : Option Int32) = some res from h))
  | succ n ih =>
    intros
    rename_i hf hw hl
    exact X11_rowsFulfilling_4_s_W hC hQ ih hf hw hl

def X11_rowsFulfilling (E : gE) (σ : gS) (l0 : Nat) (l1 : Int32) : Option Int32 :=
  X11_rowsFulfilling_4 E σ (gN E) l0 l1 (0 : Int32) (0 : Int32)
set_option maxHeartbeats 4000000 in
set_option maxRecDepth 100000 in
theorem X11_rowsFulfilling_W {σ : gS} {l0 : Nat} {l1 : Int32} {res : Int32} {ls : Array Slot} (hC : gC E D A p R s m args meth c cX11_rowsFulfilling 4 RX11 "rowsFulfilling" 3 64) (hQ : gQI E D A p l e R s m args below meth c Q cX11_rowsFulfilling FieldType.int (res, σ)) (hf : X11_rowsFulfilling E σ l0 l1 = some res) (hw : gW E D A s σ H locs) (hl : lv_has ls 4 [(0, .ref l0), (1, .int l1)]) : W p l e R s m args below meth c H locs cells slots Q (F0 m 0 ls []) := by
  have hC0 := hC
  obtain ⟨hx, hb, hml, hown, hts, -⟩ := hC0
  unfold X11_rowsFulfilling at hf
  refine lv_iconst (v := 0) hx hb dX11_rowsFulfilling_0 (by decide) ?_
  refine lv_istore_n (lv' := [(2, .int (0 : Int32)), (0, .ref l0), (1, .int l1)]) hx hb dX11_rowsFulfilling_1 rfl hl (by decide) rfl (fun ls hl => ?_)
  refine lv_iconst (v := 0) hx hb dX11_rowsFulfilling_2 (by decide) ?_
  refine lv_istore_n (lv' := [(3, .int (0 : Int32)), (2, .int (0 : Int32)), (0, .ref l0), (1, .int l1)]) hx hb dX11_rowsFulfilling_3 rfl hl (by decide) rfl (fun ls hl => ?_)
  exact X11_rowsFulfilling_4_W hC hQ (gN E) hf hw (lv_sub hl [2, 3, 1, 0] rfl)

def X11_rowsFulfilling_f (E : gE) (σ : gS) (l0 : Nat) (l1 : Int32) : Option Int32 := X11_rowsFulfilling E σ l0 l1
set_option maxRecDepth 100000 in
theorem X11_rowsFulfilling_M (l : Launch) (E : gE) (D : va_G) (A : Nat → Prop) {l0 : Nat} {l1 : Int32} {σ : gS} {res : Int32} (hf : X11_rowsFulfilling_f E σ l0 l1 = some res) : gCI l E D A yX11_rowsFulfilling cX11_rowsFulfilling 4 3 64 (some FieldType.int) [.ref l0, .int l1] σ (res, σ) := by
  refine gg_entI (own := RX11) (nm := "rowsFulfilling") (ty := FieldType.int) (by decide +kernel) rfl rfl (Nat.le_of_ble_eq_true rfl) rfl ?_
  intro p e R s m args below meth c Q ls hC hw hQ hl
  have hl : lv_has ls 4 [(0, .ref l0), (1, .int l1)] := hl
  exact X11_rowsFulfilling_W hC hQ hf hw hl

def X11_firstRejecting_2_s (E : gE) (σ : gS) (r_2 : Nat → Int32 → Int32 → Option Int32) (l0 : Nat) (l1 : Int32) (l2 : Int32) : Option Int32 :=
  ob (gfR σ l0 9 2) fun x1 =>
  ob (gcl σ x1 3) fun _ =>
  ob (X4_size_f E σ x1) fun x3 =>
  if x3 ≤ l2 then
    some (-1 : Int32)
  else
    ob (gcl σ l0 9) fun _ =>
    ob (X11_fulfills_f E σ l0 l1 l2) fun x6 =>
    if x6 = 0 then
      some l2
    else
      r_2 l0 l1 (l2 + 1)
set_option maxHeartbeats 4000000 in
set_option maxRecDepth 100000 in
theorem X11_firstRejecting_2_s_W {σ : gS} {l0 : Nat} {l1 : Int32} {l2 : Int32} {res : Int32} {ls : Array Slot} (hC : gC E D A p R s m args meth c cX11_firstRejecting 3 RX11 "firstRejecting" 3 64) (hQ : gQI E D A p l e R s m args below meth c Q cX11_firstRejecting FieldType.int (res, σ)) {r_2 : Nat → Int32 → Int32 → Option Int32} (h_2 : ∀ {l0 : Nat} {l1 : Int32} {l2 : Int32} {H : Heap} {locs : List Loc} {cells slots : Nat} {ls : Array Slot}, r_2 l0 l1 l2 = some res → gW E D A s σ H locs → lv_has ls 3 [(0, .ref l0), (1, .int l1), (2, .int l2)] → W p l e R s m args below meth c H locs cells slots Q (F0 m 2 ls [])) (hf : X11_firstRejecting_2_s E σ r_2 l0 l1 l2 = some res) (hw : gW E D A s σ H locs) (hl : lv_has ls 3 [(0, .ref l0), (1, .int l1), (2, .int l2)]) : W p l e R s m args below meth c H locs cells slots Q (F0 m 2 ls []) := by
  have hC0 := hC
  obtain ⟨hx, hb, hml, hown, hts, -⟩ := hC0
  unfold X11_firstRejecting_2_s at hf
  refine lv_iload_n hx hb dX11_firstRejecting_2 rfl (lv_at hl 2 rfl) ?_
  refine lv_aload_n hx hb dX11_firstRejecting_3 rfl (lv_at hl 0 rfl) ?_
  obtain ⟨x1, h2, hf⟩ := ob_some hf
  refine rR_fl_X11_24 hC hw h2 dX11_firstRejecting_4 ?_
  obtain ⟨_, h5, hf⟩ := ob_some hf
  obtain ⟨x3, h4, hf⟩ := ob_some hf
  refine gg_cVI (As := []) hC hw (X4_size_M l E D A h4) h5 rfl g_ml_X11_85 hd_X4_size (Nat.le_of_ble_eq_true rfl) (Nat.le_of_ble_eq_true rfl) hl.1 rfl (Nat.le_of_ble_eq_true rfl) dX11_firstRejecting_7 (fun H locs cells slots hw => ?_)
  refine lv_icmp_ge (tgt := 30) hx hb dX11_firstRejecting_10 (by decide) (fun c10 => ?_) (fun c10 => ?_)
  · replace hf := (if_pos c10).symm.trans hf
    refine lv_iconst (v := -1) hx hb dX11_firstRejecting_30 (by decide) ?_
    cases hf
    exact hQ _ _ _ _ _ _ dX11_firstRejecting_31 rfl hw
  · replace hf := (if_neg c10).symm.trans hf
    refine lv_aload_n hx hb dX11_firstRejecting_13 rfl (lv_at hl 0 rfl) ?_
    refine lv_iload_n hx hb dX11_firstRejecting_14 rfl (lv_at hl 1 rfl) ?_
    refine lv_iload_n hx hb dX11_firstRejecting_15 rfl (lv_at hl 2 rfl) ?_
    obtain ⟨_, h8, hf⟩ := ob_some hf
    obtain ⟨x6, h7, hf⟩ := ob_some hf
    refine gg_cVI (As := [.int l1, .int l2]) hC hw (X11_fulfills_M l E D A h7) h8 rfl g_ml_X11_82 hd_X11_fulfills (Nat.le_of_ble_eq_true rfl) (Nat.le_of_ble_eq_true rfl) hl.1 rfl (Nat.le_of_ble_eq_true rfl) dX11_firstRejecting_16 (fun H locs cells slots hw => ?_)
    refine lv_if_ne (tgt := 24) hx hb dX11_firstRejecting_19 (by decide) (fun c9 => ?_) (fun c9 => ?_)
    · replace hf := (if_neg c9).symm.trans hf
      refine lv_iinc (v := (l2 + 1)) (lv' := [(2, .int (l2 + 1)), (0, .ref l0), (1, .int l1)]) hx hb dX11_firstRejecting_24 hl (k := 2) rfl rfl (by decide) rfl (fun ls hl => ?_)
      refine lv_goto (tgt := 2) hx hb dX11_firstRejecting_27 (by decide) ?_
      exact h_2 hf hw (lv_sub hl [1, 2, 0] rfl)
    · replace hf := (if_pos c9).symm.trans hf
      refine lv_iload_n hx hb dX11_firstRejecting_22 rfl (lv_at hl 2 rfl) ?_
      cases hf
      exact hQ _ _ _ _ _ _ dX11_firstRejecting_23 rfl hw
def X11_firstRejecting_2 (E : gE) (σ : gS) : Nat → Nat → Int32 → Int32 → Option Int32
  | 0 => fun _ _ _ => none
  | n + 1 => X11_firstRejecting_2_s E σ (X11_firstRejecting_2 E σ n)
theorem X11_firstRejecting_2_W {σ : gS} {res : Int32} (hC : gC E D A p R s m args meth c cX11_firstRejecting 3 RX11 "firstRejecting" 3 64) (hQ : gQI E D A p l e R s m args below meth c Q cX11_firstRejecting FieldType.int (res, σ)) : ∀ (n : Nat), ∀ {l0 : Nat} {l1 : Int32} {l2 : Int32} {H : Heap} {locs : List Loc} {cells slots : Nat} {ls : Array Slot}, X11_firstRejecting_2 E σ n l0 l1 l2 = some res → gW E D A s σ H locs → lv_has ls 3 [(0, .ref l0), (1, .int l1), (2, .int l2)] → W p l e R s m args below meth c H locs cells slots Q (F0 m 2 ls []) := by
  intro n
  induction n with
  | zero =>
    intros
    rename_i hf _ _
    exact absurd hf (fun h => by cases (show (none : Option Int32) = some res from h))
  | succ n ih =>
    intros
    rename_i hf hw hl
    exact X11_firstRejecting_2_s_W hC hQ ih hf hw hl

def X11_firstRejecting (E : gE) (σ : gS) (l0 : Nat) (l1 : Int32) : Option Int32 :=
  X11_firstRejecting_2 E σ (gN E) l0 l1 (0 : Int32)
set_option maxHeartbeats 4000000 in
set_option maxRecDepth 100000 in
theorem X11_firstRejecting_W {σ : gS} {l0 : Nat} {l1 : Int32} {res : Int32} {ls : Array Slot} (hC : gC E D A p R s m args meth c cX11_firstRejecting 3 RX11 "firstRejecting" 3 64) (hQ : gQI E D A p l e R s m args below meth c Q cX11_firstRejecting FieldType.int (res, σ)) (hf : X11_firstRejecting E σ l0 l1 = some res) (hw : gW E D A s σ H locs) (hl : lv_has ls 3 [(0, .ref l0), (1, .int l1)]) : W p l e R s m args below meth c H locs cells slots Q (F0 m 0 ls []) := by
  have hC0 := hC
  obtain ⟨hx, hb, hml, hown, hts, -⟩ := hC0
  unfold X11_firstRejecting at hf
  refine lv_iconst (v := 0) hx hb dX11_firstRejecting_0 (by decide) ?_
  refine lv_istore_n (lv' := [(2, .int (0 : Int32)), (0, .ref l0), (1, .int l1)]) hx hb dX11_firstRejecting_1 rfl hl (by decide) rfl (fun ls hl => ?_)
  exact X11_firstRejecting_2_W hC hQ (gN E) hf hw (lv_sub hl [1, 2, 0] rfl)

def X11_firstRejecting_f (E : gE) (σ : gS) (l0 : Nat) (l1 : Int32) : Option Int32 := X11_firstRejecting E σ l0 l1
set_option maxRecDepth 100000 in
theorem X11_firstRejecting_M (l : Launch) (E : gE) (D : va_G) (A : Nat → Prop) {l0 : Nat} {l1 : Int32} {σ : gS} {res : Int32} (hf : X11_firstRejecting_f E σ l0 l1 = some res) : gCI l E D A yX11_firstRejecting cX11_firstRejecting 3 3 64 (some FieldType.int) [.ref l0, .int l1] σ (res, σ) := by
  refine gg_entI (own := RX11) (nm := "firstRejecting") (ty := FieldType.int) (by decide +kernel) rfl rfl (Nat.le_of_ble_eq_true rfl) rfl ?_
  intro p e R s m args below meth c Q ls hC hw hQ hl
  have hl : lv_has ls 3 [(0, .ref l0), (1, .int l1)] := hl
  exact X11_firstRejecting_W hC hQ hf hw hl

def X11_selects (E : gE) (σ : gS) (l0 : Nat) (l1 : Int32) : Option Int32 :=
  ob (gcl σ l0 9) fun _ =>
  ob (X11_firstRejecting_f E σ l0 l1) fun x1 =>
  if 0 ≤ x1 then
    some (0 : Int32)
  else
    some (1 : Int32)
set_option maxHeartbeats 4000000 in
set_option maxRecDepth 100000 in
theorem X11_selects_W {σ : gS} {l0 : Nat} {l1 : Int32} {res : Int32} {ls : Array Slot} (hC : gC E D A p R s m args meth c cX11_selects 2 RX11 "selects" 4 86) (hQ : gQI E D A p l e R s m args below meth c Q cX11_selects FieldType.boolean (res, σ)) (hf : X11_selects E σ l0 l1 = some res) (hw : gW E D A s σ H locs) (hl : lv_has ls 2 [(0, .ref l0), (1, .int l1)]) : W p l e R s m args below meth c H locs cells slots Q (F0 m 0 ls []) := by
  have hC0 := hC
  obtain ⟨hx, hb, hml, hown, hts, -⟩ := hC0
  unfold X11_selects at hf
  refine lv_aload_n hx hb dX11_selects_0 rfl (lv_at hl 0 rfl) ?_
  refine lv_iload_n hx hb dX11_selects_1 rfl (lv_at hl 1 rfl) ?_
  obtain ⟨_, h3, hf⟩ := ob_some hf
  obtain ⟨x1, h2, hf⟩ := ob_some hf
  refine gg_cVI (As := [.int l1]) hC hw (X11_firstRejecting_M l E D A h2) h3 rfl g_ml_X11_88 hd_X11_firstRejecting (Nat.le_of_ble_eq_true rfl) (Nat.le_of_ble_eq_true rfl) hl.1 rfl (Nat.le_of_ble_eq_true rfl) dX11_selects_2 (fun H locs cells slots hw => ?_)
  refine lv_if_ge (tgt := 12) hx hb dX11_selects_5 (by decide) (fun c4 => ?_) (fun c4 => ?_)
  · replace hf := (if_pos c4).symm.trans hf
    refine lv_iconst (v := 0) hx hb dX11_selects_12 (by decide) ?_
    cases hf
    exact hQ _ _ _ _ _ _ dX11_selects_13 gz0 hw
  · replace hf := (if_neg c4).symm.trans hf
    refine lv_iconst (v := 1) hx hb dX11_selects_8 (by decide) ?_
    refine lv_goto (tgt := 13) hx hb dX11_selects_9 (by decide) ?_
    cases hf
    exact hQ _ _ _ _ _ _ dX11_selects_13 gz1 hw

def X11_selects_f (E : gE) (σ : gS) (l0 : Nat) (l1 : Int32) : Option Int32 := X11_selects E σ l0 l1
set_option maxRecDepth 100000 in
theorem X11_selects_M (l : Launch) (E : gE) (D : va_G) (A : Nat → Prop) {l0 : Nat} {l1 : Int32} {σ : gS} {res : Int32} (hf : X11_selects_f E σ l0 l1 = some res) : gCI l E D A yX11_selects cX11_selects 2 4 86 (some FieldType.boolean) [.ref l0, .int l1] σ (res, σ) := by
  refine gg_entI (own := RX11) (nm := "selects") (ty := FieldType.boolean) (by decide +kernel) rfl rfl (Nat.le_of_ble_eq_true rfl) rfl ?_
  intro p e R s m args below meth c Q ls hC hw hQ hl
  have hl : lv_has ls 2 [(0, .ref l0), (1, .int l1)] := hl
  exact X11_selects_W hC hQ hf hw hl

def X11_selectedRows_23 (E : gE) (σ : gS) (r_4 : Nat → Int32 → Int32 → Option Int32) (l0 : Nat) (l1 : Int32) (l2 : Int32) : Option Int32 :=
  r_4 l0 l1 (l2 + 1)
set_option maxHeartbeats 4000000 in
set_option maxRecDepth 100000 in
theorem X11_selectedRows_23_W {σ : gS} {l0 : Nat} {l1 : Int32} {l2 : Int32} {res : Int32} {ls : Array Slot} (hC : gC E D A p R s m args meth c cX11_selectedRows 3 RX11 "selectedRows" 5 107) (hQ : gQI E D A p l e R s m args below meth c Q cX11_selectedRows FieldType.int (res, σ)) {r_4 : Nat → Int32 → Int32 → Option Int32} (h_4 : ∀ {l0 : Nat} {l1 : Int32} {l2 : Int32} {H : Heap} {locs : List Loc} {cells slots : Nat} {ls : Array Slot}, r_4 l0 l1 l2 = some res → gW E D A s σ H locs → lv_has ls 3 [(0, .ref l0), (1, .int l1), (2, .int l2)] → W p l e R s m args below meth c H locs cells slots Q (F0 m 4 ls [])) (hf : X11_selectedRows_23 E σ r_4 l0 l1 l2 = some res) (hw : gW E D A s σ H locs) (hl : lv_has ls 3 [(0, .ref l0), (1, .int l1), (2, .int l2)]) : W p l e R s m args below meth c H locs cells slots Q (F0 m 23 ls []) := by
  have hC0 := hC
  obtain ⟨hx, hb, hml, hown, hts, -⟩ := hC0
  unfold X11_selectedRows_23 at hf
  refine lv_iinc (v := (l2 + 1)) (lv' := [(2, .int (l2 + 1)), (0, .ref l0), (1, .int l1)]) hx hb dX11_selectedRows_23 hl (k := 2) rfl rfl (by decide) rfl (fun ls hl => ?_)
  refine lv_goto (tgt := 4) hx hb dX11_selectedRows_26 (by decide) ?_
  exact h_4 hf hw (lv_sub hl [1, 2, 0] rfl)

def X11_selectedRows_4_s (E : gE) (σ : gS) (r_4 : Nat → Int32 → Int32 → Option Int32) (l0 : Nat) (l1 : Int32) (l2 : Int32) : Option Int32 :=
  ob (gcl σ l0 9) fun _ =>
  ob (X11_rows_f E σ l0) fun x1 =>
  if x1 ≤ l2 then
    some l1
  else
    ob (gcl σ l0 9) fun _ =>
    ob (X11_selects_f E σ l0 l2) fun x4 =>
    if x4 = 0 then
      X11_selectedRows_23 E σ r_4 l0 l1 l2
    else
      X11_selectedRows_23 E σ r_4 l0 (l1 + 1) l2
set_option maxHeartbeats 4000000 in
set_option maxRecDepth 100000 in
theorem X11_selectedRows_4_s_W {σ : gS} {l0 : Nat} {l1 : Int32} {l2 : Int32} {res : Int32} {ls : Array Slot} (hC : gC E D A p R s m args meth c cX11_selectedRows 3 RX11 "selectedRows" 5 107) (hQ : gQI E D A p l e R s m args below meth c Q cX11_selectedRows FieldType.int (res, σ)) {r_4 : Nat → Int32 → Int32 → Option Int32} (h_4 : ∀ {l0 : Nat} {l1 : Int32} {l2 : Int32} {H : Heap} {locs : List Loc} {cells slots : Nat} {ls : Array Slot}, r_4 l0 l1 l2 = some res → gW E D A s σ H locs → lv_has ls 3 [(0, .ref l0), (1, .int l1), (2, .int l2)] → W p l e R s m args below meth c H locs cells slots Q (F0 m 4 ls [])) (hf : X11_selectedRows_4_s E σ r_4 l0 l1 l2 = some res) (hw : gW E D A s σ H locs) (hl : lv_has ls 3 [(0, .ref l0), (1, .int l1), (2, .int l2)]) : W p l e R s m args below meth c H locs cells slots Q (F0 m 4 ls []) := by
  have hC0 := hC
  obtain ⟨hx, hb, hml, hown, hts, -⟩ := hC0
  unfold X11_selectedRows_4_s at hf
  refine lv_iload_n hx hb dX11_selectedRows_4 rfl (lv_at hl 2 rfl) ?_
  refine lv_aload_n hx hb dX11_selectedRows_5 rfl (lv_at hl 0 rfl) ?_
  obtain ⟨_, h3, hf⟩ := ob_some hf
  obtain ⟨x1, h2, hf⟩ := ob_some hf
  refine gg_cVI (As := []) hC hw (X11_rows_M l E D A h2) h3 rfl g_ml_X11_37 hd_X11_rows (Nat.le_of_ble_eq_true rfl) (Nat.le_of_ble_eq_true rfl) hl.1 rfl (Nat.le_of_ble_eq_true rfl) dX11_selectedRows_6 (fun H locs cells slots hw => ?_)
  refine lv_icmp_ge (tgt := 29) hx hb dX11_selectedRows_9 (by decide) (fun c8 => ?_) (fun c8 => ?_)
  · replace hf := (if_pos c8).symm.trans hf
    refine lv_iload_n hx hb dX11_selectedRows_29 rfl (lv_at hl 1 rfl) ?_
    cases hf
    exact hQ _ _ _ _ _ _ dX11_selectedRows_30 rfl hw
  · replace hf := (if_neg c8).symm.trans hf
    refine lv_aload_n hx hb dX11_selectedRows_12 rfl (lv_at hl 0 rfl) ?_
    refine lv_iload_n hx hb dX11_selectedRows_13 rfl (lv_at hl 2 rfl) ?_
    obtain ⟨_, h6, hf⟩ := ob_some hf
    obtain ⟨x4, h5, hf⟩ := ob_some hf
    refine gg_cVI (As := [.int l2]) hC hw (X11_selects_M l E D A h5) h6 rfl g_ml_X11_59 hd_X11_selects (Nat.le_of_ble_eq_true rfl) (Nat.le_of_ble_eq_true rfl) hl.1 rfl (Nat.le_of_ble_eq_true rfl) dX11_selectedRows_14 (fun H locs cells slots hw => ?_)
    refine lv_if_eq (tgt := 23) hx hb dX11_selectedRows_17 (by decide) (fun c7 => ?_) (fun c7 => ?_)
    · replace hf := (if_pos c7).symm.trans hf
      exact X11_selectedRows_23_W hC hQ h_4 hf hw (lv_sub hl [0, 1, 2] rfl)
    · replace hf := (if_neg c7).symm.trans hf
      refine lv_iinc (v := (l1 + 1)) (lv' := [(1, .int (l1 + 1)), (0, .ref l0), (2, .int l2)]) hx hb dX11_selectedRows_20 hl (k := 1) rfl rfl (by decide) rfl (fun ls hl => ?_)
      exact X11_selectedRows_23_W hC hQ h_4 hf hw (lv_sub hl [1, 0, 2] rfl)
def X11_selectedRows_4 (E : gE) (σ : gS) : Nat → Nat → Int32 → Int32 → Option Int32
  | 0 => fun _ _ _ => none
  | n + 1 => X11_selectedRows_4_s E σ (X11_selectedRows_4 E σ n)
theorem X11_selectedRows_4_W {σ : gS} {res : Int32} (hC : gC E D A p R s m args meth c cX11_selectedRows 3 RX11 "selectedRows" 5 107) (hQ : gQI E D A p l e R s m args below meth c Q cX11_selectedRows FieldType.int (res, σ)) : ∀ (n : Nat), ∀ {l0 : Nat} {l1 : Int32} {l2 : Int32} {H : Heap} {locs : List Loc} {cells slots : Nat} {ls : Array Slot}, X11_selectedRows_4 E σ n l0 l1 l2 = some res → gW E D A s σ H locs → lv_has ls 3 [(0, .ref l0), (1, .int l1), (2, .int l2)] → W p l e R s m args below meth c H locs cells slots Q (F0 m 4 ls []) := by
  intro n
  induction n with
  | zero =>
    intros
    rename_i hf _ _
    exact absurd hf (fun h => by cases (show (none : Option Int32) = some res from h))
  | succ n ih =>
    intros
    rename_i hf hw hl
    exact X11_selectedRows_4_s_W hC hQ ih hf hw hl

def X11_selectedRows (E : gE) (σ : gS) (l0 : Nat) : Option Int32 :=
  X11_selectedRows_4 E σ (gN E) l0 (0 : Int32) (0 : Int32)
set_option maxHeartbeats 4000000 in
set_option maxRecDepth 100000 in
theorem X11_selectedRows_W {σ : gS} {l0 : Nat} {res : Int32} {ls : Array Slot} (hC : gC E D A p R s m args meth c cX11_selectedRows 3 RX11 "selectedRows" 5 107) (hQ : gQI E D A p l e R s m args below meth c Q cX11_selectedRows FieldType.int (res, σ)) (hf : X11_selectedRows E σ l0 = some res) (hw : gW E D A s σ H locs) (hl : lv_has ls 3 [(0, .ref l0)]) : W p l e R s m args below meth c H locs cells slots Q (F0 m 0 ls []) := by
  have hC0 := hC
  obtain ⟨hx, hb, hml, hown, hts, -⟩ := hC0
  unfold X11_selectedRows at hf
  refine lv_iconst (v := 0) hx hb dX11_selectedRows_0 (by decide) ?_
  refine lv_istore_n (lv' := [(1, .int (0 : Int32)), (0, .ref l0)]) hx hb dX11_selectedRows_1 rfl hl (by decide) rfl (fun ls hl => ?_)
  refine lv_iconst (v := 0) hx hb dX11_selectedRows_2 (by decide) ?_
  refine lv_istore_n (lv' := [(2, .int (0 : Int32)), (1, .int (0 : Int32)), (0, .ref l0)]) hx hb dX11_selectedRows_3 rfl hl (by decide) rfl (fun ls hl => ?_)
  exact X11_selectedRows_4_W hC hQ (gN E) hf hw (lv_sub hl [2, 1, 0] rfl)

def X11_selectedRows_f (E : gE) (σ : gS) (l0 : Nat) : Option Int32 := X11_selectedRows E σ l0
set_option maxRecDepth 100000 in
theorem X11_selectedRows_M (l : Launch) (E : gE) (D : va_G) (A : Nat → Prop) {l0 : Nat} {σ : gS} {res : Int32} (hf : X11_selectedRows_f E σ l0 = some res) : gCI l E D A yX11_selectedRows cX11_selectedRows 3 5 107 (some FieldType.int) [.ref l0] σ (res, σ) := by
  refine gg_entI (own := RX11) (nm := "selectedRows") (ty := FieldType.int) (by decide +kernel) rfl rfl (Nat.le_of_ble_eq_true rfl) rfl ?_
  intro p e R s m args below meth c Q ls hC hw hQ hl
  have hl : lv_has ls 3 [(0, .ref l0)] := hl
  exact X11_selectedRows_W hC hQ hf hw hl

def X11_selectsByCode_49 (E : gE) (σ : gS) : Option Int32 :=
  some (0 : Int32)
set_option maxHeartbeats 4000000 in
set_option maxRecDepth 100000 in
theorem X11_selectsByCode_49_W {σ : gS} {res : Int32} {ls : Array Slot} (hC : gC E D A p R s m args meth c cX11_selectsByCode 4 RX11 "selectsByCode" 3 67) (hQ : gQI E D A p l e R s m args below meth c Q cX11_selectsByCode FieldType.boolean (res, σ)) (hf : X11_selectsByCode_49 E σ = some res) (hw : gW E D A s σ H locs) (hl : lv_has ls 4 []) : W p l e R s m args below meth c H locs cells slots Q (F0 m 49 ls []) := by
  have hC0 := hC
  obtain ⟨hx, hb, hml, hown, hts, -⟩ := hC0
  unfold X11_selectsByCode_49 at hf
  refine lv_iconst (v := 0) hx hb dX11_selectsByCode_49 (by decide) ?_
  cases hf
  exact hQ _ _ _ _ _ _ dX11_selectsByCode_50 gz0 hw

def X11_selectsByCode_2_s (E : gE) (σ : gS) (r_2 : Nat → Int32 → Int32 → Option Int32) (l0 : Nat) (l1 : Int32) (l2 : Int32) : Option Int32 :=
  ob (gfR σ l0 9 2) fun x1 =>
  ob (gcl σ x1 3) fun _ =>
  ob (X4_size_f E σ x1) fun x3 =>
  if x3 ≤ l2 then
    some (1 : Int32)
  else
    ob (gfR σ l0 9 0) fun x6 =>
    ob (gfR σ l0 9 2) fun x8 =>
    ob (gcl σ x8 3) fun _ =>
    ob (X4_columnOf_f E σ x8 l2) fun x10 =>
    ob (graR E 4 σ x6 x10) fun x13 =>
    ob (gcl σ x13 0) fun _ =>
    ob (X1_codeAt_f E σ x13 l1) fun x15 =>
    ob (gcl σ l0 9) fun _ =>
    ob (X11_lowerEnd_f E σ l0 l2) fun x18 =>
    if x15 < x18 then
      X11_selectsByCode_49 E σ
    else
      ob (gcl σ l0 9) fun _ =>
      ob (X11_upperEnd_f E σ l0 l2) fun x21 =>
      if x15 < x21 then
        r_2 l0 l1 (l2 + 1)
      else
        X11_selectsByCode_49 E σ
set_option maxHeartbeats 4000000 in
set_option maxRecDepth 100000 in
theorem X11_selectsByCode_2_s_W {σ : gS} {l0 : Nat} {l1 : Int32} {l2 : Int32} {res : Int32} {ls : Array Slot} (hC : gC E D A p R s m args meth c cX11_selectsByCode 4 RX11 "selectsByCode" 3 67) (hQ : gQI E D A p l e R s m args below meth c Q cX11_selectsByCode FieldType.boolean (res, σ)) {r_2 : Nat → Int32 → Int32 → Option Int32} (h_2 : ∀ {l0 : Nat} {l1 : Int32} {l2 : Int32} {H : Heap} {locs : List Loc} {cells slots : Nat} {ls : Array Slot}, r_2 l0 l1 l2 = some res → gW E D A s σ H locs → lv_has ls 4 [(0, .ref l0), (1, .int l1), (2, .int l2)] → W p l e R s m args below meth c H locs cells slots Q (F0 m 2 ls [])) (hf : X11_selectsByCode_2_s E σ r_2 l0 l1 l2 = some res) (hw : gW E D A s σ H locs) (hl : lv_has ls 4 [(0, .ref l0), (1, .int l1), (2, .int l2)]) : W p l e R s m args below meth c H locs cells slots Q (F0 m 2 ls []) := by
  have hC0 := hC
  obtain ⟨hx, hb, hml, hown, hts, -⟩ := hC0
  unfold X11_selectsByCode_2_s at hf
  refine lv_iload_n hx hb dX11_selectsByCode_2 rfl (lv_at hl 2 rfl) ?_
  refine lv_aload_n hx hb dX11_selectsByCode_3 rfl (lv_at hl 0 rfl) ?_
  obtain ⟨x1, h2, hf⟩ := ob_some hf
  refine rR_fl_X11_24 hC hw h2 dX11_selectsByCode_4 ?_
  obtain ⟨_, h5, hf⟩ := ob_some hf
  obtain ⟨x3, h4, hf⟩ := ob_some hf
  refine gg_cVI (As := []) hC hw (X4_size_M l E D A h4) h5 rfl g_ml_X11_85 hd_X4_size (Nat.le_of_ble_eq_true rfl) (Nat.le_of_ble_eq_true rfl) hl.1 rfl (Nat.le_of_ble_eq_true rfl) dX11_selectsByCode_7 (fun H locs cells slots hw => ?_)
  refine lv_icmp_ge (tgt := 57) hx hb dX11_selectsByCode_10 (by decide) (fun c26 => ?_) (fun c26 => ?_)
  · replace hf := (if_pos c26).symm.trans hf
    refine lv_iconst (v := 1) hx hb dX11_selectsByCode_57 (by decide) ?_
    cases hf
    exact hQ _ _ _ _ _ _ dX11_selectsByCode_58 gz1 hw
  · replace hf := (if_neg c26).symm.trans hf
    refine lv_aload_n hx hb dX11_selectsByCode_13 rfl (lv_at hl 0 rfl) ?_
    obtain ⟨x6, h7, hf⟩ := ob_some hf
    refine rR_fl_X11_11 hC hw h7 dX11_selectsByCode_14 ?_
    refine lv_aload_n hx hb dX11_selectsByCode_17 rfl (lv_at hl 0 rfl) ?_
    obtain ⟨x8, h9, hf⟩ := ob_some hf
    refine rR_fl_X11_24 hC hw h9 dX11_selectsByCode_18 ?_
    refine lv_iload_n hx hb dX11_selectsByCode_21 rfl (lv_at hl 2 rfl) ?_
    obtain ⟨_, h12, hf⟩ := ob_some hf
    obtain ⟨x10, h11, hf⟩ := ob_some hf
    refine gg_cVI (As := [.int l2]) hC hw (X4_columnOf_M l E D A h11) h12 rfl g_ml_X11_71 hd_X4_columnOf (Nat.le_of_ble_eq_true rfl) (Nat.le_of_ble_eq_true rfl) hl.1 rfl (Nat.le_of_ble_eq_true rfl) dX11_selectsByCode_22 (fun H locs cells slots hw => ?_)
    obtain ⟨x13, h14, hf⟩ := ob_some hf
    refine gg_aldR hC hw h14 rfl rfl dX11_selectsByCode_25 ?_
    refine lv_iload_n hx hb dX11_selectsByCode_26 rfl (lv_at hl 1 rfl) ?_
    obtain ⟨_, h17, hf⟩ := ob_some hf
    obtain ⟨x15, h16, hf⟩ := ob_some hf
    refine gg_cVI (As := [.int l1]) hC hw (X1_codeAt_M l E D A h16) h17 rfl g_ml_X11_106 hd_X1_codeAt (Nat.le_of_ble_eq_true rfl) (Nat.le_of_ble_eq_true rfl) hl.1 rfl (Nat.le_of_ble_eq_true rfl) dX11_selectsByCode_27 (fun H locs cells slots hw => ?_)
    refine lv_istore_n (lv' := [(3, .int x15), (0, .ref l0), (1, .int l1), (2, .int l2)]) hx hb dX11_selectsByCode_30 rfl hl (by decide) rfl (fun ls hl => ?_)
    refine lv_iload_n hx hb dX11_selectsByCode_31 rfl (lv_at hl 0 rfl) ?_
    refine lv_aload_n hx hb dX11_selectsByCode_32 rfl (lv_at hl 1 rfl) ?_
    refine lv_iload_n hx hb dX11_selectsByCode_33 rfl (lv_at hl 3 rfl) ?_
    obtain ⟨_, h20, hf⟩ := ob_some hf
    obtain ⟨x18, h19, hf⟩ := ob_some hf
    refine gg_cVI (As := [.int l2]) hC hw (X11_lowerEnd_M l E D A h19) h20 rfl g_ml_X11_109 hd_X11_lowerEnd (Nat.le_of_ble_eq_true rfl) (Nat.le_of_ble_eq_true rfl) hl.1 rfl (Nat.le_of_ble_eq_true rfl) dX11_selectsByCode_34 (fun H locs cells slots hw => ?_)
    refine lv_icmp_lt (tgt := 49) hx hb dX11_selectsByCode_37 (by decide) (fun c25 => ?_) (fun c25 => ?_)
    · replace hf := (if_pos c25).symm.trans hf
      exact X11_selectsByCode_49_W hC hQ hf hw (lv_sub hl [] rfl)
    · replace hf := (if_neg c25).symm.trans hf
      refine lv_iload_n hx hb dX11_selectsByCode_40 rfl (lv_at hl 0 rfl) ?_
      refine lv_aload_n hx hb dX11_selectsByCode_41 rfl (lv_at hl 1 rfl) ?_
      refine lv_iload_n hx hb dX11_selectsByCode_42 rfl (lv_at hl 3 rfl) ?_
      obtain ⟨_, h23, hf⟩ := ob_some hf
      obtain ⟨x21, h22, hf⟩ := ob_some hf
      refine gg_cVI (As := [.int l2]) hC hw (X11_upperEnd_M l E D A h22) h23 rfl g_ml_X11_112 hd_X11_upperEnd (Nat.le_of_ble_eq_true rfl) (Nat.le_of_ble_eq_true rfl) hl.1 rfl (Nat.le_of_ble_eq_true rfl) dX11_selectsByCode_43 (fun H locs cells slots hw => ?_)
      refine lv_icmp_lt (tgt := 51) hx hb dX11_selectsByCode_46 (by decide) (fun c24 => ?_) (fun c24 => ?_)
      · replace hf := (if_pos c24).symm.trans hf
        refine lv_iinc (v := (l2 + 1)) (lv' := [(2, .int (l2 + 1)), (3, .int x15), (0, .ref l0), (1, .int l1)]) hx hb dX11_selectsByCode_51 hl (k := 3) rfl rfl (by decide) rfl (fun ls hl => ?_)
        refine lv_goto (tgt := 2) hx hb dX11_selectsByCode_54 (by decide) ?_
        exact h_2 hf hw (lv_sub hl [2, 3, 0] rfl)
      · replace hf := (if_neg c24).symm.trans hf
        exact X11_selectsByCode_49_W hC hQ hf hw (lv_sub hl [] rfl)
def X11_selectsByCode_2 (E : gE) (σ : gS) : Nat → Nat → Int32 → Int32 → Option Int32
  | 0 => fun _ _ _ => none
  | n + 1 => X11_selectsByCode_2_s E σ (X11_selectsByCode_2 E σ n)
theorem X11_selectsByCode_2_W {σ : gS} {res : Int32} (hC : gC E D A p R s m args meth c cX11_selectsByCode 4 RX11 "selectsByCode" 3 67) (hQ : gQI E D A p l e R s m args below meth c Q cX11_selectsByCode FieldType.boolean (res, σ)) : ∀ (n : Nat), ∀ {l0 : Nat} {l1 : Int32} {l2 : Int32} {H : Heap} {locs : List Loc} {cells slots : Nat} {ls : Array Slot}, X11_selectsByCode_2 E σ n l0 l1 l2 = some res → gW E D A s σ H locs → lv_has ls 4 [(0, .ref l0), (1, .int l1), (2, .int l2)] → W p l e R s m args below meth c H locs cells slots Q (F0 m 2 ls []) := by
  intro n
  induction n with
  | zero =>
    intros
    rename_i hf _ _
    exact absurd hf (fun h => by cases (show (none : Option Int32) = some res from h))
  | succ n ih =>
    intros
    rename_i hf hw hl
    exact X11_selectsByCode_2_s_W hC hQ ih hf hw hl

def X11_selectsByCode (E : gE) (σ : gS) (l0 : Nat) (l1 : Int32) : Option Int32 :=
  X11_selectsByCode_2 E σ (gN E) l0 l1 (0 : Int32)
set_option maxHeartbeats 4000000 in
set_option maxRecDepth 100000 in
theorem X11_selectsByCode_W {σ : gS} {l0 : Nat} {l1 : Int32} {res : Int32} {ls : Array Slot} (hC : gC E D A p R s m args meth c cX11_selectsByCode 4 RX11 "selectsByCode" 3 67) (hQ : gQI E D A p l e R s m args below meth c Q cX11_selectsByCode FieldType.boolean (res, σ)) (hf : X11_selectsByCode E σ l0 l1 = some res) (hw : gW E D A s σ H locs) (hl : lv_has ls 4 [(0, .ref l0), (1, .int l1)]) : W p l e R s m args below meth c H locs cells slots Q (F0 m 0 ls []) := by
  have hC0 := hC
  obtain ⟨hx, hb, hml, hown, hts, -⟩ := hC0
  unfold X11_selectsByCode at hf
  refine lv_iconst (v := 0) hx hb dX11_selectsByCode_0 (by decide) ?_
  refine lv_istore_n (lv' := [(2, .int (0 : Int32)), (0, .ref l0), (1, .int l1)]) hx hb dX11_selectsByCode_1 rfl hl (by decide) rfl (fun ls hl => ?_)
  exact X11_selectsByCode_2_W hC hQ (gN E) hf hw (lv_sub hl [1, 2, 0] rfl)

def X11_selectsByCode_f (E : gE) (σ : gS) (l0 : Nat) (l1 : Int32) : Option Int32 := X11_selectsByCode E σ l0 l1
set_option maxRecDepth 100000 in
theorem X11_selectsByCode_M (l : Launch) (E : gE) (D : va_G) (A : Nat → Prop) {l0 : Nat} {l1 : Int32} {σ : gS} {res : Int32} (hf : X11_selectsByCode_f E σ l0 l1 = some res) : gCI l E D A yX11_selectsByCode cX11_selectsByCode 4 3 67 (some FieldType.boolean) [.ref l0, .int l1] σ (res, σ) := by
  refine gg_entI (own := RX11) (nm := "selectsByCode") (ty := FieldType.boolean) (by decide +kernel) rfl rfl (Nat.le_of_ble_eq_true rfl) rfl ?_
  intro p e R s m args below meth c Q ls hC hw hQ hl
  have hl : lv_has ls 4 [(0, .ref l0), (1, .int l1)] := hl
  exact X11_selectsByCode_W hC hQ hf hw hl

def X11_copyFrom_10_s (E : gE) (r_10 : Nat → Nat → Int32 → gS → Option gS) (l0 : Nat) (l1 : Nat) (l2 : Int32) (σ : gS) : Option gS :=
  ob (gfI σ l0 9 1) fun x1 =>
  if x1 ≤ l2 then
    ob (gfR σ l0 9 2) fun x3 =>
    ob (gfR σ l1 9 2) fun x5 =>
    ob (gcl σ x3 3) fun _ =>
    ob (X4_copyFrom_f E x3 x5 σ) fun x7 =>
    some x7
  else
    ob (gfR σ l0 9 0) fun x10 =>
    ob (graR E 4 σ x10 l2) fun x12 =>
    ob (gfR σ l1 9 0) fun x14 =>
    ob (graR E 4 σ x14 l2) fun x16 =>
    ob (gcl σ x12 0) fun _ =>
    ob (X1_copyFrom_f E x12 x16 σ) fun x18 =>
    r_10 l0 l1 (l2 + 1) x18
set_option maxHeartbeats 4000000 in
set_option maxRecDepth 100000 in
theorem X11_copyFrom_10_s_W {σ : gS} {l0 : Nat} {l1 : Nat} {l2 : Int32} {σz : gS} {ls : Array Slot} (hC : gC E D A p R s m args meth c cX11_copyFrom 3 RX11 "copyFrom" 5 122) (hQ : gQV E D A p l e R s m args below meth c Q cX11_copyFrom σz) {r_10 : Nat → Nat → Int32 → gS → Option gS} (h_10 : ∀ {l0 : Nat} {l1 : Nat} {l2 : Int32} {σ : gS} {H : Heap} {locs : List Loc} {cells slots : Nat} {ls : Array Slot}, r_10 l0 l1 l2 σ = some σz → gW E D A s σ H locs → lv_has ls 3 [(0, .ref l0), (1, .ref l1), (2, .int l2)] → W p l e R s m args below meth c H locs cells slots Q (F0 m 10 ls [])) (hf : X11_copyFrom_10_s E r_10 l0 l1 l2 σ = some σz) (hw : gW E D A s σ H locs) (hl : lv_has ls 3 [(0, .ref l0), (1, .ref l1), (2, .int l2)]) : W p l e R s m args below meth c H locs cells slots Q (F0 m 10 ls []) := by
  have hC0 := hC
  obtain ⟨hx, hb, hml, hown, hts, -⟩ := hC0
  unfold X11_copyFrom_10_s at hf
  refine lv_iload_n hx hb dX11_copyFrom_10 rfl (lv_at hl 2 rfl) ?_
  refine lv_aload_n hx hb dX11_copyFrom_11 rfl (lv_at hl 0 rfl) ?_
  obtain ⟨x1, h2, hf⟩ := ob_some hf
  refine rI_fl_X11_17 hC hw h2 dX11_copyFrom_12 ?_
  refine lv_icmp_ge (tgt := 39) hx hb dX11_copyFrom_15 (by decide) (fun c21 => ?_) (fun c21 => ?_)
  · replace hf := (if_pos c21).symm.trans hf
    refine lv_aload_n hx hb dX11_copyFrom_39 rfl (lv_at hl 0 rfl) ?_
    obtain ⟨x3, h4, hf⟩ := ob_some hf
    refine rR_fl_X11_24 hC hw h4 dX11_copyFrom_40 ?_
    refine lv_aload_n hx hb dX11_copyFrom_43 rfl (lv_at hl 1 rfl) ?_
    obtain ⟨x5, h6, hf⟩ := ob_some hf
    refine rR_fl_X11_24 hC hw h6 dX11_copyFrom_44 ?_
    obtain ⟨_, h9, hf⟩ := ob_some hf
    obtain ⟨x7, h8, hf⟩ := ob_some hf
    refine gg_cVV (As := [.ref x5]) hC hw (X4_copyFrom_M l E D A h8) h9 rfl g_ml_X11_119 hd_X4_copyFrom (Nat.le_of_ble_eq_true rfl) (Nat.le_of_ble_eq_true rfl) hl.1 rfl (Nat.le_of_ble_eq_true rfl) dX11_copyFrom_47 (fun H locs cells slots hw => ?_)
    cases hf
    exact hQ _ _ _ _ _ _ dX11_copyFrom_50 hw
  · replace hf := (if_neg c21).symm.trans hf
    refine lv_aload_n hx hb dX11_copyFrom_18 rfl (lv_at hl 0 rfl) ?_
    obtain ⟨x10, h11, hf⟩ := ob_some hf
    refine rR_fl_X11_11 hC hw h11 dX11_copyFrom_19 ?_
    refine lv_iload_n hx hb dX11_copyFrom_22 rfl (lv_at hl 2 rfl) ?_
    obtain ⟨x12, h13, hf⟩ := ob_some hf
    refine gg_aldR hC hw h13 rfl rfl dX11_copyFrom_23 ?_
    refine lv_aload_n hx hb dX11_copyFrom_24 rfl (lv_at hl 1 rfl) ?_
    obtain ⟨x14, h15, hf⟩ := ob_some hf
    refine rR_fl_X11_11 hC hw h15 dX11_copyFrom_25 ?_
    refine lv_iload_n hx hb dX11_copyFrom_28 rfl (lv_at hl 2 rfl) ?_
    obtain ⟨x16, h17, hf⟩ := ob_some hf
    refine gg_aldR hC hw h17 rfl rfl dX11_copyFrom_29 ?_
    obtain ⟨_, h20, hf⟩ := ob_some hf
    obtain ⟨x18, h19, hf⟩ := ob_some hf
    refine gg_cVV (As := [.ref x16]) hC hw (X1_copyFrom_M l E D A h19) h20 rfl g_ml_X11_115 hd_X1_copyFrom (Nat.le_of_ble_eq_true rfl) (Nat.le_of_ble_eq_true rfl) hl.1 rfl (Nat.le_of_ble_eq_true rfl) dX11_copyFrom_30 (fun H locs cells slots hw => ?_)
    refine lv_iinc (v := (l2 + 1)) (lv' := [(2, .int (l2 + 1)), (0, .ref l0), (1, .ref l1)]) hx hb dX11_copyFrom_33 hl (k := 2) rfl rfl (by decide) rfl (fun ls hl => ?_)
    refine lv_goto (tgt := 10) hx hb dX11_copyFrom_36 (by decide) ?_
    exact h_10 hf hw (lv_sub hl [1, 2, 0] rfl)
def X11_copyFrom_10 (E : gE) : Nat → Nat → Nat → Int32 → gS → Option gS
  | 0 => fun _ _ _ _ => none
  | n + 1 => X11_copyFrom_10_s E (X11_copyFrom_10 E n)
theorem X11_copyFrom_10_W {σz : gS} (hC : gC E D A p R s m args meth c cX11_copyFrom 3 RX11 "copyFrom" 5 122) (hQ : gQV E D A p l e R s m args below meth c Q cX11_copyFrom σz) : ∀ (n : Nat), ∀ {l0 : Nat} {l1 : Nat} {l2 : Int32} {σ : gS} {H : Heap} {locs : List Loc} {cells slots : Nat} {ls : Array Slot}, X11_copyFrom_10 E n l0 l1 l2 σ = some σz → gW E D A s σ H locs → lv_has ls 3 [(0, .ref l0), (1, .ref l1), (2, .int l2)] → W p l e R s m args below meth c H locs cells slots Q (F0 m 10 ls []) := by
  intro n
  induction n with
  | zero =>
    intros
    rename_i hf _ _
    exact absurd hf (fun h => by cases (show (none : Option gS) = some σz from h))
  | succ n ih =>
    intros
    rename_i hf hw hl
    exact X11_copyFrom_10_s_W hC hQ ih hf hw hl

def X11_copyFrom (E : gE) (l0 : Nat) (l1 : Nat) (σ : gS) : Option gS :=
  ob (gfI σ l1 9 1) fun x22 =>
  ob (gpf E σ l0 9 1 (.int x22)) fun σ24 =>
  X11_copyFrom_10 E (gN E) l0 l1 (0 : Int32) σ24
set_option maxHeartbeats 4000000 in
set_option maxRecDepth 100000 in
theorem X11_copyFrom_W {σ : gS} {l0 : Nat} {l1 : Nat} {σz : gS} {ls : Array Slot} (hC : gC E D A p R s m args meth c cX11_copyFrom 3 RX11 "copyFrom" 5 122) (hQ : gQV E D A p l e R s m args below meth c Q cX11_copyFrom σz) (hf : X11_copyFrom E l0 l1 σ = some σz) (hw : gW E D A s σ H locs) (hl : lv_has ls 3 [(0, .ref l0), (1, .ref l1)]) : W p l e R s m args below meth c H locs cells slots Q (F0 m 0 ls []) := by
  have hC0 := hC
  obtain ⟨hx, hb, hml, hown, hts, -⟩ := hC0
  unfold X11_copyFrom at hf
  refine lv_aload_n hx hb dX11_copyFrom_0 rfl (lv_at hl 0 rfl) ?_
  refine lv_aload_n hx hb dX11_copyFrom_1 rfl (lv_at hl 1 rfl) ?_
  obtain ⟨x22, h23, hf⟩ := ob_some hf
  refine rI_fl_X11_17 hC hw h23 dX11_copyFrom_2 ?_
  obtain ⟨σ24, h25, hf⟩ := ob_some hf
  refine p_fl_X11_17 hC hw h25 rfl rfl dX11_copyFrom_5 (fun H locs hw => ?_)
  refine lv_iconst (v := 0) hx hb dX11_copyFrom_8 (by decide) ?_
  refine lv_istore_n (lv' := [(2, .int (0 : Int32)), (0, .ref l0), (1, .ref l1)]) hx hb dX11_copyFrom_9 rfl hl (by decide) rfl (fun ls hl => ?_)
  exact X11_copyFrom_10_W hC hQ (gN E) hf hw (lv_sub hl [1, 2, 0] rfl)

def X11_copyFrom_f (E : gE) (l0 : Nat) (l1 : Nat) (σ : gS) : Option gS := X11_copyFrom E l0 l1 σ
set_option maxRecDepth 100000 in
theorem X11_copyFrom_M (l : Launch) (E : gE) (D : va_G) (A : Nat → Prop) {l0 : Nat} {l1 : Nat} {σ : gS} {σz : gS} (hf : X11_copyFrom_f E l0 l1 σ = some σz) : gCV l E D A yX11_copyFrom cX11_copyFrom 3 5 122 none [.ref l0, .ref l1] σ σz := by
  refine gg_entV (own := RX11) (nm := "copyFrom") (by decide +kernel) rfl rfl (Nat.le_of_ble_eq_true rfl) rfl ?_
  intro p e R s m args below meth c Q ls hC hw hQ hl
  have hl : lv_has ls 3 [(0, .ref l0), (1, .ref l1)] := hl
  exact X11_copyFrom_W hC hQ hf hw hl

def J5_newCapacity_0f7a4 (E : gE) (l0 : Nat) (l1 : Int32) (σ : gS) : Option (Int32 × gS) :=
  ob (gfR σ l0 11 0) fun x1 =>
  ob (gal E 1 σ x1) fun x3 =>
  ob (gfI σ l0 11 1) fun x5 =>
  ob (gfI σ l0 11 1) fun x7 =>
  ob (J8_newLength_cabcc_f E x3 ((l1 <<< (x5 &&& 31)) - x3) (x3 + ((2 : Int32) <<< (x7 &&& 31))) σ) fun x9 =>
  if x9.1 = (2147483647 : Int32) then
    none
  else
    ob (gfI x9.2 l0 11 1) fun x11 =>
    some ((x9.1 >>> (x11 &&& 31)), x9.2)
set_option maxHeartbeats 4000000 in
set_option maxRecDepth 100000 in
theorem J5_newCapacity_0f7a4_W {σ : gS} {l0 : Nat} {l1 : Int32} {res : (Int32 × gS)} {ls : Array Slot} (hC : gC E D A p R s m args meth c cJ5_newCapacity_0f7a4 6 RJ5 "newCapacity" 4 103) (hQ : gQI E D A p l e R s m args below meth c Q cJ5_newCapacity_0f7a4 FieldType.int res) (hf : J5_newCapacity_0f7a4 E l0 l1 σ = some res) (hw : gW E D A s σ H locs) (hl : lv_has ls 6 [(0, .ref l0), (1, .int l1)]) : W p l e R s m args below meth c H locs cells slots Q (F0 m 0 ls []) := by
  have hC0 := hC
  obtain ⟨hx, hb, hml, hown, hts, -⟩ := hC0
  unfold J5_newCapacity_0f7a4 at hf
  refine lv_aload_n hx hb dJ5_newCapacity_0f7a4_0 rfl (lv_at hl 0 rfl) ?_
  obtain ⟨x1, h2, hf⟩ := ob_some hf
  refine rR_fl_J5_15 hC hw h2 dJ5_newCapacity_0f7a4_1 ?_
  obtain ⟨x3, h4, hf⟩ := ob_some hf
  refine gg_alen hC hw h4 (Or.inr rfl) dJ5_newCapacity_0f7a4_4 ?_
  refine lv_istore_n (lv' := [(2, .int x3), (0, .ref l0), (1, .int l1)]) hx hb dJ5_newCapacity_0f7a4_5 rfl hl (by decide) rfl (fun ls hl => ?_)
  refine lv_iload_n hx hb dJ5_newCapacity_0f7a4_6 rfl (lv_at hl 2 rfl) ?_
  refine lv_aload_n hx hb dJ5_newCapacity_0f7a4_7 rfl (lv_at hl 1 rfl) ?_
  obtain ⟨x5, h6, hf⟩ := ob_some hf
  refine rI_fl_J5_22 hC hw h6 dJ5_newCapacity_0f7a4_8 ?_
  refine lv_ishl hx hb dJ5_newCapacity_0f7a4_11 ?_
  refine lv_istore_n (lv' := [(3, .int (l1 <<< (x5 &&& 31))), (2, .int x3), (0, .ref l0), (1, .int l1)]) hx hb dJ5_newCapacity_0f7a4_12 rfl hl (by decide) rfl (fun ls hl => ?_)
  refine lv_iload_n hx hb dJ5_newCapacity_0f7a4_13 rfl (lv_at hl 0 rfl) ?_
  refine lv_iload_n hx hb dJ5_newCapacity_0f7a4_14 rfl (lv_at hl 1 rfl) ?_
  refine lv_isub hx hb dJ5_newCapacity_0f7a4_15 ?_
  refine lv_istore (lv' := [(4, .int ((l1 <<< (x5 &&& 31)) - x3)), (3, .int (l1 <<< (x5 &&& 31))), (2, .int x3), (0, .ref l0), (1, .int l1)]) hx hb dJ5_newCapacity_0f7a4_16 hl (by decide) rfl (fun ls hl => ?_)
  refine lv_iload_n hx hb dJ5_newCapacity_0f7a4_18 rfl (lv_at hl 2 rfl) ?_
  refine lv_iload hx hb dJ5_newCapacity_0f7a4_19 (lv_at hl 0 rfl) ?_
  refine lv_iload_n hx hb dJ5_newCapacity_0f7a4_21 rfl (lv_at hl 2 rfl) ?_
  refine lv_iconst (v := 2) hx hb dJ5_newCapacity_0f7a4_22 (by decide) ?_
  refine lv_aload_n hx hb dJ5_newCapacity_0f7a4_23 rfl (lv_at hl 3 rfl) ?_
  obtain ⟨x7, h8, hf⟩ := ob_some hf
  refine rI_fl_J5_22 hC hw h8 dJ5_newCapacity_0f7a4_24 ?_
  refine lv_ishl hx hb dJ5_newCapacity_0f7a4_27 ?_
  refine lv_iadd hx hb dJ5_newCapacity_0f7a4_28 ?_
  obtain ⟨x9, h10, hf⟩ := ob_some hf
  refine gg_cSI (As := [.int x3, .int ((l1 <<< (x5 &&& 31)) - x3), .int (x3 + ((2 : Int32) <<< (x7 &&& 31)))]) hC hw (J8_newLength_cabcc_M l E D A h10) g_ml_J5_114 hd_J8_newLength_cabcc.2 (Nat.le_of_ble_eq_true rfl) (Nat.le_of_ble_eq_true rfl) hl.1 rfl (Nat.le_of_ble_eq_true rfl) dJ5_newCapacity_0f7a4_29 (fun H locs cells slots hw => ?_)
  refine lv_istore (lv' := [(5, .int x9.1), (4, .int ((l1 <<< (x5 &&& 31)) - x3)), (3, .int (l1 <<< (x5 &&& 31))), (2, .int x3), (0, .ref l0), (1, .int l1)]) hx hb dJ5_newCapacity_0f7a4_32 hl (by decide) rfl (fun ls hl => ?_)
  refine lv_iload hx hb dJ5_newCapacity_0f7a4_34 (lv_at hl 0 rfl) ?_
  refine lv_ldc (v := 2147483647) hx hb hown (hts _ kc_J5_39) dJ5_newCapacity_0f7a4_36 ?_
  refine lv_icmp_ne (tgt := 51) hx hb dJ5_newCapacity_0f7a4_38 (by decide) (fun c13 => ?_) (fun c13 => ?_)
  · replace hf := (if_neg c13).symm.trans hf
    refine lv_iload hx hb dJ5_newCapacity_0f7a4_51 (lv_at hl 0 rfl) ?_
    refine lv_aload_n hx hb dJ5_newCapacity_0f7a4_53 rfl (lv_at hl 4 rfl) ?_
    obtain ⟨x11, h12, hf⟩ := ob_some hf
    refine rI_fl_J5_22 hC hw h12 dJ5_newCapacity_0f7a4_54 ?_
    refine lv_ishr hx hb dJ5_newCapacity_0f7a4_57 ?_
    cases hf
    exact hQ _ _ _ _ _ _ dJ5_newCapacity_0f7a4_58 rfl hw
  · replace hf := (if_pos c13).symm.trans hf
    cases hf

def J5_newCapacity_0f7a4_f (E : gE) (l0 : Nat) (l1 : Int32) (σ : gS) : Option (Int32 × gS) := J5_newCapacity_0f7a4 E l0 l1 σ
set_option maxRecDepth 100000 in
theorem J5_newCapacity_0f7a4_M (l : Launch) (E : gE) (D : va_G) (A : Nat → Prop) {l0 : Nat} {l1 : Int32} {σ : gS} {res : (Int32 × gS)} (hf : J5_newCapacity_0f7a4_f E l0 l1 σ = some res) : gCI l E D A yJ5_newCapacity_0f7a4 cJ5_newCapacity_0f7a4 6 4 103 (some FieldType.int) [.ref l0, .int l1] σ res := by
  refine gg_entI (own := RJ5) (nm := "newCapacity") (ty := FieldType.int) (by decide +kernel) rfl rfl (Nat.le_of_ble_eq_true rfl) rfl ?_
  intro p e R s m args below meth c Q ls hC hw hQ hl
  have hl : lv_has ls 6 [(0, .ref l0), (1, .int l1)] := hl
  exact J5_newCapacity_0f7a4_W hC hQ hf hw hl

def J5_inflateIfNeededFor_a7421 (E : gE) (l0 : Nat) (l1 : Nat) (σ : gS) : Option gS :=
  if (1 : Int32) = 0 then
    some σ
  else
    ob (gfI σ l0 11 1) fun x1 =>
    ob (gxc E l1 100) fun _ =>
    ob (J0_coder_7d493_f E σ l1) fun x3 =>
    if x1 = x3 then
      some σ
    else
      none
set_option maxHeartbeats 4000000 in
set_option maxRecDepth 100000 in
theorem J5_inflateIfNeededFor_a7421_W {σ : gS} {l0 : Nat} {l1 : Nat} {σz : gS} {ls : Array Slot} (hC : gC E D A p R s m args meth c cJ5_inflateIfNeededFor_a7421 2 RJ5 "inflateIfNeededFor" 6 137) (hQ : gQV E D A p l e R s m args below meth c Q cJ5_inflateIfNeededFor_a7421 σz) (hf : J5_inflateIfNeededFor_a7421 E l0 l1 σ = some σz) (hw : gW E D A s σ H locs) (hl : lv_has ls 2 [(0, .ref l0), (1, .ref l1)]) : W p l e R s m args below meth c H locs cells slots Q (F0 m 0 ls []) := by
  have hC0 := hC
  obtain ⟨hx, hb, hml, hown, hts, -⟩ := hC0
  unfold J5_inflateIfNeededFor_a7421 at hf
  refine gg_gets hC hw (k := 2) rfl fl_J5_18 dJ5_inflateIfNeededFor_a7421_0 ?_
  refine lv_if_eq (tgt := 21) hx hb dJ5_inflateIfNeededFor_a7421_3 (by decide) (fun c9 => ?_) (fun c9 => ?_)
  · replace hf := (if_pos c9).symm.trans hf
    cases hf
    exact hQ _ _ _ _ _ _ dJ5_inflateIfNeededFor_a7421_21 hw
  · replace hf := (if_neg c9).symm.trans hf
    refine lv_aload_n hx hb dJ5_inflateIfNeededFor_a7421_6 rfl (lv_at hl 0 rfl) ?_
    obtain ⟨x1, h2, hf⟩ := ob_some hf
    refine rI_fl_J5_22 hC hw h2 dJ5_inflateIfNeededFor_a7421_7 ?_
    refine lv_aload_n hx hb dJ5_inflateIfNeededFor_a7421_10 rfl (lv_at hl 1 rfl) ?_
    obtain ⟨_, h5, hf⟩ := ob_some hf
    obtain ⟨x3, h4, hf⟩ := ob_some hf
    refine gg_cXI (As := []) hC hw (J0_coder_7d493_M l E D A h4) h5 rfl g_ml_J5_40 hd_J0_coder_7d493 (Nat.le_of_ble_eq_true rfl) (Nat.le_of_ble_eq_true rfl) hl.1 rfl (Nat.le_of_ble_eq_true rfl) dJ5_inflateIfNeededFor_a7421_11 (fun H locs cells slots hw => ?_)
    refine lv_icmp_eq (tgt := 21) hx hb dJ5_inflateIfNeededFor_a7421_14 (by decide) (fun c8 => ?_) (fun c8 => ?_)
    · replace hf := (if_pos c8).symm.trans hf
      cases hf
      exact hQ _ _ _ _ _ _ dJ5_inflateIfNeededFor_a7421_21 hw
    · replace hf := (if_neg c8).symm.trans hf
      refine lv_aload_n hx hb dJ5_inflateIfNeededFor_a7421_17 rfl (lv_at hl 0 rfl) ?_
      cases hf

def J5_inflateIfNeededFor_a7421_f (E : gE) (l0 : Nat) (l1 : Nat) (σ : gS) : Option gS := J5_inflateIfNeededFor_a7421 E l0 l1 σ
set_option maxRecDepth 100000 in
theorem J5_inflateIfNeededFor_a7421_M (l : Launch) (E : gE) (D : va_G) (A : Nat → Prop) {l0 : Nat} {l1 : Nat} {σ : gS} {σz : gS} (hf : J5_inflateIfNeededFor_a7421_f E l0 l1 σ = some σz) : gCV l E D A yJ5_inflateIfNeededFor_a7421 cJ5_inflateIfNeededFor_a7421 2 6 137 none [.ref l0, .ref l1] σ σz := by
  refine gg_entV (own := RJ5) (nm := "inflateIfNeededFor") (by decide +kernel) rfl rfl (Nat.le_of_ble_eq_true rfl) rfl ?_
  intro p e R s m args below meth c Q ls hC hw hQ hl
  have hl : lv_has ls 2 [(0, .ref l0), (1, .ref l1)] := hl
  exact J5_inflateIfNeededFor_a7421_W hC hQ hf hw hl

def J0_length_8abf5 (E : gE) (σ : gS) (l0 : Nat) : Option Int32 :=
  ob (gxR E l0 100 0) fun x1 =>
  ob (gal E 1 σ x1) fun x3 =>
  ob (gxc E l0 100) fun _ =>
  ob (J0_coder_7d493_f E σ l0) fun x5 =>
  some (x3 >>> (x5 &&& 31))
set_option maxHeartbeats 4000000 in
set_option maxRecDepth 100000 in
theorem J0_length_8abf5_W {σ : gS} {l0 : Nat} {res : Int32} {ls : Array Slot} (hC : gC E D A p R s m args meth c cJ0_length_8abf5 1 RJ0 "length" 1 20) (hQ : gQI E D A p l e R s m args below meth c Q cJ0_length_8abf5 FieldType.int (res, σ)) (hf : J0_length_8abf5 E σ l0 = some res) (hw : gW E D A s σ H locs) (hl : lv_has ls 1 [(0, .ref l0)]) : W p l e R s m args below meth c H locs cells slots Q (F0 m 0 ls []) := by
  have hC0 := hC
  obtain ⟨hx, hb, hml, hown, hts, -⟩ := hC0
  unfold J0_length_8abf5 at hf
  refine lv_aload_n hx hb dJ0_length_8abf5_0 rfl (lv_at hl 0 rfl) ?_
  obtain ⟨x1, h2, hf⟩ := ob_some hf
  obtain ⟨hro, fs, he, hv⟩ := gxR_some h2
  refine gg_xget hC hw hro he hv rfl fl_J0_9 dJ0_length_8abf5_1 ?_
  obtain ⟨x3, h4, hf⟩ := ob_some hf
  refine gg_alen hC hw h4 (Or.inr rfl) dJ0_length_8abf5_4 ?_
  refine lv_aload_n hx hb dJ0_length_8abf5_5 rfl (lv_at hl 0 rfl) ?_
  obtain ⟨_, h7, hf⟩ := ob_some hf
  obtain ⟨x5, h6, hf⟩ := ob_some hf
  refine gg_cXI (As := []) hC hw (J0_coder_7d493_M l E D A h6) h7 rfl g_ml_J0_335 hd_J0_coder_7d493 (Nat.le_of_ble_eq_true rfl) (Nat.le_of_ble_eq_true rfl) hl.1 rfl (Nat.le_of_ble_eq_true rfl) dJ0_length_8abf5_6 (fun H locs cells slots hw => ?_)
  refine lv_ishr hx hb dJ0_length_8abf5_9 ?_
  cases hf
  exact hQ _ _ _ _ _ _ dJ0_length_8abf5_10 rfl hw

def J0_length_8abf5_f (E : gE) (σ : gS) (l0 : Nat) : Option Int32 := J0_length_8abf5 E σ l0
set_option maxRecDepth 100000 in
theorem J0_length_8abf5_M (l : Launch) (E : gE) (D : va_G) (A : Nat → Prop) {l0 : Nat} {σ : gS} {res : Int32} (hf : J0_length_8abf5_f E σ l0 = some res) : gCI l E D A yJ0_length_8abf5 cJ0_length_8abf5 1 1 20 (some FieldType.int) [.ref l0] σ (res, σ) := by
  refine gg_entI (own := RJ0) (nm := "length") (ty := FieldType.int) (by decide +kernel) rfl rfl (Nat.le_of_ble_eq_true rfl) rfl ?_
  intro p e R s m args below meth c Q ls hC hw hQ hl
  have hl : lv_has ls 1 [(0, .ref l0)] := hl
  exact J0_length_8abf5_W hC hQ hf hw hl

def J0_getBytes_840e7 (E : gE) (l0 : Nat) (l1 : Nat) (l2 : Int32) (l3 : Int32) (σ : gS) : Option gS :=
  ob (gxc E l0 100) fun _ =>
  ob (J0_coder_7d493_f E σ l0) fun x1 =>
  if x1 = l3 then
    ob (gxR E l0 100 0) fun x12 =>
    ob (gxR E l0 100 0) fun x14 =>
    ob (gal E 1 σ x14) fun x16 =>
    ob (gcopyB E σ x12 (0 : Int32) l1 (l2 <<< (l3 &&& 31)) x16) fun x18 =>
    some x18
  else
    ob (gxR E l0 100 0) fun x4 =>
    ob (gxR E l0 100 0) fun x6 =>
    ob (gal E 1 σ x6) fun x8 =>
    none
set_option maxHeartbeats 4000000 in
set_option maxRecDepth 100000 in
theorem J0_getBytes_840e7_W {σ : gS} {l0 : Nat} {l1 : Nat} {l2 : Int32} {l3 : Int32} {σz : gS} {ls : Array Slot} (hC : gC E D A p R s m args meth c cJ0_getBytes_840e7 4 RJ0 "getBytes" 5 116) (hQ : gQV E D A p l e R s m args below meth c Q cJ0_getBytes_840e7 σz) (hf : J0_getBytes_840e7 E l0 l1 l2 l3 σ = some σz) (hw : gW E D A s σ H locs) (hl : lv_has ls 4 [(0, .ref l0), (1, .ref l1), (2, .int l2), (3, .int l3)]) : W p l e R s m args below meth c H locs cells slots Q (F0 m 0 ls []) := by
  have hC0 := hC
  obtain ⟨hx, hb, hml, hown, hts, -⟩ := hC0
  unfold J0_getBytes_840e7 at hf
  refine lv_aload_n hx hb dJ0_getBytes_840e7_0 rfl (lv_at hl 0 rfl) ?_
  obtain ⟨_, h3, hf⟩ := ob_some hf
  obtain ⟨x1, h2, hf⟩ := ob_some hf
  refine gg_cXI (As := []) hC hw (J0_coder_7d493_M l E D A h2) h3 rfl g_ml_J0_335 hd_J0_coder_7d493 (Nat.le_of_ble_eq_true rfl) (Nat.le_of_ble_eq_true rfl) hl.1 rfl (Nat.le_of_ble_eq_true rfl) dJ0_getBytes_840e7_1 (fun H locs cells slots hw => ?_)
  refine lv_iload_n hx hb dJ0_getBytes_840e7_4 rfl (lv_at hl 3 rfl) ?_
  refine lv_icmp_ne (tgt := 28) hx hb dJ0_getBytes_840e7_5 (by decide) (fun c20 => ?_) (fun c20 => ?_)
  · replace hf := (if_neg c20).symm.trans hf
    refine lv_aload_n hx hb dJ0_getBytes_840e7_28 rfl (lv_at hl 0 rfl) ?_
    obtain ⟨x4, h5, hf⟩ := ob_some hf
    obtain ⟨hro, fs, he, hv⟩ := gxR_some h5
    refine gg_xget hC hw hro he hv rfl fl_J0_9 dJ0_getBytes_840e7_29 ?_
    refine lv_iconst (v := 0) hx hb dJ0_getBytes_840e7_32 (by decide) ?_
    refine lv_aload_n hx hb dJ0_getBytes_840e7_33 rfl (lv_at hl 1 rfl) ?_
    refine lv_iload_n hx hb dJ0_getBytes_840e7_34 rfl (lv_at hl 2 rfl) ?_
    refine lv_aload_n hx hb dJ0_getBytes_840e7_35 rfl (lv_at hl 0 rfl) ?_
    obtain ⟨x6, h7, hf⟩ := ob_some hf
    obtain ⟨hro, fs, he, hv⟩ := gxR_some h7
    refine gg_xget hC hw hro he hv rfl fl_J0_9 dJ0_getBytes_840e7_36 ?_
    obtain ⟨x8, h9, hf⟩ := ob_some hf
    refine gg_alen hC hw h9 (Or.inr rfl) dJ0_getBytes_840e7_39 ?_
    cases hf
  · replace hf := (if_pos c20).symm.trans hf
    refine lv_aload_n hx hb dJ0_getBytes_840e7_8 rfl (lv_at hl 0 rfl) ?_
    obtain ⟨x12, h13, hf⟩ := ob_some hf
    obtain ⟨hro, fs, he, hv⟩ := gxR_some h13
    refine gg_xget hC hw hro he hv rfl fl_J0_9 dJ0_getBytes_840e7_9 ?_
    refine lv_iconst (v := 0) hx hb dJ0_getBytes_840e7_12 (by decide) ?_
    refine lv_aload_n hx hb dJ0_getBytes_840e7_13 rfl (lv_at hl 1 rfl) ?_
    refine lv_iload_n hx hb dJ0_getBytes_840e7_14 rfl (lv_at hl 2 rfl) ?_
    refine lv_iload_n hx hb dJ0_getBytes_840e7_15 rfl (lv_at hl 3 rfl) ?_
    refine lv_ishl hx hb dJ0_getBytes_840e7_16 ?_
    refine lv_aload_n hx hb dJ0_getBytes_840e7_17 rfl (lv_at hl 0 rfl) ?_
    obtain ⟨x14, h15, hf⟩ := ob_some hf
    obtain ⟨hro, fs, he, hv⟩ := gxR_some h15
    refine gg_xget hC hw hro he hv rfl fl_J0_9 dJ0_getBytes_840e7_18 ?_
    obtain ⟨x16, h17, hf⟩ := ob_some hf
    refine gg_alen hC hw h17 (Or.inr rfl) dJ0_getBytes_840e7_21 ?_
    obtain ⟨x18, h19, hf⟩ := ob_some hf
    refine gg_copyB hC hw h19 ml_J0_212 hl.1 rfl (Nat.le_of_ble_eq_true rfl) (Nat.le_of_ble_eq_true rfl) (Nat.le_of_ble_eq_true rfl) dJ0_getBytes_840e7_22 (fun H locs hw => ?_)
    refine lv_goto (tgt := 43) hx hb dJ0_getBytes_840e7_25 (by decide) ?_
    cases hf
    exact hQ _ _ _ _ _ _ dJ0_getBytes_840e7_43 hw

def J0_getBytes_840e7_f (E : gE) (l0 : Nat) (l1 : Nat) (l2 : Int32) (l3 : Int32) (σ : gS) : Option gS := J0_getBytes_840e7 E l0 l1 l2 l3 σ
set_option maxRecDepth 100000 in
theorem J0_getBytes_840e7_M (l : Launch) (E : gE) (D : va_G) (A : Nat → Prop) {l0 : Nat} {l1 : Nat} {l2 : Int32} {l3 : Int32} {σ : gS} {σz : gS} (hf : J0_getBytes_840e7_f E l0 l1 l2 l3 σ = some σz) : gCV l E D A yJ0_getBytes_840e7 cJ0_getBytes_840e7 4 5 116 none [.ref l0, .ref l1, .int l2, .int l3] σ σz := by
  refine gg_entV (own := RJ0) (nm := "getBytes") (by decide +kernel) rfl rfl (Nat.le_of_ble_eq_true rfl) rfl ?_
  intro p e R s m args below meth c Q ls hC hw hQ hl
  have hl : lv_has ls 4 [(0, .ref l0), (1, .ref l1), (2, .int l2), (3, .int l3)] := hl
  exact J0_getBytes_840e7_W hC hQ hf hw hl

def J0_checkIndex_df160 (E : gE) (σ : gS) (l0 : Int32) (l1 : Int32) : Option Unit :=
  ob (J3_checkIndex_8e157_f E σ l0 l1 (gsq E)) fun x1 =>
  some ()
set_option maxHeartbeats 4000000 in
set_option maxRecDepth 100000 in
theorem J0_checkIndex_df160_W {σ : gS} {l0 : Int32} {l1 : Int32} {res : Unit} {ls : Array Slot} (hC : gC E D A p R s m args meth c cJ0_checkIndex_df160 2 RJ0 "checkIndex" 1 22) (hQ : gQV E D A p l e R s m args below meth c Q cJ0_checkIndex_df160 σ) (hf : J0_checkIndex_df160 E σ l0 l1 = some res) (hw : gW E D A s σ H locs) (hl : lv_has ls 2 [(0, .int l0), (1, .int l1)]) : W p l e R s m args below meth c H locs cells slots Q (F0 m 0 ls []) := by
  have hC0 := hC
  obtain ⟨hx, hb, hml, hown, hts, -⟩ := hC0
  unfold J0_checkIndex_df160 at hf
  refine lv_iload_n hx hb dJ0_checkIndex_df160_0 rfl (lv_at hl 0 rfl) ?_
  refine lv_iload_n hx hb dJ0_checkIndex_df160_1 rfl (lv_at hl 1 rfl) ?_
  refine gg_gets hC hw (k := 3) rfl fl_J0_1053 dJ0_checkIndex_df160_2 ?_
  obtain ⟨x1, h2, hf⟩ := ob_some hf
  refine gg_cSI (As := [.int l0, .int l1, va_rf (gsq E)]) hC hw (J3_checkIndex_8e157_M l E D A h2) g_ml_J0_1059 hd_J3_checkIndex_8e157.2 (Nat.le_of_ble_eq_true rfl) (Nat.le_of_ble_eq_true rfl) hl.1 rfl (Nat.le_of_ble_eq_true rfl) dJ0_checkIndex_df160_5 (fun H locs cells slots hw => ?_)
  refine lv_pop hx hb dJ0_checkIndex_df160_8 rfl ?_
  cases hf
  exact hQ _ _ _ _ _ _ dJ0_checkIndex_df160_9 hw

def J0_checkIndex_df160_f (E : gE) (σ : gS) (l0 : Int32) (l1 : Int32) : Option Unit := J0_checkIndex_df160 E σ l0 l1
set_option maxRecDepth 100000 in
theorem J0_checkIndex_df160_M (l : Launch) (E : gE) (D : va_G) (A : Nat → Prop) {l0 : Int32} {l1 : Int32} {σ : gS} {res : Unit} (hf : J0_checkIndex_df160_f E σ l0 l1 = some res) : gCV l E D A yJ0_checkIndex_df160 cJ0_checkIndex_df160 2 1 22 none [.int l0, .int l1] σ σ := by
  refine gg_entV (own := RJ0) (nm := "checkIndex") (by decide +kernel) rfl rfl (Nat.le_of_ble_eq_true rfl) rfl ?_
  intro p e R s m args below meth c Q ls hC hw hQ hl
  have hl : lv_has ls 2 [(0, .int l0), (1, .int l1)] := hl
  exact J0_checkIndex_df160_W hC hQ hf hw hl

def J1_charAt_3b067 (E : gE) (σ : gS) (l0 : Nat) (l1 : Int32) : Option Int32 :=
  ob (gal E 1 σ l0) fun x1 =>
  ob (J0_checkIndex_df160_f E σ l1 x1) fun x3 =>
  ob (graI E 1 σ l0 l1) fun x5 =>
  ob (gch (gi2c (x5 &&& (255 : Int32)))) fun _ =>
  some (gi2c (x5 &&& (255 : Int32)))
set_option maxHeartbeats 4000000 in
set_option maxRecDepth 100000 in
theorem J1_charAt_3b067_W {σ : gS} {l0 : Nat} {l1 : Int32} {res : Int32} {ls : Array Slot} (hC : gC E D A p R s m args meth c cJ1_charAt_3b067 2 RJ1 "charAt" 2 43) (hQ : gQI E D A p l e R s m args below meth c Q cJ1_charAt_3b067 FieldType.char (res, σ)) (hf : J1_charAt_3b067 E σ l0 l1 = some res) (hw : gW E D A s σ H locs) (hl : lv_has ls 2 [(0, .ref l0), (1, .int l1)]) : W p l e R s m args below meth c H locs cells slots Q (F0 m 0 ls []) := by
  have hC0 := hC
  obtain ⟨hx, hb, hml, hown, hts, -⟩ := hC0
  unfold J1_charAt_3b067 at hf
  refine lv_iload_n hx hb dJ1_charAt_3b067_0 rfl (lv_at hl 1 rfl) ?_
  refine lv_aload_n hx hb dJ1_charAt_3b067_1 rfl (lv_at hl 0 rfl) ?_
  obtain ⟨x1, h2, hf⟩ := ob_some hf
  refine gg_alen hC hw h2 (Or.inr rfl) dJ1_charAt_3b067_2 ?_
  obtain ⟨x3, h4, hf⟩ := ob_some hf
  refine gg_cSV (As := [.int l1, .int x1]) hC hw (J0_checkIndex_df160_M l E D A h4) g_ml_J1_9 hd_J0_checkIndex_df160.2 (Nat.le_of_ble_eq_true rfl) (Nat.le_of_ble_eq_true rfl) hl.1 rfl (Nat.le_of_ble_eq_true rfl) dJ1_charAt_3b067_3 (fun H locs cells slots hw => ?_)
  refine lv_aload_n hx hb dJ1_charAt_3b067_6 rfl (lv_at hl 0 rfl) ?_
  refine lv_iload_n hx hb dJ1_charAt_3b067_7 rfl (lv_at hl 1 rfl) ?_
  obtain ⟨x5, h6, hf⟩ := ob_some hf
  refine gg_aldB hC hw h6 dJ1_charAt_3b067_8 ?_
  refine lv_sipush (v := 255) hx hb dJ1_charAt_3b067_9 (by decide) ?_
  refine lv_iand hx hb dJ1_charAt_3b067_12 ?_
  refine lv_i2c (v := (gi2c (x5 &&& (255 : Int32)))) hx hb dJ1_charAt_3b067_13 rfl ?_
  obtain ⟨_, h7, hf⟩ := ob_some hf
  cases hf
  exact hQ _ _ _ _ _ _ dJ1_charAt_3b067_14 (gch_some h7) hw

def J1_charAt_3b067_f (E : gE) (σ : gS) (l0 : Nat) (l1 : Int32) : Option Int32 := J1_charAt_3b067 E σ l0 l1
set_option maxRecDepth 100000 in
theorem J1_charAt_3b067_M (l : Launch) (E : gE) (D : va_G) (A : Nat → Prop) {l0 : Nat} {l1 : Int32} {σ : gS} {res : Int32} (hf : J1_charAt_3b067_f E σ l0 l1 = some res) : gCI l E D A yJ1_charAt_3b067 cJ1_charAt_3b067 2 2 43 (some FieldType.char) [.ref l0, .int l1] σ (res, σ) := by
  refine gg_entI (own := RJ1) (nm := "charAt") (ty := FieldType.char) (by decide +kernel) rfl rfl (Nat.le_of_ble_eq_true rfl) rfl ?_
  intro p e R s m args below meth c Q ls hC hw hQ hl
  have hl : lv_has ls 2 [(0, .ref l0), (1, .int l1)] := hl
  exact J1_charAt_3b067_W hC hQ hf hw hl

def J7_copyOfRange_39247_10 (E : gE) (l0 : Nat) (l1 : Int32) (l2 : Int32) (σ : gS) : Option (Nat × gS) :=
  ob (J7_copyOfRangeByte_39247_f E l0 l1 l2 σ) fun x1 =>
  some (x1.1, x1.2)
set_option maxHeartbeats 4000000 in
set_option maxRecDepth 100000 in
theorem J7_copyOfRange_39247_10_W {σ : gS} {l0 : Nat} {l1 : Int32} {l2 : Int32} {res : (Nat × gS)} {ls : Array Slot} (hC : gC E D A p R s m args meth c cJ7_copyOfRange_39247 3 RJ7 "copyOfRange" 4 104) (hQ : gQR E D A p l e R s m args below meth c Q cJ7_copyOfRange_39247 res) (hf : J7_copyOfRange_39247_10 E l0 l1 l2 σ = some res) (hw : gW E D A s σ H locs) (hl : lv_has ls 3 [(0, .ref l0), (1, .int l1), (2, .int l2)]) : W p l e R s m args below meth c H locs cells slots Q (F0 m 10 ls []) := by
  have hC0 := hC
  obtain ⟨hx, hb, hml, hown, hts, -⟩ := hC0
  unfold J7_copyOfRange_39247_10 at hf
  refine lv_aload_n hx hb dJ7_copyOfRange_39247_10 rfl (lv_at hl 0 rfl) ?_
  refine lv_iload_n hx hb dJ7_copyOfRange_39247_11 rfl (lv_at hl 1 rfl) ?_
  refine lv_iload_n hx hb dJ7_copyOfRange_39247_12 rfl (lv_at hl 2 rfl) ?_
  obtain ⟨x1, h2, hf⟩ := ob_some hf
  refine gg_cSR (As := [.ref l0, .int l1, .int l2]) hC hw (J7_copyOfRangeByte_39247_M l E D A h2) g_ml_J7_339 hd_J7_copyOfRangeByte_39247.2 (Nat.le_of_ble_eq_true rfl) (Nat.le_of_ble_eq_true rfl) hl.1 rfl (Nat.le_of_ble_eq_true rfl) dJ7_copyOfRange_39247_13 (fun H locs cells slots hw => ?_)
  cases hf
  exact hQ _ _ _ _ _ _ dJ7_copyOfRange_39247_16 hw

def J7_copyOfRange_39247 (E : gE) (l0 : Nat) (l1 : Int32) (l2 : Int32) (σ : gS) : Option (Nat × gS) :=
  if l1 = 0 then
    ob (gal E 1 σ l0) fun x3 =>
    if l2 = x3 then
      ob (gclB E σ l0) fun q7 =>
      ob (gcaB E q7.2 q7.1) fun _ =>
      some (q7.1, q7.2)
    else
      J7_copyOfRange_39247_10 E l0 l1 l2 σ
  else
    J7_copyOfRange_39247_10 E l0 l1 l2 σ
set_option maxHeartbeats 4000000 in
set_option maxRecDepth 100000 in
theorem J7_copyOfRange_39247_W {σ : gS} {l0 : Nat} {l1 : Int32} {l2 : Int32} {res : (Nat × gS)} {ls : Array Slot} (hC : gC E D A p R s m args meth c cJ7_copyOfRange_39247 3 RJ7 "copyOfRange" 4 104) (hQ : gQR E D A p l e R s m args below meth c Q cJ7_copyOfRange_39247 res) (hf : J7_copyOfRange_39247 E l0 l1 l2 σ = some res) (hw : gW E D A s σ H locs) (hl : lv_has ls 3 [(0, .ref l0), (1, .int l1), (2, .int l2)]) : W p l e R s m args below meth c H locs cells slots Q (F0 m 0 ls []) := by
  have hC0 := hC
  obtain ⟨hx, hb, hml, hown, hts, -⟩ := hC0
  unfold J7_copyOfRange_39247 at hf
  refine lv_iload_n hx hb dJ7_copyOfRange_39247_0 rfl (lv_at hl 1 rfl) ?_
  refine lv_if_ne (tgt := 10) hx hb dJ7_copyOfRange_39247_1 (by decide) (fun c10 => ?_) (fun c10 => ?_)
  · replace hf := (if_neg c10).symm.trans hf
    exact J7_copyOfRange_39247_10_W hC hQ hf hw (lv_sub hl [0, 1, 2] rfl)
  · replace hf := (if_pos c10).symm.trans hf
    refine lv_iload_n hx hb dJ7_copyOfRange_39247_4 rfl (lv_at hl 2 rfl) ?_
    refine lv_aload_n hx hb dJ7_copyOfRange_39247_5 rfl (lv_at hl 0 rfl) ?_
    obtain ⟨x3, h4, hf⟩ := ob_some hf
    refine gg_alen hC hw h4 (Or.inr rfl) dJ7_copyOfRange_39247_6 ?_
    refine lv_icmp_eq (tgt := 17) hx hb dJ7_copyOfRange_39247_7 (by decide) (fun c9 => ?_) (fun c9 => ?_)
    · replace hf := (if_pos c9).symm.trans hf
      refine lv_aload_n hx hb dJ7_copyOfRange_39247_17 rfl (lv_at hl 0 rfl) ?_
      obtain ⟨q7, h6, hf⟩ := ob_some hf
      refine gg_clB hC hw h6 ml_J7_310 hl.1 (Nat.le_of_ble_eq_true rfl) (Nat.le_of_ble_eq_true rfl) (Nat.le_of_ble_eq_true rfl) dJ7_copyOfRange_39247_18 (fun H locs cells slots hw => ?_)
      obtain ⟨_, h8, hf⟩ := ob_some hf
      refine gg_castB hC hw h8 cl_J7_311 dJ7_copyOfRange_39247_21 ?_
      cases hf
      exact hQ _ _ _ _ _ _ dJ7_copyOfRange_39247_24 hw
    · replace hf := (if_neg c9).symm.trans hf
      exact J7_copyOfRange_39247_10_W hC hQ hf hw (lv_sub hl [0, 1, 2] rfl)

def J7_copyOfRange_39247_f (E : gE) (l0 : Nat) (l1 : Int32) (l2 : Int32) (σ : gS) : Option (Nat × gS) := J7_copyOfRange_39247 E l0 l1 l2 σ
set_option maxRecDepth 100000 in
theorem J7_copyOfRange_39247_M (l : Launch) (E : gE) (D : va_G) (A : Nat → Prop) {l0 : Nat} {l1 : Int32} {l2 : Int32} {σ : gS} {res : (Nat × gS)} (hf : J7_copyOfRange_39247_f E l0 l1 l2 σ = some res) : gCR l E D A yJ7_copyOfRange_39247 cJ7_copyOfRange_39247 3 4 104 (some (FieldType.array FieldType.byte)) [.ref l0, .int l1, .int l2] σ res := by
  refine gg_entR (own := RJ7) (nm := "copyOfRange") (ty := ((FieldType.array FieldType.byte))) (by decide +kernel) rfl rfl (Nat.le_of_ble_eq_true rfl) rfl (by first | exact Or.inl ⟨_, rfl⟩ | exact Or.inr ⟨_, rfl⟩) ?_
  intro p e R s m args below meth c Q ls hC hw hQ hl
  have hl : lv_has ls 3 [(0, .ref l0), (1, .int l1), (2, .int l2)] := hl
  exact J7_copyOfRange_39247_W hC hQ hf hw hl

def J0_length_8abf5m (E : gE) (σ : gS) (l0 : Nat) : Option Int32 :=
  ob (gfR σ l0 12 0) fun x1 =>
  ob (gal E 1 σ x1) fun x3 =>
  ob (gcl σ l0 12) fun _ =>
  ob (J0_coder_7d493m_f E σ l0) fun x5 =>
  some (x3 >>> (x5 &&& 31))
set_option maxHeartbeats 4000000 in
set_option maxRecDepth 100000 in
theorem J0_length_8abf5m_W {σ : gS} {l0 : Nat} {res : Int32} {ls : Array Slot} (hC : gC E D A p R s m args meth c cJ0_length_8abf5 1 RJ0 "length" 1 20) (hQ : gQI E D A p l e R s m args below meth c Q cJ0_length_8abf5 FieldType.int (res, σ)) (hf : J0_length_8abf5m E σ l0 = some res) (hw : gW E D A s σ H locs) (hl : lv_has ls 1 [(0, .ref l0)]) : W p l e R s m args below meth c H locs cells slots Q (F0 m 0 ls []) := by
  have hC0 := hC
  obtain ⟨hx, hb, hml, hown, hts, -⟩ := hC0
  unfold J0_length_8abf5m at hf
  refine lv_aload_n hx hb dJ0_length_8abf5_0 rfl (lv_at hl 0 rfl) ?_
  obtain ⟨x1, h2, hf⟩ := ob_some hf
  refine rR_fl_J0_9 hC hw h2 dJ0_length_8abf5_1 ?_
  obtain ⟨x3, h4, hf⟩ := ob_some hf
  refine gg_alen hC hw h4 (Or.inr rfl) dJ0_length_8abf5_4 ?_
  refine lv_aload_n hx hb dJ0_length_8abf5_5 rfl (lv_at hl 0 rfl) ?_
  obtain ⟨_, h7, hf⟩ := ob_some hf
  obtain ⟨x5, h6, hf⟩ := ob_some hf
  refine gg_cVI (As := []) hC hw (J0_coder_7d493m_M l E D A h6) h7 rfl g_ml_J0_335 hd_J0_coder_7d493 (Nat.le_of_ble_eq_true rfl) (Nat.le_of_ble_eq_true rfl) hl.1 rfl (Nat.le_of_ble_eq_true rfl) dJ0_length_8abf5_6 (fun H locs cells slots hw => ?_)
  refine lv_ishr hx hb dJ0_length_8abf5_9 ?_
  cases hf
  exact hQ _ _ _ _ _ _ dJ0_length_8abf5_10 rfl hw

def J0_length_8abf5m_f (E : gE) (σ : gS) (l0 : Nat) : Option Int32 := J0_length_8abf5m E σ l0
set_option maxRecDepth 100000 in
theorem J0_length_8abf5m_M (l : Launch) (E : gE) (D : va_G) (A : Nat → Prop) {l0 : Nat} {σ : gS} {res : Int32} (hf : J0_length_8abf5m_f E σ l0 = some res) : gCI l E D A yJ0_length_8abf5 cJ0_length_8abf5 1 1 20 (some FieldType.int) [.ref l0] σ (res, σ) := by
  refine gg_entI (own := RJ0) (nm := "length") (ty := FieldType.int) (by decide +kernel) rfl rfl (Nat.le_of_ble_eq_true rfl) rfl ?_
  intro p e R s m args below meth c Q ls hC hw hQ hl
  have hl : lv_has ls 1 [(0, .ref l0)] := hl
  exact J0_length_8abf5m_W hC hQ hf hw hl

def J0_charAt_5068em (E : gE) (σ : gS) (l0 : Nat) (l1 : Int32) : Option Int32 :=
  ob (gcl σ l0 12) fun _ =>
  ob (J0_isLatin1_aae02m_f E σ l0) fun x1 =>
  if x1 = 0 then
    ob (gfR σ l0 12 0) fun x4 =>
    none
  else
    ob (gfR σ l0 12 0) fun x8 =>
    ob (J1_charAt_3b067_f E σ x8 l1) fun x10 =>
    ob (gch x10) fun _ =>
    some x10
set_option maxHeartbeats 4000000 in
set_option maxRecDepth 100000 in
theorem J0_charAt_5068em_W {σ : gS} {l0 : Nat} {l1 : Int32} {res : Int32} {ls : Array Slot} (hC : gC E D A p R s m args meth c cJ0_charAt_5068e 2 RJ0 "charAt" 4 85) (hQ : gQI E D A p l e R s m args below meth c Q cJ0_charAt_5068e FieldType.char (res, σ)) (hf : J0_charAt_5068em E σ l0 l1 = some res) (hw : gW E D A s σ H locs) (hl : lv_has ls 2 [(0, .ref l0), (1, .int l1)]) : W p l e R s m args below meth c H locs cells slots Q (F0 m 0 ls []) := by
  have hC0 := hC
  obtain ⟨hx, hb, hml, hown, hts, -⟩ := hC0
  unfold J0_charAt_5068em at hf
  refine lv_aload_n hx hb dJ0_charAt_5068e_0 rfl (lv_at hl 0 rfl) ?_
  obtain ⟨_, h3, hf⟩ := ob_some hf
  obtain ⟨x1, h2, hf⟩ := ob_some hf
  refine gg_cVI (As := []) hC hw (J0_isLatin1_aae02m_M l E D A h2) h3 rfl g_ml_J0_492 hd_J0_isLatin1_aae02 (Nat.le_of_ble_eq_true rfl) (Nat.le_of_ble_eq_true rfl) hl.1 rfl (Nat.le_of_ble_eq_true rfl) dJ0_charAt_5068e_1 (fun H locs cells slots hw => ?_)
  refine lv_if_eq (tgt := 16) hx hb dJ0_charAt_5068e_4 (by decide) (fun c13 => ?_) (fun c13 => ?_)
  · replace hf := (if_pos c13).symm.trans hf
    refine lv_aload_n hx hb dJ0_charAt_5068e_16 rfl (lv_at hl 0 rfl) ?_
    obtain ⟨x4, h5, hf⟩ := ob_some hf
    refine rR_fl_J0_9 hC hw h5 dJ0_charAt_5068e_17 ?_
    refine lv_iload_n hx hb dJ0_charAt_5068e_20 rfl (lv_at hl 1 rfl) ?_
    cases hf
  · replace hf := (if_neg c13).symm.trans hf
    refine lv_aload_n hx hb dJ0_charAt_5068e_7 rfl (lv_at hl 0 rfl) ?_
    obtain ⟨x8, h9, hf⟩ := ob_some hf
    refine rR_fl_J0_9 hC hw h9 dJ0_charAt_5068e_8 ?_
    refine lv_iload_n hx hb dJ0_charAt_5068e_11 rfl (lv_at hl 1 rfl) ?_
    obtain ⟨x10, h11, hf⟩ := ob_some hf
    refine gg_cSI (As := [.ref x8, .int l1]) hC hw (J1_charAt_3b067_M l E D A h11) g_ml_J0_495 hd_J1_charAt_3b067.2 (Nat.le_of_ble_eq_true rfl) (Nat.le_of_ble_eq_true rfl) hl.1 rfl (Nat.le_of_ble_eq_true rfl) dJ0_charAt_5068e_12 (fun H locs cells slots hw => ?_)
    obtain ⟨_, h12, hf⟩ := ob_some hf
    cases hf
    exact hQ _ _ _ _ _ _ dJ0_charAt_5068e_15 (gch_some h12) hw

def J0_charAt_5068em_f (E : gE) (σ : gS) (l0 : Nat) (l1 : Int32) : Option Int32 := J0_charAt_5068em E σ l0 l1
set_option maxRecDepth 100000 in
theorem J0_charAt_5068em_M (l : Launch) (E : gE) (D : va_G) (A : Nat → Prop) {l0 : Nat} {l1 : Int32} {σ : gS} {res : Int32} (hf : J0_charAt_5068em_f E σ l0 l1 = some res) : gCI l E D A yJ0_charAt_5068e cJ0_charAt_5068e 2 4 85 (some FieldType.char) [.ref l0, .int l1] σ (res, σ) := by
  refine gg_entI (own := RJ0) (nm := "charAt") (ty := FieldType.char) (by decide +kernel) rfl rfl (Nat.le_of_ble_eq_true rfl) rfl ?_
  intro p e R s m args below meth c Q ls hC hw hQ hl
  have hl : lv_has ls 2 [(0, .ref l0), (1, .int l1)] := hl
  exact J0_charAt_5068em_W hC hQ hf hw hl

def X1_append (E : gE) (l0 : Nat) (l1 : Int32) (σ : gS) : Option gS :=
  ob (gfI σ l0 0 2) fun x1 =>
  if (60 : Int32) ≤ x1 then
    some σ
  else
    ob (gfR σ l0 0 0) fun x3 =>
    ob (gfI σ l0 0 2) fun x5 =>
    ob (gwaI E σ x3 x5 l1) fun σ7 =>
    ob (gfI σ7 l0 0 2) fun x9 =>
    ob (gpf E σ7 l0 0 2 (.int (x9 + (1 : Int32)))) fun σ11 =>
    ob (gfR σ11 l0 0 1) fun x13 =>
    ob (gcl σ11 x13 2) fun _ =>
    ob (X3_insert_f E x13 l1 σ11) fun x15 =>
    some x15
set_option maxHeartbeats 4000000 in
set_option maxRecDepth 100000 in
theorem X1_append_W {σ : gS} {l0 : Nat} {l1 : Int32} {σz : gS} {ls : Array Slot} (hC : gC E D A p R s m args meth c cX1_append 2 RX1 "append" 5 124) (hQ : gQV E D A p l e R s m args below meth c Q cX1_append σz) (hf : X1_append E l0 l1 σ = some σz) (hw : gW E D A s σ H locs) (hl : lv_has ls 2 [(0, .ref l0), (1, .int l1)]) : W p l e R s m args below meth c H locs cells slots Q (F0 m 0 ls []) := by
  have hC0 := hC
  obtain ⟨hx, hb, hml, hown, hts, -⟩ := hC0
  unfold X1_append at hf
  refine lv_aload_n hx hb dX1_append_0 rfl (lv_at hl 0 rfl) ?_
  obtain ⟨x1, h2, hf⟩ := ob_some hf
  refine rI_fl_X1_22 hC hw h2 dX1_append_1 ?_
  refine lv_bipush (v := 60) hx hb dX1_append_4 (by decide) ?_
  refine lv_icmp_ge (tgt := 37) hx hb dX1_append_6 (by decide) (fun c18 => ?_) (fun c18 => ?_)
  · replace hf := (if_pos c18).symm.trans hf
    cases hf
    exact hQ _ _ _ _ _ _ dX1_append_37 hw
  · replace hf := (if_neg c18).symm.trans hf
    refine lv_aload_n hx hb dX1_append_9 rfl (lv_at hl 0 rfl) ?_
    obtain ⟨x3, h4, hf⟩ := ob_some hf
    refine rR_fl_X1_9 hC hw h4 dX1_append_10 ?_
    refine lv_aload_n hx hb dX1_append_13 rfl (lv_at hl 0 rfl) ?_
    obtain ⟨x5, h6, hf⟩ := ob_some hf
    refine rI_fl_X1_22 hC hw h6 dX1_append_14 ?_
    refine lv_iload_n hx hb dX1_append_17 rfl (lv_at hl 1 rfl) ?_
    obtain ⟨σ7, h8, hf⟩ := ob_some hf
    refine gg_astI hC hw h8 dX1_append_18 (fun H locs hw => ?_)
    refine lv_aload_n hx hb dX1_append_19 rfl (lv_at hl 0 rfl) ?_
    refine lv_dup hx hb dX1_append_20 rfl ?_
    obtain ⟨x9, h10, hf⟩ := ob_some hf
    refine rI_fl_X1_22 hC hw h10 dX1_append_21 ?_
    refine lv_iconst (v := 1) hx hb dX1_append_24 (by decide) ?_
    refine lv_iadd hx hb dX1_append_25 ?_
    obtain ⟨σ11, h12, hf⟩ := ob_some hf
    refine p_fl_X1_22 hC hw h12 rfl rfl dX1_append_26 (fun H locs hw => ?_)
    refine lv_aload_n hx hb dX1_append_29 rfl (lv_at hl 0 rfl) ?_
    obtain ⟨x13, h14, hf⟩ := ob_some hf
    refine rR_fl_X1_18 hC hw h14 dX1_append_30 ?_
    refine lv_iload_n hx hb dX1_append_33 rfl (lv_at hl 1 rfl) ?_
    obtain ⟨_, h17, hf⟩ := ob_some hf
    obtain ⟨x15, h16, hf⟩ := ob_some hf
    refine gg_cVV (As := [.int l1]) hC hw (X3_insert_M l E D A h16) h17 rfl g_ml_X1_33 hd_X3_insert (Nat.le_of_ble_eq_true rfl) (Nat.le_of_ble_eq_true rfl) hl.1 rfl (Nat.le_of_ble_eq_true rfl) dX1_append_34 (fun H locs cells slots hw => ?_)
    cases hf
    exact hQ _ _ _ _ _ _ dX1_append_37 hw

def X1_append_f (E : gE) (l0 : Nat) (l1 : Int32) (σ : gS) : Option gS := X1_append E l0 l1 σ
set_option maxRecDepth 100000 in
theorem X1_append_M (l : Launch) (E : gE) (D : va_G) (A : Nat → Prop) {l0 : Nat} {l1 : Int32} {σ : gS} {σz : gS} (hf : X1_append_f E l0 l1 σ = some σz) : gCV l E D A yX1_append cX1_append 2 5 124 none [.ref l0, .int l1] σ σz := by
  refine gg_entV (own := RX1) (nm := "append") (by decide +kernel) rfl rfl (Nat.le_of_ble_eq_true rfl) rfl ?_
  intro p e R s m args below meth c Q ls hC hw hQ hl
  have hl : lv_has ls 2 [(0, .ref l0), (1, .int l1)] := hl
  exact X1_append_W hC hQ hf hw hl

def X1_put (E : gE) (l0 : Nat) (l1 : Int32) (l2 : Int32) (σ : gS) : Option gS :=
  ob (gfR σ l0 0 0) fun x1 =>
  ob (gwaI E σ x1 l1 l2) fun σ3 =>
  ob (gfR σ3 l0 0 1) fun x5 =>
  ob (gcl σ3 x5 2) fun _ =>
  ob (X3_insert_f E x5 l2 σ3) fun x7 =>
  some x7
set_option maxHeartbeats 4000000 in
set_option maxRecDepth 100000 in
theorem X1_put_W {σ : gS} {l0 : Nat} {l1 : Int32} {l2 : Int32} {σz : gS} {ls : Array Slot} (hC : gC E D A p R s m args meth c cX1_put 3 RX1 "put" 5 124) (hQ : gQV E D A p l e R s m args below meth c Q cX1_put σz) (hf : X1_put E l0 l1 l2 σ = some σz) (hw : gW E D A s σ H locs) (hl : lv_has ls 3 [(0, .ref l0), (1, .int l1), (2, .int l2)]) : W p l e R s m args below meth c H locs cells slots Q (F0 m 0 ls []) := by
  have hC0 := hC
  obtain ⟨hx, hb, hml, hown, hts, -⟩ := hC0
  unfold X1_put at hf
  refine lv_aload_n hx hb dX1_put_0 rfl (lv_at hl 0 rfl) ?_
  obtain ⟨x1, h2, hf⟩ := ob_some hf
  refine rR_fl_X1_9 hC hw h2 dX1_put_1 ?_
  refine lv_iload_n hx hb dX1_put_4 rfl (lv_at hl 1 rfl) ?_
  refine lv_iload_n hx hb dX1_put_5 rfl (lv_at hl 2 rfl) ?_
  obtain ⟨σ3, h4, hf⟩ := ob_some hf
  refine gg_astI hC hw h4 dX1_put_6 (fun H locs hw => ?_)
  refine lv_aload_n hx hb dX1_put_7 rfl (lv_at hl 0 rfl) ?_
  obtain ⟨x5, h6, hf⟩ := ob_some hf
  refine rR_fl_X1_18 hC hw h6 dX1_put_8 ?_
  refine lv_iload_n hx hb dX1_put_11 rfl (lv_at hl 2 rfl) ?_
  obtain ⟨_, h9, hf⟩ := ob_some hf
  obtain ⟨x7, h8, hf⟩ := ob_some hf
  refine gg_cVV (As := [.int l2]) hC hw (X3_insert_M l E D A h8) h9 rfl g_ml_X1_33 hd_X3_insert (Nat.le_of_ble_eq_true rfl) (Nat.le_of_ble_eq_true rfl) hl.1 rfl (Nat.le_of_ble_eq_true rfl) dX1_put_12 (fun H locs cells slots hw => ?_)
  cases hf
  exact hQ _ _ _ _ _ _ dX1_put_15 hw

def X1_put_f (E : gE) (l0 : Nat) (l1 : Int32) (l2 : Int32) (σ : gS) : Option gS := X1_put E l0 l1 l2 σ
set_option maxRecDepth 100000 in
theorem X1_put_M (l : Launch) (E : gE) (D : va_G) (A : Nat → Prop) {l0 : Nat} {l1 : Int32} {l2 : Int32} {σ : gS} {σz : gS} (hf : X1_put_f E l0 l1 l2 σ = some σz) : gCV l E D A yX1_put cX1_put 3 5 124 none [.ref l0, .int l1, .int l2] σ σz := by
  refine gg_entV (own := RX1) (nm := "put") (by decide +kernel) rfl rfl (Nat.le_of_ble_eq_true rfl) rfl ?_
  intro p e R s m args below meth c Q ls hC hw hQ hl
  have hl : lv_has ls 3 [(0, .ref l0), (1, .int l1), (2, .int l2)] := hl
  exact X1_put_W hC hQ hf hw hl

def X1_collectInto_6_s (E : gE) (r_6 : Nat → Nat → Int32 → gS → Option gS) (l0 : Nat) (l1 : Nat) (l2 : Int32) (σ : gS) : Option gS :=
  ob (gfI σ l0 0 2) fun x1 =>
  if x1 ≤ l2 then
    some σ
  else
    ob (gfR σ l0 0 0) fun x3 =>
    ob (graI E 0 σ x3 l2) fun x5 =>
    ob (gcl σ l1 2) fun _ =>
    ob (X3_insert_f E l1 x5 σ) fun x7 =>
    r_6 l0 l1 (l2 + 1) x7
set_option maxHeartbeats 4000000 in
set_option maxRecDepth 100000 in
theorem X1_collectInto_6_s_W {σ : gS} {l0 : Nat} {l1 : Nat} {l2 : Int32} {σz : gS} {ls : Array Slot} (hC : gC E D A p R s m args meth c cX1_collectInto 3 RX1 "collectInto" 5 124) (hQ : gQV E D A p l e R s m args below meth c Q cX1_collectInto σz) {r_6 : Nat → Nat → Int32 → gS → Option gS} (h_6 : ∀ {l0 : Nat} {l1 : Nat} {l2 : Int32} {σ : gS} {H : Heap} {locs : List Loc} {cells slots : Nat} {ls : Array Slot}, r_6 l0 l1 l2 σ = some σz → gW E D A s σ H locs → lv_has ls 3 [(0, .ref l0), (1, .ref l1), (2, .int l2)] → W p l e R s m args below meth c H locs cells slots Q (F0 m 6 ls [])) (hf : X1_collectInto_6_s E r_6 l0 l1 l2 σ = some σz) (hw : gW E D A s σ H locs) (hl : lv_has ls 3 [(0, .ref l0), (1, .ref l1), (2, .int l2)]) : W p l e R s m args below meth c H locs cells slots Q (F0 m 6 ls []) := by
  have hC0 := hC
  obtain ⟨hx, hb, hml, hown, hts, -⟩ := hC0
  unfold X1_collectInto_6_s at hf
  refine lv_iload_n hx hb dX1_collectInto_6 rfl (lv_at hl 2 rfl) ?_
  refine lv_aload_n hx hb dX1_collectInto_7 rfl (lv_at hl 0 rfl) ?_
  obtain ⟨x1, h2, hf⟩ := ob_some hf
  refine rI_fl_X1_22 hC hw h2 dX1_collectInto_8 ?_
  refine lv_icmp_ge (tgt := 30) hx hb dX1_collectInto_11 (by decide) (fun c10 => ?_) (fun c10 => ?_)
  · replace hf := (if_pos c10).symm.trans hf
    cases hf
    exact hQ _ _ _ _ _ _ dX1_collectInto_30 hw
  · replace hf := (if_neg c10).symm.trans hf
    refine lv_aload_n hx hb dX1_collectInto_14 rfl (lv_at hl 1 rfl) ?_
    refine lv_aload_n hx hb dX1_collectInto_15 rfl (lv_at hl 0 rfl) ?_
    obtain ⟨x3, h4, hf⟩ := ob_some hf
    refine rR_fl_X1_9 hC hw h4 dX1_collectInto_16 ?_
    refine lv_iload_n hx hb dX1_collectInto_19 rfl (lv_at hl 2 rfl) ?_
    obtain ⟨x5, h6, hf⟩ := ob_some hf
    refine gg_aldI hC hw h6 dX1_collectInto_20 ?_
    obtain ⟨_, h9, hf⟩ := ob_some hf
    obtain ⟨x7, h8, hf⟩ := ob_some hf
    refine gg_cVV (As := [.int x5]) hC hw (X3_insert_M l E D A h8) h9 rfl g_ml_X1_33 hd_X3_insert (Nat.le_of_ble_eq_true rfl) (Nat.le_of_ble_eq_true rfl) hl.1 rfl (Nat.le_of_ble_eq_true rfl) dX1_collectInto_21 (fun H locs cells slots hw => ?_)
    refine lv_iinc (v := (l2 + 1)) (lv' := [(2, .int (l2 + 1)), (0, .ref l0), (1, .ref l1)]) hx hb dX1_collectInto_24 hl (k := 2) rfl rfl (by decide) rfl (fun ls hl => ?_)
    refine lv_goto (tgt := 6) hx hb dX1_collectInto_27 (by decide) ?_
    exact h_6 hf hw (lv_sub hl [1, 2, 0] rfl)
def X1_collectInto_6 (E : gE) : Nat → Nat → Nat → Int32 → gS → Option gS
  | 0 => fun _ _ _ _ => none
  | n + 1 => X1_collectInto_6_s E (X1_collectInto_6 E n)
theorem X1_collectInto_6_W {σz : gS} (hC : gC E D A p R s m args meth c cX1_collectInto 3 RX1 "collectInto" 5 124) (hQ : gQV E D A p l e R s m args below meth c Q cX1_collectInto σz) : ∀ (n : Nat), ∀ {l0 : Nat} {l1 : Nat} {l2 : Int32} {σ : gS} {H : Heap} {locs : List Loc} {cells slots : Nat} {ls : Array Slot}, X1_collectInto_6 E n l0 l1 l2 σ = some σz → gW E D A s σ H locs → lv_has ls 3 [(0, .ref l0), (1, .ref l1), (2, .int l2)] → W p l e R s m args below meth c H locs cells slots Q (F0 m 6 ls []) := by
  intro n
  induction n with
  | zero =>
    intros
    rename_i hf _ _
    exact absurd hf (fun h => by cases (show (none : Option gS) = some σz from h))
  | succ n ih =>
    intros
    rename_i hf hw hl
    exact X1_collectInto_6_s_W hC hQ ih hf hw hl

def X1_collectInto (E : gE) (l0 : Nat) (l1 : Nat) (σ : gS) : Option gS :=
  ob (gcl σ l1 2) fun _ =>
  ob (X3_clear_f E l1 σ) fun x11 =>
  X1_collectInto_6 E (gN E) l0 l1 (0 : Int32) x11
set_option maxHeartbeats 4000000 in
set_option maxRecDepth 100000 in
theorem X1_collectInto_W {σ : gS} {l0 : Nat} {l1 : Nat} {σz : gS} {ls : Array Slot} (hC : gC E D A p R s m args meth c cX1_collectInto 3 RX1 "collectInto" 5 124) (hQ : gQV E D A p l e R s m args below meth c Q cX1_collectInto σz) (hf : X1_collectInto E l0 l1 σ = some σz) (hw : gW E D A s σ H locs) (hl : lv_has ls 3 [(0, .ref l0), (1, .ref l1)]) : W p l e R s m args below meth c H locs cells slots Q (F0 m 0 ls []) := by
  have hC0 := hC
  obtain ⟨hx, hb, hml, hown, hts, -⟩ := hC0
  unfold X1_collectInto at hf
  refine lv_aload_n hx hb dX1_collectInto_0 rfl (lv_at hl 1 rfl) ?_
  obtain ⟨_, h13, hf⟩ := ob_some hf
  obtain ⟨x11, h12, hf⟩ := ob_some hf
  refine gg_cVV (As := []) hC hw (X3_clear_M l E D A h12) h13 rfl g_ml_X1_30 hd_X3_clear (Nat.le_of_ble_eq_true rfl) (Nat.le_of_ble_eq_true rfl) hl.1 rfl (Nat.le_of_ble_eq_true rfl) dX1_collectInto_1 (fun H locs cells slots hw => ?_)
  refine lv_iconst (v := 0) hx hb dX1_collectInto_4 (by decide) ?_
  refine lv_istore_n (lv' := [(2, .int (0 : Int32)), (0, .ref l0), (1, .ref l1)]) hx hb dX1_collectInto_5 rfl hl (by decide) rfl (fun ls hl => ?_)
  exact X1_collectInto_6_W hC hQ (gN E) hf hw (lv_sub hl [1, 2, 0] rfl)

def X1_collectInto_f (E : gE) (l0 : Nat) (l1 : Nat) (σ : gS) : Option gS := X1_collectInto E l0 l1 σ
set_option maxRecDepth 100000 in
theorem X1_collectInto_M (l : Launch) (E : gE) (D : va_G) (A : Nat → Prop) {l0 : Nat} {l1 : Nat} {σ : gS} {σz : gS} (hf : X1_collectInto_f E l0 l1 σ = some σz) : gCV l E D A yX1_collectInto cX1_collectInto 3 5 124 none [.ref l0, .ref l1] σ σz := by
  refine gg_entV (own := RX1) (nm := "collectInto") (by decide +kernel) rfl rfl (Nat.le_of_ble_eq_true rfl) rfl ?_
  intro p e R s m args below meth c Q ls hC hw hQ hl
  have hl : lv_has ls 3 [(0, .ref l0), (1, .ref l1)] := hl
  exact X1_collectInto_W hC hQ hf hw hl

def X1_dropStale (E : gE) (l0 : Nat) (σ : gS) : Option gS :=
  ob (gfR σ l0 0 1) fun x1 =>
  ob (gcl σ l0 0) fun _ =>
  ob (X1_collectInto_f E l0 x1 σ) fun x3 =>
  some x3
set_option maxHeartbeats 4000000 in
set_option maxRecDepth 100000 in
theorem X1_dropStale_W {σ : gS} {l0 : Nat} {σz : gS} {ls : Array Slot} (hC : gC E D A p R s m args meth c cX1_dropStale 1 RX1 "dropStale" 6 146) (hQ : gQV E D A p l e R s m args below meth c Q cX1_dropStale σz) (hf : X1_dropStale E l0 σ = some σz) (hw : gW E D A s σ H locs) (hl : lv_has ls 1 [(0, .ref l0)]) : W p l e R s m args below meth c H locs cells slots Q (F0 m 0 ls []) := by
  have hC0 := hC
  obtain ⟨hx, hb, hml, hown, hts, -⟩ := hC0
  unfold X1_dropStale at hf
  refine lv_aload_n hx hb dX1_dropStale_0 rfl (lv_at hl 0 rfl) ?_
  refine lv_aload_n hx hb dX1_dropStale_1 rfl (lv_at hl 0 rfl) ?_
  obtain ⟨x1, h2, hf⟩ := ob_some hf
  refine rR_fl_X1_18 hC hw h2 dX1_dropStale_2 ?_
  obtain ⟨_, h5, hf⟩ := ob_some hf
  obtain ⟨x3, h4, hf⟩ := ob_some hf
  refine gg_cVV (As := [.ref x1]) hC hw (X1_collectInto_M l E D A h4) h5 rfl g_ml_X1_43 hd_X1_collectInto (Nat.le_of_ble_eq_true rfl) (Nat.le_of_ble_eq_true rfl) hl.1 rfl (Nat.le_of_ble_eq_true rfl) dX1_dropStale_5 (fun H locs cells slots hw => ?_)
  cases hf
  exact hQ _ _ _ _ _ _ dX1_dropStale_8 hw

def X1_dropStale_f (E : gE) (l0 : Nat) (σ : gS) : Option gS := X1_dropStale E l0 σ
set_option maxRecDepth 100000 in
theorem X1_dropStale_M (l : Launch) (E : gE) (D : va_G) (A : Nat → Prop) {l0 : Nat} {σ : gS} {σz : gS} (hf : X1_dropStale_f E l0 σ = some σz) : gCV l E D A yX1_dropStale cX1_dropStale 1 6 146 none [.ref l0] σ σz := by
  refine gg_entV (own := RX1) (nm := "dropStale") (by decide +kernel) rfl rfl (Nat.le_of_ble_eq_true rfl) rfl ?_
  intro p e R s m args below meth c Q ls hC hw hQ hl
  have hl : lv_has ls 1 [(0, .ref l0)] := hl
  exact X1_dropStale_W hC hQ hf hw hl

def X5_init_15_s (E : gE) (r_15 : Nat → Int32 → gS → Option gS) (l0 : Nat) (l1 : Int32) (σ : gS) : Option gS :=
  if (8 : Int32) ≤ l1 then
    some σ
  else
    ob (gfR σ l0 4 0) fun x1 =>
    ob (gnew E σ 9 [.null, .int 0, .null]) fun q3 =>
    ob (X11_init_f E q3.1 q3.2) fun x5 =>
    ob (gwaR E 5 9 x5 x1 l1 q3.1) fun σ7 =>
    r_15 l0 (l1 + 1) σ7
set_option maxHeartbeats 4000000 in
set_option maxRecDepth 100000 in
theorem X5_init_15_s_W {σ : gS} {l0 : Nat} {l1 : Int32} {σz : gS} {ls : Array Slot} (hC : gC E D A p R s m args meth c cX5_init 2 RX5 "<init>" 6 141) (hQ : gQV E D A p l e R s m args below meth c Q cX5_init σz) {r_15 : Nat → Int32 → gS → Option gS} (h_15 : ∀ {l0 : Nat} {l1 : Int32} {σ : gS} {H : Heap} {locs : List Loc} {cells slots : Nat} {ls : Array Slot}, r_15 l0 l1 σ = some σz → gW E D A s σ H locs → lv_has ls 2 [(0, .ref l0), (1, .int l1)] → W p l e R s m args below meth c H locs cells slots Q (F0 m 15 ls [])) (hf : X5_init_15_s E r_15 l0 l1 σ = some σz) (hw : gW E D A s σ H locs) (hl : lv_has ls 2 [(0, .ref l0), (1, .int l1)]) : W p l e R s m args below meth c H locs cells slots Q (F0 m 15 ls []) := by
  have hC0 := hC
  obtain ⟨hx, hb, hml, hown, hts, -⟩ := hC0
  unfold X5_init_15_s at hf
  refine lv_iload_n hx hb dX5_init_15 rfl (lv_at hl 1 rfl) ?_
  refine lv_bipush (v := 8) hx hb dX5_init_16 (by decide) ?_
  refine lv_icmp_ge (tgt := 40) hx hb dX5_init_18 (by decide) (fun c9 => ?_) (fun c9 => ?_)
  · replace hf := (if_pos c9).symm.trans hf
    cases hf
    exact hQ _ _ _ _ _ _ dX5_init_40 hw
  · replace hf := (if_neg c9).symm.trans hf
    refine lv_aload_n hx hb dX5_init_21 rfl (lv_at hl 0 rfl) ?_
    obtain ⟨x1, h2, hf⟩ := ob_some hf
    refine rR_fl_X5_11 hC hw h2 dX5_init_22 ?_
    refine lv_iload_n hx hb dX5_init_25 rfl (lv_at hl 1 rfl) ?_
    obtain ⟨q3, h4, hf⟩ := ob_some hf
    refine n_cl_X5_9 hC hw h4 dX5_init_26 (fun H locs cells slots hw => ?_)
    refine lv_dup hx hb dX5_init_29 rfl ?_
    obtain ⟨x5, h6, hf⟩ := ob_some hf
    refine gg_cIV (rt := none) (As := []) hC hw (X11_init_M l E D A h6) co_X11_init in_X11 ml_X5_17 im_X11_init rfl hd_X11_init.2 (Nat.le_of_ble_eq_true rfl) (Nat.le_of_ble_eq_true rfl) hl.1 rfl (Nat.le_of_ble_eq_true rfl) dX5_init_30 (fun H locs cells slots hw => ?_)
    obtain ⟨σ7, h8, hf⟩ := ob_some hf
    refine gg_astR hC hw h8 rfl rfl dX5_init_33 (fun H locs hw => ?_)
    refine lv_iinc (v := (l1 + 1)) (lv' := [(1, .int (l1 + 1)), (0, .ref l0)]) hx hb dX5_init_34 hl (k := 1) rfl rfl (by decide) rfl (fun ls hl => ?_)
    refine lv_goto (tgt := 15) hx hb dX5_init_37 (by decide) ?_
    exact h_15 hf hw (lv_sub hl [1, 0] rfl)
def X5_init_15 (E : gE) : Nat → Nat → Int32 → gS → Option gS
  | 0 => fun _ _ _ => none
  | n + 1 => X5_init_15_s E (X5_init_15 E n)
theorem X5_init_15_W {σz : gS} (hC : gC E D A p R s m args meth c cX5_init 2 RX5 "<init>" 6 141) (hQ : gQV E D A p l e R s m args below meth c Q cX5_init σz) : ∀ (n : Nat), ∀ {l0 : Nat} {l1 : Int32} {σ : gS} {H : Heap} {locs : List Loc} {cells slots : Nat} {ls : Array Slot}, X5_init_15 E n l0 l1 σ = some σz → gW E D A s σ H locs → lv_has ls 2 [(0, .ref l0), (1, .int l1)] → W p l e R s m args below meth c H locs cells slots Q (F0 m 15 ls []) := by
  intro n
  induction n with
  | zero =>
    intros
    rename_i hf _ _
    exact absurd hf (fun h => by cases (show (none : Option gS) = some σz from h))
  | succ n ih =>
    intros
    rename_i hf hw hl
    exact X5_init_15_s_W hC hQ ih hf hw hl

def X5_init (E : gE) (l0 : Nat) (σ : gS) : Option gS :=
  ob (gnaR E 5 σ (8 : Int32)) fun q10 =>
  ob (gpf E q10.2 l0 4 0 (.ref q10.1)) fun σ12 =>
  X5_init_15 E (gN E) l0 (0 : Int32) σ12
set_option maxHeartbeats 4000000 in
set_option maxRecDepth 100000 in
theorem X5_init_W {σ : gS} {l0 : Nat} {σz : gS} {ls : Array Slot} (hC : gC E D A p R s m args meth c cX5_init 2 RX5 "<init>" 6 141) (hQ : gQV E D A p l e R s m args below meth c Q cX5_init σz) (hf : X5_init E l0 σ = some σz) (hw : gW E D A s σ H locs) (hl : lv_has ls 2 [(0, .ref l0)]) : W p l e R s m args below meth c H locs cells slots Q (F0 m 0 ls []) := by
  have hC0 := hC
  obtain ⟨hx, hb, hml, hown, hts, -⟩ := hC0
  unfold X5_init at hf
  refine lv_aload_n hx hb dX5_init_0 rfl (lv_at hl 0 rfl) ?_
  refine gg_obj hC rfl (hts _ ml_X5_3) hl.1 (Nat.le_of_ble_eq_true rfl) dX5_init_1 (Nat.le_of_ble_eq_true rfl) (Nat.le_of_ble_eq_true rfl) ?_
  refine lv_aload_n hx hb dX5_init_4 rfl (lv_at hl 0 rfl) ?_
  refine lv_bipush (v := 8) hx hb dX5_init_5 (by decide) ?_
  obtain ⟨q10, h11, hf⟩ := ob_some hf
  refine na_cl_X5_9 hC hw h11 dX5_init_7 (fun H locs cells slots hw => ?_)
  obtain ⟨σ12, h13, hf⟩ := ob_some hf
  refine pF_fl_X5_11 hC hw h13 rfl rfl dX5_init_10 (fun H locs hw => ?_)
  refine lv_iconst (v := 0) hx hb dX5_init_13 (by decide) ?_
  refine lv_istore_n (lv' := [(1, .int (0 : Int32)), (0, .ref l0)]) hx hb dX5_init_14 rfl hl (by decide) rfl (fun ls hl => ?_)
  exact X5_init_15_W hC hQ (gN E) hf hw (lv_sub hl [1, 0] rfl)

def X5_init_f (E : gE) (l0 : Nat) (σ : gS) : Option gS := X5_init E l0 σ
set_option maxRecDepth 100000 in
theorem X5_init_M (l : Launch) (E : gE) (D : va_G) (A : Nat → Prop) {l0 : Nat} {σ : gS} {σz : gS} (hf : X5_init_f E l0 σ = some σz) : gCV l E D A yX5_init cX5_init 2 6 141 none [.ref l0] σ σz := by
  refine gg_entV (own := RX5) (nm := "<init>") (by decide +kernel) rfl rfl (Nat.le_of_ble_eq_true rfl) rfl ?_
  intro p e R s m args below meth c Q ls hC hw hQ hl
  have hl : lv_has ls 2 [(0, .ref l0)] := hl
  exact X5_init_W hC hQ hf hw hl

def X5_record (E : gE) (l0 : Nat) (l1 : Nat) (σ : gS) : Option gS :=
  ob (gfR σ l0 4 0) fun x1 =>
  ob (gfI σ l0 4 1) fun x3 =>
  ob (graR E 5 σ x1 x3) fun x5 =>
  ob (gcl σ x5 9) fun _ =>
  ob (X11_copyFrom_f E x5 l1 σ) fun x7 =>
  ob (gfI x7 l0 4 1) fun x10 =>
  ob (gpf E x7 l0 4 1 (.int ((x10 + (1 : Int32)) - (x10 + (1 : Int32)) / (8 : Int32) * (8 : Int32)))) fun σ12 =>
  ob (gfI σ12 l0 4 2) fun x14 =>
  ob (gpf E σ12 l0 4 2 (.int (gmin (x14 + (1 : Int32)) (8 : Int32)))) fun σ18 =>
  some σ18
set_option maxHeartbeats 4000000 in
set_option maxRecDepth 100000 in
theorem X5_record_W {σ : gS} {l0 : Nat} {l1 : Nat} {σz : gS} {ls : Array Slot} (hC : gC E D A p R s m args meth c cX5_record 2 RX5 "record" 6 144) (hQ : gQV E D A p l e R s m args below meth c Q cX5_record σz) (hf : X5_record E l0 l1 σ = some σz) (hw : gW E D A s σ H locs) (hl : lv_has ls 2 [(0, .ref l0), (1, .ref l1)]) : W p l e R s m args below meth c H locs cells slots Q (F0 m 0 ls []) := by
  have hC0 := hC
  obtain ⟨hx, hb, hml, hown, hts, -⟩ := hC0
  unfold X5_record at hf
  refine lv_aload_n hx hb dX5_record_0 rfl (lv_at hl 0 rfl) ?_
  obtain ⟨x1, h2, hf⟩ := ob_some hf
  refine rR_fl_X5_11 hC hw h2 dX5_record_1 ?_
  refine lv_aload_n hx hb dX5_record_4 rfl (lv_at hl 0 rfl) ?_
  obtain ⟨x3, h4, hf⟩ := ob_some hf
  refine rI_fl_X5_22 hC hw h4 dX5_record_5 ?_
  obtain ⟨x5, h6, hf⟩ := ob_some hf
  refine gg_aldR hC hw h6 rfl rfl dX5_record_8 ?_
  refine lv_aload_n hx hb dX5_record_9 rfl (lv_at hl 1 rfl) ?_
  obtain ⟨_, h9, hf⟩ := ob_some hf
  obtain ⟨x7, h8, hf⟩ := ob_some hf
  refine gg_cVV (As := [.ref l1]) hC hw (X11_copyFrom_M l E D A h8) h9 rfl g_ml_X5_25 hd_X11_copyFrom (Nat.le_of_ble_eq_true rfl) (Nat.le_of_ble_eq_true rfl) hl.1 rfl (Nat.le_of_ble_eq_true rfl) dX5_record_10 (fun H locs cells slots hw => ?_)
  refine lv_aload_n hx hb dX5_record_13 rfl (lv_at hl 0 rfl) ?_
  refine lv_aload_n hx hb dX5_record_14 rfl (lv_at hl 0 rfl) ?_
  obtain ⟨x10, h11, hf⟩ := ob_some hf
  refine rI_fl_X5_22 hC hw h11 dX5_record_15 ?_
  refine lv_iconst (v := 1) hx hb dX5_record_18 (by decide) ?_
  refine lv_iadd hx hb dX5_record_19 ?_
  refine lv_bipush (v := 8) hx hb dX5_record_20 (by decide) ?_
  refine lv_irem hx hb dX5_record_22 (by decide) ?_
  obtain ⟨σ12, h13, hf⟩ := ob_some hf
  refine p_fl_X5_22 hC hw h13 rfl rfl dX5_record_23 (fun H locs hw => ?_)
  refine lv_aload_n hx hb dX5_record_26 rfl (lv_at hl 0 rfl) ?_
  refine lv_aload_n hx hb dX5_record_27 rfl (lv_at hl 0 rfl) ?_
  obtain ⟨x14, h15, hf⟩ := ob_some hf
  refine rI_fl_X5_18 hC hw h15 dX5_record_28 ?_
  refine lv_iconst (v := 1) hx hb dX5_record_31 (by decide) ?_
  refine lv_iadd hx hb dX5_record_32 ?_
  refine lv_bipush (v := 8) hx hb dX5_record_33 (by decide) ?_
  refine gg_mmin hC hw ml_X5_29 rfl hl.1 (Nat.le_of_ble_eq_true rfl) (Nat.le_of_ble_eq_true rfl) (Nat.le_of_ble_eq_true rfl) dX5_record_35 (fun cells slots => ?_)
  obtain ⟨σ18, h19, hf⟩ := ob_some hf
  refine p_fl_X5_18 hC hw h19 rfl rfl dX5_record_38 (fun H locs hw => ?_)
  cases hf
  exact hQ _ _ _ _ _ _ dX5_record_41 hw

def X5_record_f (E : gE) (l0 : Nat) (l1 : Nat) (σ : gS) : Option gS := X5_record E l0 l1 σ
set_option maxRecDepth 100000 in
theorem X5_record_M (l : Launch) (E : gE) (D : va_G) (A : Nat → Prop) {l0 : Nat} {l1 : Nat} {σ : gS} {σz : gS} (hf : X5_record_f E l0 l1 σ = some σz) : gCV l E D A yX5_record cX5_record 2 6 144 none [.ref l0, .ref l1] σ σz := by
  refine gg_entV (own := RX5) (nm := "record") (by decide +kernel) rfl rfl (Nat.le_of_ble_eq_true rfl) rfl ?_
  intro p e R s m args below meth c Q ls hC hw hQ hl
  have hl : lv_has ls 2 [(0, .ref l0), (1, .ref l1)] := hl
  exact X5_record_W hC hQ hf hw hl

def X5_takeBack (E : gE) (l0 : Nat) (l1 : Nat) (σ : gS) : Option gS :=
  ob (gfI σ l0 4 1) fun x1 =>
  ob (gpf E σ l0 4 1 (.int (((x1 + (8 : Int32)) - (1 : Int32)) - ((x1 + (8 : Int32)) - (1 : Int32)) / (8 : Int32) * (8 : Int32)))) fun σ3 =>
  ob (gfI σ3 l0 4 2) fun x5 =>
  ob (gpf E σ3 l0 4 2 (.int (x5 - (1 : Int32)))) fun σ7 =>
  ob (gfR σ7 l0 4 0) fun x9 =>
  ob (gfI σ7 l0 4 1) fun x11 =>
  ob (graR E 5 σ7 x9 x11) fun x13 =>
  ob (gcl σ7 l1 9) fun _ =>
  ob (X11_copyFrom_f E l1 x13 σ7) fun x15 =>
  some x15
set_option maxHeartbeats 4000000 in
set_option maxRecDepth 100000 in
theorem X5_takeBack_W {σ : gS} {l0 : Nat} {l1 : Nat} {σz : gS} {ls : Array Slot} (hC : gC E D A p R s m args meth c cX5_takeBack 2 RX5 "takeBack" 6 144) (hQ : gQV E D A p l e R s m args below meth c Q cX5_takeBack σz) (hf : X5_takeBack E l0 l1 σ = some σz) (hw : gW E D A s σ H locs) (hl : lv_has ls 2 [(0, .ref l0), (1, .ref l1)]) : W p l e R s m args below meth c H locs cells slots Q (F0 m 0 ls []) := by
  have hC0 := hC
  obtain ⟨hx, hb, hml, hown, hts, -⟩ := hC0
  unfold X5_takeBack at hf
  refine lv_aload_n hx hb dX5_takeBack_0 rfl (lv_at hl 0 rfl) ?_
  refine lv_aload_n hx hb dX5_takeBack_1 rfl (lv_at hl 0 rfl) ?_
  obtain ⟨x1, h2, hf⟩ := ob_some hf
  refine rI_fl_X5_22 hC hw h2 dX5_takeBack_2 ?_
  refine lv_bipush (v := 8) hx hb dX5_takeBack_5 (by decide) ?_
  refine lv_iadd hx hb dX5_takeBack_7 ?_
  refine lv_iconst (v := 1) hx hb dX5_takeBack_8 (by decide) ?_
  refine lv_isub hx hb dX5_takeBack_9 ?_
  refine lv_bipush (v := 8) hx hb dX5_takeBack_10 (by decide) ?_
  refine lv_irem hx hb dX5_takeBack_12 (by decide) ?_
  obtain ⟨σ3, h4, hf⟩ := ob_some hf
  refine p_fl_X5_22 hC hw h4 rfl rfl dX5_takeBack_13 (fun H locs hw => ?_)
  refine lv_aload_n hx hb dX5_takeBack_16 rfl (lv_at hl 0 rfl) ?_
  refine lv_dup hx hb dX5_takeBack_17 rfl ?_
  obtain ⟨x5, h6, hf⟩ := ob_some hf
  refine rI_fl_X5_18 hC hw h6 dX5_takeBack_18 ?_
  refine lv_iconst (v := 1) hx hb dX5_takeBack_21 (by decide) ?_
  refine lv_isub hx hb dX5_takeBack_22 ?_
  obtain ⟨σ7, h8, hf⟩ := ob_some hf
  refine p_fl_X5_18 hC hw h8 rfl rfl dX5_takeBack_23 (fun H locs hw => ?_)
  refine lv_aload_n hx hb dX5_takeBack_26 rfl (lv_at hl 1 rfl) ?_
  refine lv_aload_n hx hb dX5_takeBack_27 rfl (lv_at hl 0 rfl) ?_
  obtain ⟨x9, h10, hf⟩ := ob_some hf
  refine rR_fl_X5_11 hC hw h10 dX5_takeBack_28 ?_
  refine lv_aload_n hx hb dX5_takeBack_31 rfl (lv_at hl 0 rfl) ?_
  obtain ⟨x11, h12, hf⟩ := ob_some hf
  refine rI_fl_X5_22 hC hw h12 dX5_takeBack_32 ?_
  obtain ⟨x13, h14, hf⟩ := ob_some hf
  refine gg_aldR hC hw h14 rfl rfl dX5_takeBack_35 ?_
  obtain ⟨_, h17, hf⟩ := ob_some hf
  obtain ⟨x15, h16, hf⟩ := ob_some hf
  refine gg_cVV (As := [.ref x13]) hC hw (X11_copyFrom_M l E D A h16) h17 rfl g_ml_X5_25 hd_X11_copyFrom (Nat.le_of_ble_eq_true rfl) (Nat.le_of_ble_eq_true rfl) hl.1 rfl (Nat.le_of_ble_eq_true rfl) dX5_takeBack_36 (fun H locs cells slots hw => ?_)
  cases hf
  exact hQ _ _ _ _ _ _ dX5_takeBack_39 hw

def X5_takeBack_f (E : gE) (l0 : Nat) (l1 : Nat) (σ : gS) : Option gS := X5_takeBack E l0 l1 σ
set_option maxRecDepth 100000 in
theorem X5_takeBack_M (l : Launch) (E : gE) (D : va_G) (A : Nat → Prop) {l0 : Nat} {l1 : Nat} {σ : gS} {σz : gS} (hf : X5_takeBack_f E l0 l1 σ = some σz) : gCV l E D A yX5_takeBack cX5_takeBack 2 6 144 none [.ref l0, .ref l1] σ σz := by
  refine gg_entV (own := RX5) (nm := "takeBack") (by decide +kernel) rfl rfl (Nat.le_of_ble_eq_true rfl) rfl ?_
  intro p e R s m args below meth c Q ls hC hw hQ hl
  have hl : lv_has ls 2 [(0, .ref l0), (1, .ref l1)] := hl
  exact X5_takeBack_W hC hQ hf hw hl

def X11_appendRow_2_s (E : gE) (r_2 : Nat → Nat → Int32 → Int32 → gS → Option gS) (l0 : Nat) (l1 : Nat) (l2 : Int32) (l3 : Int32) (σ : gS) : Option gS :=
  ob (gfI σ l0 9 1) fun x1 =>
  if x1 ≤ l3 then
    some σ
  else
    ob (gfR σ l0 9 0) fun x3 =>
    ob (graR E 4 σ x3 l3) fun x5 =>
    ob (graI E 0 σ l1 (l2 + l3)) fun x7 =>
    ob (gcl σ x5 0) fun _ =>
    ob (X1_append_f E x5 x7 σ) fun x9 =>
    r_2 l0 l1 l2 (l3 + 1) x9
set_option maxHeartbeats 4000000 in
set_option maxRecDepth 100000 in
theorem X11_appendRow_2_s_W {σ : gS} {l0 : Nat} {l1 : Nat} {l2 : Int32} {l3 : Int32} {σz : gS} {ls : Array Slot} (hC : gC E D A p R s m args meth c cX11_appendRow 4 RX11 "appendRow" 6 145) (hQ : gQV E D A p l e R s m args below meth c Q cX11_appendRow σz) {r_2 : Nat → Nat → Int32 → Int32 → gS → Option gS} (h_2 : ∀ {l0 : Nat} {l1 : Nat} {l2 : Int32} {l3 : Int32} {σ : gS} {H : Heap} {locs : List Loc} {cells slots : Nat} {ls : Array Slot}, r_2 l0 l1 l2 l3 σ = some σz → gW E D A s σ H locs → lv_has ls 4 [(0, .ref l0), (1, .ref l1), (2, .int l2), (3, .int l3)] → W p l e R s m args below meth c H locs cells slots Q (F0 m 2 ls [])) (hf : X11_appendRow_2_s E r_2 l0 l1 l2 l3 σ = some σz) (hw : gW E D A s σ H locs) (hl : lv_has ls 4 [(0, .ref l0), (1, .ref l1), (2, .int l2), (3, .int l3)]) : W p l e R s m args below meth c H locs cells slots Q (F0 m 2 ls []) := by
  have hC0 := hC
  obtain ⟨hx, hb, hml, hown, hts, -⟩ := hC0
  unfold X11_appendRow_2_s at hf
  refine lv_iload_n hx hb dX11_appendRow_2 rfl (lv_at hl 3 rfl) ?_
  refine lv_aload_n hx hb dX11_appendRow_3 rfl (lv_at hl 0 rfl) ?_
  obtain ⟨x1, h2, hf⟩ := ob_some hf
  refine rI_fl_X11_17 hC hw h2 dX11_appendRow_4 ?_
  refine lv_icmp_ge (tgt := 30) hx hb dX11_appendRow_7 (by decide) (fun c12 => ?_) (fun c12 => ?_)
  · replace hf := (if_pos c12).symm.trans hf
    cases hf
    exact hQ _ _ _ _ _ _ dX11_appendRow_30 hw
  · replace hf := (if_neg c12).symm.trans hf
    refine lv_aload_n hx hb dX11_appendRow_10 rfl (lv_at hl 0 rfl) ?_
    obtain ⟨x3, h4, hf⟩ := ob_some hf
    refine rR_fl_X11_11 hC hw h4 dX11_appendRow_11 ?_
    refine lv_iload_n hx hb dX11_appendRow_14 rfl (lv_at hl 3 rfl) ?_
    obtain ⟨x5, h6, hf⟩ := ob_some hf
    refine gg_aldR hC hw h6 rfl rfl dX11_appendRow_15 ?_
    refine lv_aload_n hx hb dX11_appendRow_16 rfl (lv_at hl 1 rfl) ?_
    refine lv_iload_n hx hb dX11_appendRow_17 rfl (lv_at hl 2 rfl) ?_
    refine lv_iload_n hx hb dX11_appendRow_18 rfl (lv_at hl 3 rfl) ?_
    refine lv_iadd hx hb dX11_appendRow_19 ?_
    obtain ⟨x7, h8, hf⟩ := ob_some hf
    refine gg_aldI hC hw h8 dX11_appendRow_20 ?_
    obtain ⟨_, h11, hf⟩ := ob_some hf
    obtain ⟨x9, h10, hf⟩ := ob_some hf
    refine gg_cVV (As := [.int x7]) hC hw (X1_append_M l E D A h10) h11 rfl g_ml_X11_48 hd_X1_append (Nat.le_of_ble_eq_true rfl) (Nat.le_of_ble_eq_true rfl) hl.1 rfl (Nat.le_of_ble_eq_true rfl) dX11_appendRow_21 (fun H locs cells slots hw => ?_)
    refine lv_iinc (v := (l3 + 1)) (lv' := [(3, .int (l3 + 1)), (0, .ref l0), (1, .ref l1), (2, .int l2)]) hx hb dX11_appendRow_24 hl (k := 3) rfl rfl (by decide) rfl (fun ls hl => ?_)
    refine lv_goto (tgt := 2) hx hb dX11_appendRow_27 (by decide) ?_
    exact h_2 hf hw (lv_sub hl [1, 2, 3, 0] rfl)
def X11_appendRow_2 (E : gE) : Nat → Nat → Nat → Int32 → Int32 → gS → Option gS
  | 0 => fun _ _ _ _ _ => none
  | n + 1 => X11_appendRow_2_s E (X11_appendRow_2 E n)
theorem X11_appendRow_2_W {σz : gS} (hC : gC E D A p R s m args meth c cX11_appendRow 4 RX11 "appendRow" 6 145) (hQ : gQV E D A p l e R s m args below meth c Q cX11_appendRow σz) : ∀ (n : Nat), ∀ {l0 : Nat} {l1 : Nat} {l2 : Int32} {l3 : Int32} {σ : gS} {H : Heap} {locs : List Loc} {cells slots : Nat} {ls : Array Slot}, X11_appendRow_2 E n l0 l1 l2 l3 σ = some σz → gW E D A s σ H locs → lv_has ls 4 [(0, .ref l0), (1, .ref l1), (2, .int l2), (3, .int l3)] → W p l e R s m args below meth c H locs cells slots Q (F0 m 2 ls []) := by
  intro n
  induction n with
  | zero =>
    intros
    rename_i hf _ _
    exact absurd hf (fun h => by cases (show (none : Option gS) = some σz from h))
  | succ n ih =>
    intros
    rename_i hf hw hl
    exact X11_appendRow_2_s_W hC hQ ih hf hw hl

def X11_appendRow (E : gE) (l0 : Nat) (l1 : Nat) (l2 : Int32) (σ : gS) : Option gS :=
  X11_appendRow_2 E (gN E) l0 l1 l2 (0 : Int32) σ
set_option maxHeartbeats 4000000 in
set_option maxRecDepth 100000 in
theorem X11_appendRow_W {σ : gS} {l0 : Nat} {l1 : Nat} {l2 : Int32} {σz : gS} {ls : Array Slot} (hC : gC E D A p R s m args meth c cX11_appendRow 4 RX11 "appendRow" 6 145) (hQ : gQV E D A p l e R s m args below meth c Q cX11_appendRow σz) (hf : X11_appendRow E l0 l1 l2 σ = some σz) (hw : gW E D A s σ H locs) (hl : lv_has ls 4 [(0, .ref l0), (1, .ref l1), (2, .int l2)]) : W p l e R s m args below meth c H locs cells slots Q (F0 m 0 ls []) := by
  have hC0 := hC
  obtain ⟨hx, hb, hml, hown, hts, -⟩ := hC0
  unfold X11_appendRow at hf
  refine lv_iconst (v := 0) hx hb dX11_appendRow_0 (by decide) ?_
  refine lv_istore_n (lv' := [(3, .int (0 : Int32)), (0, .ref l0), (1, .ref l1), (2, .int l2)]) hx hb dX11_appendRow_1 rfl hl (by decide) rfl (fun ls hl => ?_)
  exact X11_appendRow_2_W hC hQ (gN E) hf hw (lv_sub hl [1, 2, 3, 0] rfl)

def X11_appendRow_f (E : gE) (l0 : Nat) (l1 : Nat) (l2 : Int32) (σ : gS) : Option gS := X11_appendRow E l0 l1 l2 σ
set_option maxRecDepth 100000 in
theorem X11_appendRow_M (l : Launch) (E : gE) (D : va_G) (A : Nat → Prop) {l0 : Nat} {l1 : Nat} {l2 : Int32} {σ : gS} {σz : gS} (hf : X11_appendRow_f E l0 l1 l2 σ = some σz) : gCV l E D A yX11_appendRow cX11_appendRow 4 6 145 none [.ref l0, .ref l1, .int l2] σ σz := by
  refine gg_entV (own := RX11) (nm := "appendRow") (by decide +kernel) rfl rfl (Nat.le_of_ble_eq_true rfl) rfl ?_
  intro p e R s m args below meth c Q ls hC hw hQ hl
  have hl : lv_has ls 4 [(0, .ref l0), (1, .ref l1), (2, .int l2)] := hl
  exact X11_appendRow_W hC hQ hf hw hl

def X11_deleteSelectedRows_29 (E : gE) (r_4 : Nat → Int32 → Int32 → gS → Option (Int32 × gS)) (l0 : Nat) (l1 : Int32) (l2 : Int32) (σ : gS) : Option (Int32 × gS) :=
  r_4 l0 l1 (l2 + 1) σ
set_option maxHeartbeats 4000000 in
set_option maxRecDepth 100000 in
theorem X11_deleteSelectedRows_29_W {σ : gS} {l0 : Nat} {l1 : Int32} {l2 : Int32} {res : (Int32 × gS)} {ls : Array Slot} (hC : gC E D A p R s m args meth c cX11_deleteSelectedRows 3 RX11 "deleteSelectedRows" 5 107) (hQ : gQI E D A p l e R s m args below meth c Q cX11_deleteSelectedRows FieldType.int res) {r_4 : Nat → Int32 → Int32 → gS → Option (Int32 × gS)} (h_4 : ∀ {l0 : Nat} {l1 : Int32} {l2 : Int32} {σ : gS} {H : Heap} {locs : List Loc} {cells slots : Nat} {ls : Array Slot}, r_4 l0 l1 l2 σ = some res → gW E D A s σ H locs → lv_has ls 3 [(0, .ref l0), (1, .int l1), (2, .int l2)] → W p l e R s m args below meth c H locs cells slots Q (F0 m 4 ls [])) (hf : X11_deleteSelectedRows_29 E r_4 l0 l1 l2 σ = some res) (hw : gW E D A s σ H locs) (hl : lv_has ls 3 [(0, .ref l0), (1, .int l1), (2, .int l2)]) : W p l e R s m args below meth c H locs cells slots Q (F0 m 29 ls []) := by
  have hC0 := hC
  obtain ⟨hx, hb, hml, hown, hts, -⟩ := hC0
  unfold X11_deleteSelectedRows_29 at hf
  refine lv_iinc (v := (l2 + 1)) (lv' := [(2, .int (l2 + 1)), (0, .ref l0), (1, .int l1)]) hx hb dX11_deleteSelectedRows_29 hl (k := 2) rfl rfl (by decide) rfl (fun ls hl => ?_)
  refine lv_goto (tgt := 4) hx hb dX11_deleteSelectedRows_32 (by decide) ?_
  exact h_4 hf hw (lv_sub hl [1, 2, 0] rfl)

def X11_deleteSelectedRows_4_s (E : gE) (r_4 : Nat → Int32 → Int32 → gS → Option (Int32 × gS)) (l0 : Nat) (l1 : Int32) (l2 : Int32) (σ : gS) : Option (Int32 × gS) :=
  ob (gcl σ l0 9) fun _ =>
  ob (X11_rows_f E σ l0) fun x1 =>
  if x1 ≤ l2 then
    ob (gcl σ l0 9) fun _ =>
    ob (X11_rows_f E σ l0) fun x4 =>
    ob (gcl σ l0 9) fun _ =>
    ob (X11_shorten_f E l0 l1 σ) fun x7 =>
    some ((x4 - l1), x7)
  else
    ob (gcl σ l0 9) fun _ =>
    ob (X11_selects_f E σ l0 l2) fun x10 =>
    if x10 = 0 then
      ob (gcl σ l0 9) fun _ =>
      ob (X11_moveRow_f E l0 l2 l1 σ) fun x13 =>
      X11_deleteSelectedRows_29 E r_4 l0 (l1 + 1) l2 x13
    else
      X11_deleteSelectedRows_29 E r_4 l0 l1 l2 σ
set_option maxHeartbeats 4000000 in
set_option maxRecDepth 100000 in
theorem X11_deleteSelectedRows_4_s_W {σ : gS} {l0 : Nat} {l1 : Int32} {l2 : Int32} {res : (Int32 × gS)} {ls : Array Slot} (hC : gC E D A p R s m args meth c cX11_deleteSelectedRows 3 RX11 "deleteSelectedRows" 5 107) (hQ : gQI E D A p l e R s m args below meth c Q cX11_deleteSelectedRows FieldType.int res) {r_4 : Nat → Int32 → Int32 → gS → Option (Int32 × gS)} (h_4 : ∀ {l0 : Nat} {l1 : Int32} {l2 : Int32} {σ : gS} {H : Heap} {locs : List Loc} {cells slots : Nat} {ls : Array Slot}, r_4 l0 l1 l2 σ = some res → gW E D A s σ H locs → lv_has ls 3 [(0, .ref l0), (1, .int l1), (2, .int l2)] → W p l e R s m args below meth c H locs cells slots Q (F0 m 4 ls [])) (hf : X11_deleteSelectedRows_4_s E r_4 l0 l1 l2 σ = some res) (hw : gW E D A s σ H locs) (hl : lv_has ls 3 [(0, .ref l0), (1, .int l1), (2, .int l2)]) : W p l e R s m args below meth c H locs cells slots Q (F0 m 4 ls []) := by
  have hC0 := hC
  obtain ⟨hx, hb, hml, hown, hts, -⟩ := hC0
  unfold X11_deleteSelectedRows_4_s at hf
  refine lv_iload_n hx hb dX11_deleteSelectedRows_4 rfl (lv_at hl 2 rfl) ?_
  refine lv_aload_n hx hb dX11_deleteSelectedRows_5 rfl (lv_at hl 0 rfl) ?_
  obtain ⟨_, h3, hf⟩ := ob_some hf
  obtain ⟨x1, h2, hf⟩ := ob_some hf
  refine gg_cVI (As := []) hC hw (X11_rows_M l E D A h2) h3 rfl g_ml_X11_37 hd_X11_rows (Nat.le_of_ble_eq_true rfl) (Nat.le_of_ble_eq_true rfl) hl.1 rfl (Nat.le_of_ble_eq_true rfl) dX11_deleteSelectedRows_6 (fun H locs cells slots hw => ?_)
  refine lv_icmp_ge (tgt := 35) hx hb dX11_deleteSelectedRows_9 (by decide) (fun c17 => ?_) (fun c17 => ?_)
  · replace hf := (if_pos c17).symm.trans hf
    refine lv_aload_n hx hb dX11_deleteSelectedRows_35 rfl (lv_at hl 0 rfl) ?_
    obtain ⟨_, h6, hf⟩ := ob_some hf
    obtain ⟨x4, h5, hf⟩ := ob_some hf
    refine gg_cVI (As := []) hC hw (X11_rows_M l E D A h5) h6 rfl g_ml_X11_37 hd_X11_rows (Nat.le_of_ble_eq_true rfl) (Nat.le_of_ble_eq_true rfl) hl.1 rfl (Nat.le_of_ble_eq_true rfl) dX11_deleteSelectedRows_36 (fun H locs cells slots hw => ?_)
    refine lv_iload_n hx hb dX11_deleteSelectedRows_39 rfl (lv_at hl 1 rfl) ?_
    refine lv_isub hx hb dX11_deleteSelectedRows_40 ?_
    refine lv_istore_n (lv' := [(2, .int (x4 - l1)), (0, .ref l0), (1, .int l1)]) hx hb dX11_deleteSelectedRows_41 rfl hl (by decide) rfl (fun ls hl => ?_)
    refine lv_aload_n hx hb dX11_deleteSelectedRows_42 rfl (lv_at hl 1 rfl) ?_
    refine lv_iload_n hx hb dX11_deleteSelectedRows_43 rfl (lv_at hl 2 rfl) ?_
    obtain ⟨_, h9, hf⟩ := ob_some hf
    obtain ⟨x7, h8, hf⟩ := ob_some hf
    refine gg_cVV (As := [.int l1]) hC hw (X11_shorten_M l E D A h8) h9 rfl g_ml_X11_56 hd_X11_shorten (Nat.le_of_ble_eq_true rfl) (Nat.le_of_ble_eq_true rfl) hl.1 rfl (Nat.le_of_ble_eq_true rfl) dX11_deleteSelectedRows_44 (fun H locs cells slots hw => ?_)
    refine lv_iload_n hx hb dX11_deleteSelectedRows_47 rfl (lv_at hl 0 rfl) ?_
    cases hf
    exact hQ _ _ _ _ _ _ dX11_deleteSelectedRows_48 rfl hw
  · replace hf := (if_neg c17).symm.trans hf
    refine lv_aload_n hx hb dX11_deleteSelectedRows_12 rfl (lv_at hl 0 rfl) ?_
    refine lv_iload_n hx hb dX11_deleteSelectedRows_13 rfl (lv_at hl 2 rfl) ?_
    obtain ⟨_, h12, hf⟩ := ob_some hf
    obtain ⟨x10, h11, hf⟩ := ob_some hf
    refine gg_cVI (As := [.int l2]) hC hw (X11_selects_M l E D A h11) h12 rfl g_ml_X11_59 hd_X11_selects (Nat.le_of_ble_eq_true rfl) (Nat.le_of_ble_eq_true rfl) hl.1 rfl (Nat.le_of_ble_eq_true rfl) dX11_deleteSelectedRows_14 (fun H locs cells slots hw => ?_)
    refine lv_if_ne (tgt := 29) hx hb dX11_deleteSelectedRows_17 (by decide) (fun c16 => ?_) (fun c16 => ?_)
    · replace hf := (if_neg c16).symm.trans hf
      exact X11_deleteSelectedRows_29_W hC hQ h_4 hf hw (lv_sub hl [0, 1, 2] rfl)
    · replace hf := (if_pos c16).symm.trans hf
      refine lv_aload_n hx hb dX11_deleteSelectedRows_20 rfl (lv_at hl 0 rfl) ?_
      refine lv_iload_n hx hb dX11_deleteSelectedRows_21 rfl (lv_at hl 2 rfl) ?_
      refine lv_iload_n hx hb dX11_deleteSelectedRows_22 rfl (lv_at hl 1 rfl) ?_
      obtain ⟨_, h15, hf⟩ := ob_some hf
      obtain ⟨x13, h14, hf⟩ := ob_some hf
      refine gg_cVV (As := [.int l2, .int l1]) hC hw (X11_moveRow_M l E D A h14) h15 rfl g_ml_X11_52 hd_X11_moveRow (Nat.le_of_ble_eq_true rfl) (Nat.le_of_ble_eq_true rfl) hl.1 rfl (Nat.le_of_ble_eq_true rfl) dX11_deleteSelectedRows_23 (fun H locs cells slots hw => ?_)
      refine lv_iinc (v := (l1 + 1)) (lv' := [(1, .int (l1 + 1)), (0, .ref l0), (2, .int l2)]) hx hb dX11_deleteSelectedRows_26 hl (k := 1) rfl rfl (by decide) rfl (fun ls hl => ?_)
      exact X11_deleteSelectedRows_29_W hC hQ h_4 hf hw (lv_sub hl [1, 0, 2] rfl)
def X11_deleteSelectedRows_4 (E : gE) : Nat → Nat → Int32 → Int32 → gS → Option (Int32 × gS)
  | 0 => fun _ _ _ _ => none
  | n + 1 => X11_deleteSelectedRows_4_s E (X11_deleteSelectedRows_4 E n)
theorem X11_deleteSelectedRows_4_W {res : (Int32 × gS)} (hC : gC E D A p R s m args meth c cX11_deleteSelectedRows 3 RX11 "deleteSelectedRows" 5 107) (hQ : gQI E D A p l e R s m args below meth c Q cX11_deleteSelectedRows FieldType.int res) : ∀ (n : Nat), ∀ {l0 : Nat} {l1 : Int32} {l2 : Int32} {σ : gS} {H : Heap} {locs : List Loc} {cells slots : Nat} {ls : Array Slot}, X11_deleteSelectedRows_4 E n l0 l1 l2 σ = some res → gW E D A s σ H locs → lv_has ls 3 [(0, .ref l0), (1, .int l1), (2, .int l2)] → W p l e R s m args below meth c H locs cells slots Q (F0 m 4 ls []) := by
  intro n
  induction n with
  | zero =>
    intros
    rename_i hf _ _
    exact absurd hf (fun h => by cases (show (none : Option (Int32 × gS)) = some res from h))
  | succ n ih =>
    intros
    rename_i hf hw hl
    exact X11_deleteSelectedRows_4_s_W hC hQ ih hf hw hl

def X11_deleteSelectedRows (E : gE) (l0 : Nat) (σ : gS) : Option (Int32 × gS) :=
  X11_deleteSelectedRows_4 E (gN E) l0 (0 : Int32) (0 : Int32) σ
set_option maxHeartbeats 4000000 in
set_option maxRecDepth 100000 in
theorem X11_deleteSelectedRows_W {σ : gS} {l0 : Nat} {res : (Int32 × gS)} {ls : Array Slot} (hC : gC E D A p R s m args meth c cX11_deleteSelectedRows 3 RX11 "deleteSelectedRows" 5 107) (hQ : gQI E D A p l e R s m args below meth c Q cX11_deleteSelectedRows FieldType.int res) (hf : X11_deleteSelectedRows E l0 σ = some res) (hw : gW E D A s σ H locs) (hl : lv_has ls 3 [(0, .ref l0)]) : W p l e R s m args below meth c H locs cells slots Q (F0 m 0 ls []) := by
  have hC0 := hC
  obtain ⟨hx, hb, hml, hown, hts, -⟩ := hC0
  unfold X11_deleteSelectedRows at hf
  refine lv_iconst (v := 0) hx hb dX11_deleteSelectedRows_0 (by decide) ?_
  refine lv_istore_n (lv' := [(1, .int (0 : Int32)), (0, .ref l0)]) hx hb dX11_deleteSelectedRows_1 rfl hl (by decide) rfl (fun ls hl => ?_)
  refine lv_iconst (v := 0) hx hb dX11_deleteSelectedRows_2 (by decide) ?_
  refine lv_istore_n (lv' := [(2, .int (0 : Int32)), (1, .int (0 : Int32)), (0, .ref l0)]) hx hb dX11_deleteSelectedRows_3 rfl hl (by decide) rfl (fun ls hl => ?_)
  exact X11_deleteSelectedRows_4_W hC hQ (gN E) hf hw (lv_sub hl [2, 1, 0] rfl)

def X11_deleteSelectedRows_f (E : gE) (l0 : Nat) (σ : gS) : Option (Int32 × gS) := X11_deleteSelectedRows E l0 σ
set_option maxRecDepth 100000 in
theorem X11_deleteSelectedRows_M (l : Launch) (E : gE) (D : va_G) (A : Nat → Prop) {l0 : Nat} {σ : gS} {res : (Int32 × gS)} (hf : X11_deleteSelectedRows_f E l0 σ = some res) : gCI l E D A yX11_deleteSelectedRows cX11_deleteSelectedRows 3 5 107 (some FieldType.int) [.ref l0] σ res := by
  refine gg_entI (own := RX11) (nm := "deleteSelectedRows") (ty := FieldType.int) (by decide +kernel) rfl rfl (Nat.le_of_ble_eq_true rfl) rfl ?_
  intro p e R s m args below meth c Q ls hC hw hQ hl
  have hl : lv_has ls 3 [(0, .ref l0)] := hl
  exact X11_deleteSelectedRows_W hC hQ hf hw hl

def J5_ensureCapacityInternal_d00df (E : gE) (l0 : Nat) (l1 : Int32) (σ : gS) : Option gS :=
  ob (gfR σ l0 11 0) fun x1 =>
  ob (gal E 1 σ x1) fun x3 =>
  ob (gfI σ l0 11 1) fun x5 =>
  if (l1 - (x3 >>> (x5 &&& 31))) ≤ 0 then
    some σ
  else
    ob (gfR σ l0 11 0) fun x7 =>
    ob (gcl σ l0 11) fun _ =>
    ob (J5_newCapacity_0f7a4_f E l0 l1 σ) fun x9 =>
    ob (gfI x9.2 l0 11 1) fun x12 =>
    ob (J7_copyOf_9075b_f E x7 (x9.1 <<< (x12 &&& 31)) x9.2) fun x14 =>
    ob (gpf E x14.2 l0 11 0 (.ref x14.1)) fun σ16 =>
    some σ16
set_option maxHeartbeats 4000000 in
set_option maxRecDepth 100000 in
theorem J5_ensureCapacityInternal_d00df_W {σ : gS} {l0 : Nat} {l1 : Int32} {σz : gS} {ls : Array Slot} (hC : gC E D A p R s m args meth c cJ5_ensureCapacityInternal_d00df 3 RJ5 "ensureCapacityInternal" 5 128) (hQ : gQV E D A p l e R s m args below meth c Q cJ5_ensureCapacityInternal_d00df σz) (hf : J5_ensureCapacityInternal_d00df E l0 l1 σ = some σz) (hw : gW E D A s σ H locs) (hl : lv_has ls 3 [(0, .ref l0), (1, .int l1)]) : W p l e R s m args below meth c H locs cells slots Q (F0 m 0 ls []) := by
  have hC0 := hC
  obtain ⟨hx, hb, hml, hown, hts, -⟩ := hC0
  unfold J5_ensureCapacityInternal_d00df at hf
  refine lv_aload_n hx hb dJ5_ensureCapacityInternal_d00df_0 rfl (lv_at hl 0 rfl) ?_
  obtain ⟨x1, h2, hf⟩ := ob_some hf
  refine rR_fl_J5_15 hC hw h2 dJ5_ensureCapacityInternal_d00df_1 ?_
  obtain ⟨x3, h4, hf⟩ := ob_some hf
  refine gg_alen hC hw h4 (Or.inr rfl) dJ5_ensureCapacityInternal_d00df_4 ?_
  refine lv_aload_n hx hb dJ5_ensureCapacityInternal_d00df_5 rfl (lv_at hl 0 rfl) ?_
  obtain ⟨x5, h6, hf⟩ := ob_some hf
  refine rI_fl_J5_22 hC hw h6 dJ5_ensureCapacityInternal_d00df_6 ?_
  refine lv_ishr hx hb dJ5_ensureCapacityInternal_d00df_9 ?_
  refine lv_istore_n (lv' := [(2, .int (x3 >>> (x5 &&& 31))), (0, .ref l0), (1, .int l1)]) hx hb dJ5_ensureCapacityInternal_d00df_10 rfl hl (by decide) rfl (fun ls hl => ?_)
  refine lv_iload_n hx hb dJ5_ensureCapacityInternal_d00df_11 rfl (lv_at hl 2 rfl) ?_
  refine lv_iload_n hx hb dJ5_ensureCapacityInternal_d00df_12 rfl (lv_at hl 0 rfl) ?_
  refine lv_isub hx hb dJ5_ensureCapacityInternal_d00df_13 ?_
  refine lv_if_le (tgt := 38) hx hb dJ5_ensureCapacityInternal_d00df_14 (by decide) (fun c18 => ?_) (fun c18 => ?_)
  · replace hf := (if_pos c18).symm.trans hf
    cases hf
    exact hQ _ _ _ _ _ _ dJ5_ensureCapacityInternal_d00df_38 hw
  · replace hf := (if_neg c18).symm.trans hf
    refine lv_aload_n hx hb dJ5_ensureCapacityInternal_d00df_17 rfl (lv_at hl 1 rfl) ?_
    refine lv_aload_n hx hb dJ5_ensureCapacityInternal_d00df_18 rfl (lv_at hl 1 rfl) ?_
    obtain ⟨x7, h8, hf⟩ := ob_some hf
    refine rR_fl_J5_15 hC hw h8 dJ5_ensureCapacityInternal_d00df_19 ?_
    refine lv_aload_n hx hb dJ5_ensureCapacityInternal_d00df_22 rfl (lv_at hl 1 rfl) ?_
    refine lv_iload_n hx hb dJ5_ensureCapacityInternal_d00df_23 rfl (lv_at hl 2 rfl) ?_
    obtain ⟨_, h11, hf⟩ := ob_some hf
    obtain ⟨x9, h10, hf⟩ := ob_some hf
    refine gg_jUI (As := [.int l1]) hC hw (J5_newCapacity_0f7a4_M l E D A h10) h11 rfl ju_ml_J5_104 rfl hj_J5_newCapacity_0f7a4 (Nat.le_of_ble_eq_true rfl) (Nat.le_of_ble_eq_true rfl) hl.1 rfl (Nat.le_of_ble_eq_true rfl) dJ5_ensureCapacityInternal_d00df_24 (fun H locs cells slots hw => ?_)
    refine lv_aload_n hx hb dJ5_ensureCapacityInternal_d00df_27 rfl (lv_at hl 1 rfl) ?_
    obtain ⟨x12, h13, hf⟩ := ob_some hf
    refine rI_fl_J5_22 hC hw h13 dJ5_ensureCapacityInternal_d00df_28 ?_
    refine lv_ishl hx hb dJ5_ensureCapacityInternal_d00df_31 ?_
    obtain ⟨x14, h15, hf⟩ := ob_some hf
    refine gg_cSR (As := [.ref x7, .int (x9.1 <<< (x12 &&& 31))]) hC hw (J7_copyOf_9075b_M l E D A h15) g_ml_J5_108 hd_J7_copyOf_9075b.2 (Nat.le_of_ble_eq_true rfl) (Nat.le_of_ble_eq_true rfl) hl.1 rfl (Nat.le_of_ble_eq_true rfl) dJ5_ensureCapacityInternal_d00df_32 (fun H locs cells slots hw => ?_)
    obtain ⟨σ16, h17, hf⟩ := ob_some hf
    refine p_fl_J5_15 hC hw h17 rfl rfl dJ5_ensureCapacityInternal_d00df_35 (fun H locs hw => ?_)
    cases hf
    exact hQ _ _ _ _ _ _ dJ5_ensureCapacityInternal_d00df_38 hw

def J5_ensureCapacityInternal_d00df_f (E : gE) (l0 : Nat) (l1 : Int32) (σ : gS) : Option gS := J5_ensureCapacityInternal_d00df E l0 l1 σ
set_option maxRecDepth 100000 in
theorem J5_ensureCapacityInternal_d00df_M (l : Launch) (E : gE) (D : va_G) (A : Nat → Prop) {l0 : Nat} {l1 : Int32} {σ : gS} {σz : gS} (hf : J5_ensureCapacityInternal_d00df_f E l0 l1 σ = some σz) : gCV l E D A yJ5_ensureCapacityInternal_d00df cJ5_ensureCapacityInternal_d00df 3 5 128 none [.ref l0, .int l1] σ σz := by
  refine gg_entV (own := RJ5) (nm := "ensureCapacityInternal") (by decide +kernel) rfl rfl (Nat.le_of_ble_eq_true rfl) rfl ?_
  intro p e R s m args below meth c Q ls hC hw hQ hl
  have hl : lv_has ls 3 [(0, .ref l0), (1, .int l1)] := hl
  exact J5_ensureCapacityInternal_d00df_W hC hQ hf hw hl

def J5_append_3fe6f_75 (E : gE) (l0 : Nat) (σ : gS) : Option (Nat × gS) :=
  some (l0, σ)
set_option maxHeartbeats 4000000 in
set_option maxRecDepth 100000 in
theorem J5_append_3fe6f_75_W {σ : gS} {l0 : Nat} {res : (Nat × gS)} {ls : Array Slot} (hC : gC E D A p R s m args meth c cJ5_append_3fe6f 2 RJ5 "append" 6 150) (hQ : gQR E D A p l e R s m args below meth c Q cJ5_append_3fe6f res) (hf : J5_append_3fe6f_75 E l0 σ = some res) (hw : gW E D A s σ H locs) (hl : lv_has ls 2 [(0, .ref l0)]) : W p l e R s m args below meth c H locs cells slots Q (F0 m 75 ls []) := by
  have hC0 := hC
  obtain ⟨hx, hb, hml, hown, hts, -⟩ := hC0
  unfold J5_append_3fe6f_75 at hf
  refine lv_aload_n hx hb dJ5_append_3fe6f_75 rfl (lv_at hl 0 rfl) ?_
  cases hf
  exact hQ _ _ _ _ _ _ dJ5_append_3fe6f_76 hw

def J5_append_3fe6f_56 (E : gE) (l0 : Nat) (l1 : Int32) (σ : gS) : Option (Nat × gS) :=
  ob (gfR σ l0 11 0) fun x1 =>
  ob (gfI σ l0 11 3) fun x3 =>
  ob (gpf E σ l0 11 3 (.int (x3 + (1 : Int32)))) fun σ5 =>
  none
set_option maxHeartbeats 4000000 in
set_option maxRecDepth 100000 in
theorem J5_append_3fe6f_56_W {σ : gS} {l0 : Nat} {l1 : Int32} {res : (Nat × gS)} {ls : Array Slot} (hC : gC E D A p R s m args meth c cJ5_append_3fe6f 2 RJ5 "append" 6 150) (hQ : gQR E D A p l e R s m args below meth c Q cJ5_append_3fe6f res) (hf : J5_append_3fe6f_56 E l0 l1 σ = some res) (hw : gW E D A s σ H locs) (hl : lv_has ls 2 [(0, .ref l0), (1, .int l1)]) : W p l e R s m args below meth c H locs cells slots Q (F0 m 56 ls []) := by
  have hC0 := hC
  obtain ⟨hx, hb, hml, hown, hts, -⟩ := hC0
  unfold J5_append_3fe6f_56 at hf
  refine lv_aload_n hx hb dJ5_append_3fe6f_56 rfl (lv_at hl 0 rfl) ?_
  obtain ⟨x1, h2, hf⟩ := ob_some hf
  refine rR_fl_J5_15 hC hw h2 dJ5_append_3fe6f_57 ?_
  refine lv_aload_n hx hb dJ5_append_3fe6f_60 rfl (lv_at hl 0 rfl) ?_
  refine lv_dup hx hb dJ5_append_3fe6f_61 rfl ?_
  obtain ⟨x3, h4, hf⟩ := ob_some hf
  refine rI_fl_J5_79 hC hw h4 dJ5_append_3fe6f_62 ?_
  refine lv_dup_x1 hx hb dJ5_append_3fe6f_65 rfl rfl ?_
  refine lv_iconst (v := 1) hx hb dJ5_append_3fe6f_66 (by decide) ?_
  refine lv_iadd hx hb dJ5_append_3fe6f_67 ?_
  obtain ⟨σ5, h6, hf⟩ := ob_some hf
  refine p_fl_J5_79 hC hw h6 rfl rfl dJ5_append_3fe6f_68 (fun H locs hw => ?_)
  refine lv_iload_n hx hb dJ5_append_3fe6f_71 rfl (lv_at hl 1 rfl) ?_
  cases hf

def J5_append_3fe6f_45 (E : gE) (l0 : Nat) (l1 : Int32) (σ : gS) : Option (Nat × gS) :=
  ob (gcl σ l0 11) fun _ =>
  ob (J5_isLatin1_aae02_f E σ l0) fun x9 =>
  if x9 = 0 then
    J5_append_3fe6f_56 E l0 l1 σ
  else
    none
set_option maxHeartbeats 4000000 in
set_option maxRecDepth 100000 in
theorem J5_append_3fe6f_45_W {σ : gS} {l0 : Nat} {l1 : Int32} {res : (Nat × gS)} {ls : Array Slot} (hC : gC E D A p R s m args meth c cJ5_append_3fe6f 2 RJ5 "append" 6 150) (hQ : gQR E D A p l e R s m args below meth c Q cJ5_append_3fe6f res) (hf : J5_append_3fe6f_45 E l0 l1 σ = some res) (hw : gW E D A s σ H locs) (hl : lv_has ls 2 [(0, .ref l0), (1, .int l1)]) : W p l e R s m args below meth c H locs cells slots Q (F0 m 45 ls []) := by
  have hC0 := hC
  obtain ⟨hx, hb, hml, hown, hts, -⟩ := hC0
  unfold J5_append_3fe6f_45 at hf
  refine lv_aload_n hx hb dJ5_append_3fe6f_45 rfl (lv_at hl 0 rfl) ?_
  obtain ⟨_, h11, hf⟩ := ob_some hf
  obtain ⟨x9, h10, hf⟩ := ob_some hf
  refine gg_jUI (As := []) hC hw (J5_isLatin1_aae02_M l E D A h10) h11 rfl ju_ml_J5_83 rfl hj_J5_isLatin1_aae02 (Nat.le_of_ble_eq_true rfl) (Nat.le_of_ble_eq_true rfl) hl.1 rfl (Nat.le_of_ble_eq_true rfl) dJ5_append_3fe6f_46 (fun H locs cells slots hw => ?_)
  refine lv_if_eq (tgt := 56) hx hb dJ5_append_3fe6f_49 (by decide) (fun c14 => ?_) (fun c14 => ?_)
  · replace hf := (if_pos c14).symm.trans hf
    exact J5_append_3fe6f_56_W hC hQ hf hw (lv_sub hl [0, 1] rfl)
  · replace hf := (if_neg c14).symm.trans hf
    refine lv_aload_n hx hb dJ5_append_3fe6f_52 rfl (lv_at hl 0 rfl) ?_
    cases hf

def J5_append_3fe6f (E : gE) (l0 : Nat) (l1 : Int32) (σ : gS) : Option (Nat × gS) :=
  ob (gfI σ l0 11 3) fun x15 =>
  ob (gcl σ l0 11) fun _ =>
  ob (J5_ensureCapacityInternal_d00df_f E l0 (x15 + (1 : Int32)) σ) fun x17 =>
  ob (gcl x17 l0 11) fun _ =>
  ob (J5_isLatin1_aae02_f E x17 l0) fun x20 =>
  if x20 = 0 then
    J5_append_3fe6f_45 E l0 l1 x17
  else
    ob (J1_canEncode_fc78d_f E x17 l1) fun x23 =>
    if x23 = 0 then
      J5_append_3fe6f_45 E l0 l1 x17
    else
      ob (gfR x17 l0 11 0) fun x25 =>
      ob (gfI x17 l0 11 3) fun x27 =>
      ob (gpf E x17 l0 11 3 (.int (x27 + (1 : Int32)))) fun σ29 =>
      ob (gwaB E σ29 x25 x27 (gi2b l1)) fun σ31 =>
      J5_append_3fe6f_75 E l0 σ31
set_option maxHeartbeats 4000000 in
set_option maxRecDepth 100000 in
theorem J5_append_3fe6f_W {σ : gS} {l0 : Nat} {l1 : Int32} {res : (Nat × gS)} {ls : Array Slot} (hC : gC E D A p R s m args meth c cJ5_append_3fe6f 2 RJ5 "append" 6 150) (hQ : gQR E D A p l e R s m args below meth c Q cJ5_append_3fe6f res) (hf : J5_append_3fe6f E l0 l1 σ = some res) (hw : gW E D A s σ H locs) (hl : lv_has ls 2 [(0, .ref l0), (1, .int l1)]) : W p l e R s m args below meth c H locs cells slots Q (F0 m 0 ls []) := by
  have hC0 := hC
  obtain ⟨hx, hb, hml, hown, hts, -⟩ := hC0
  unfold J5_append_3fe6f at hf
  refine lv_aload_n hx hb dJ5_append_3fe6f_0 rfl (lv_at hl 0 rfl) ?_
  refine lv_aload_n hx hb dJ5_append_3fe6f_1 rfl (lv_at hl 0 rfl) ?_
  obtain ⟨x15, h16, hf⟩ := ob_some hf
  refine rI_fl_J5_79 hC hw h16 dJ5_append_3fe6f_2 ?_
  refine lv_iconst (v := 1) hx hb dJ5_append_3fe6f_5 (by decide) ?_
  refine lv_iadd hx hb dJ5_append_3fe6f_6 ?_
  obtain ⟨_, h19, hf⟩ := ob_some hf
  obtain ⟨x17, h18, hf⟩ := ob_some hf
  refine gg_jUV (As := [.int (x15 + (1 : Int32))]) hC hw (J5_ensureCapacityInternal_d00df_M l E D A h18) h19 rfl ju_ml_J5_100 rfl hj_J5_ensureCapacityInternal_d00df (Nat.le_of_ble_eq_true rfl) (Nat.le_of_ble_eq_true rfl) hl.1 rfl (Nat.le_of_ble_eq_true rfl) dJ5_append_3fe6f_7 (fun H locs cells slots hw => ?_)
  refine lv_aload_n hx hb dJ5_append_3fe6f_10 rfl (lv_at hl 0 rfl) ?_
  obtain ⟨_, h22, hf⟩ := ob_some hf
  obtain ⟨x20, h21, hf⟩ := ob_some hf
  refine gg_jUI (As := []) hC hw (J5_isLatin1_aae02_M l E D A h21) h22 rfl ju_ml_J5_83 rfl hj_J5_isLatin1_aae02 (Nat.le_of_ble_eq_true rfl) (Nat.le_of_ble_eq_true rfl) hl.1 rfl (Nat.le_of_ble_eq_true rfl) dJ5_append_3fe6f_11 (fun H locs cells slots hw => ?_)
  refine lv_if_eq (tgt := 45) hx hb dJ5_append_3fe6f_14 (by decide) (fun c34 => ?_) (fun c34 => ?_)
  · replace hf := (if_pos c34).symm.trans hf
    exact J5_append_3fe6f_45_W hC hQ hf hw (lv_sub hl [0, 1] rfl)
  · replace hf := (if_neg c34).symm.trans hf
    refine lv_iload_n hx hb dJ5_append_3fe6f_17 rfl (lv_at hl 1 rfl) ?_
    obtain ⟨x23, h24, hf⟩ := ob_some hf
    refine gg_cSI (As := [.int l1]) hC hw (J1_canEncode_fc78d_M l E D A h24) g_ml_J5_191 hd_J1_canEncode_fc78d.2 (Nat.le_of_ble_eq_true rfl) (Nat.le_of_ble_eq_true rfl) hl.1 rfl (Nat.le_of_ble_eq_true rfl) dJ5_append_3fe6f_18 (fun H locs cells slots hw => ?_)
    refine lv_if_eq (tgt := 45) hx hb dJ5_append_3fe6f_21 (by decide) (fun c33 => ?_) (fun c33 => ?_)
    · replace hf := (if_pos c33).symm.trans hf
      exact J5_append_3fe6f_45_W hC hQ hf hw (lv_sub hl [0, 1] rfl)
    · replace hf := (if_neg c33).symm.trans hf
      refine lv_aload_n hx hb dJ5_append_3fe6f_24 rfl (lv_at hl 0 rfl) ?_
      obtain ⟨x25, h26, hf⟩ := ob_some hf
      refine rR_fl_J5_15 hC hw h26 dJ5_append_3fe6f_25 ?_
      refine lv_aload_n hx hb dJ5_append_3fe6f_28 rfl (lv_at hl 0 rfl) ?_
      refine lv_dup hx hb dJ5_append_3fe6f_29 rfl ?_
      obtain ⟨x27, h28, hf⟩ := ob_some hf
      refine rI_fl_J5_79 hC hw h28 dJ5_append_3fe6f_30 ?_
      refine lv_dup_x1 hx hb dJ5_append_3fe6f_33 rfl rfl ?_
      refine lv_iconst (v := 1) hx hb dJ5_append_3fe6f_34 (by decide) ?_
      refine lv_iadd hx hb dJ5_append_3fe6f_35 ?_
      obtain ⟨σ29, h30, hf⟩ := ob_some hf
      refine p_fl_J5_79 hC hw h30 rfl rfl dJ5_append_3fe6f_36 (fun H locs hw => ?_)
      refine lv_iload_n hx hb dJ5_append_3fe6f_39 rfl (lv_at hl 1 rfl) ?_
      refine lv_i2b (v := (gi2b l1)) hx hb dJ5_append_3fe6f_40 rfl ?_
      obtain ⟨σ31, h32, hf⟩ := ob_some hf
      refine gg_astB hC hw h32 dJ5_append_3fe6f_41 (fun H locs hw => ?_)
      refine lv_goto (tgt := 75) hx hb dJ5_append_3fe6f_42 (by decide) ?_
      exact J5_append_3fe6f_75_W hC hQ hf hw (lv_sub hl [0] rfl)

def J5_append_3fe6f_f (E : gE) (l0 : Nat) (l1 : Int32) (σ : gS) : Option (Nat × gS) := J5_append_3fe6f E l0 l1 σ
set_option maxRecDepth 100000 in
theorem J5_append_3fe6f_M (l : Launch) (E : gE) (D : va_G) (A : Nat → Prop) {l0 : Nat} {l1 : Int32} {σ : gS} {res : (Nat × gS)} (hf : J5_append_3fe6f_f E l0 l1 σ = some res) : gCR l E D A yJ5_append_3fe6f cJ5_append_3fe6f 2 6 150 (some (FieldType.object "java/lang/AbstractStringBuilder")) [.ref l0, .int l1] σ res := by
  refine gg_entR (own := RJ5) (nm := "append") (ty := ((FieldType.object "java/lang/AbstractStringBuilder"))) (by decide +kernel) rfl rfl (Nat.le_of_ble_eq_true rfl) rfl (by first | exact Or.inl ⟨_, rfl⟩ | exact Or.inr ⟨_, rfl⟩) ?_
  intro p e R s m args below meth c Q ls hC hw hQ hl
  have hl : lv_has ls 2 [(0, .ref l0), (1, .int l1)] := hl
  exact J5_append_3fe6f_W hC hQ hf hw hl

def J5_append_c97b9_48 (E : gE) (l0 : Nat) (l3 : Int32) (σ : gS) : Option (Nat × gS) :=
  ob (gpf E σ l0 11 3 (.int l3)) fun σ1 =>
  some (l0, σ1)
set_option maxHeartbeats 4000000 in
set_option maxRecDepth 100000 in
theorem J5_append_c97b9_48_W {σ : gS} {l0 : Nat} {l3 : Int32} {res : (Nat × gS)} {ls : Array Slot} (hC : gC E D A p R s m args meth c cJ5_append_c97b9 4 RJ5 "append" 6 150) (hQ : gQR E D A p l e R s m args below meth c Q cJ5_append_c97b9 res) (hf : J5_append_c97b9_48 E l0 l3 σ = some res) (hw : gW E D A s σ H locs) (hl : lv_has ls 4 [(0, .ref l0), (3, .int l3)]) : W p l e R s m args below meth c H locs cells slots Q (F0 m 48 ls []) := by
  have hC0 := hC
  obtain ⟨hx, hb, hml, hown, hts, -⟩ := hC0
  unfold J5_append_c97b9_48 at hf
  refine lv_aload_n hx hb dJ5_append_c97b9_48 rfl (lv_at hl 0 rfl) ?_
  refine lv_iload_n hx hb dJ5_append_c97b9_49 rfl (lv_at hl 1 rfl) ?_
  obtain ⟨σ1, h2, hf⟩ := ob_some hf
  refine p_fl_J5_79 hC hw h2 rfl rfl dJ5_append_c97b9_50 (fun H locs hw => ?_)
  refine lv_aload_n hx hb dJ5_append_c97b9_53 rfl (lv_at hl 0 rfl) ?_
  cases hf
  exact hQ _ _ _ _ _ _ dJ5_append_c97b9_54 hw

def J5_append_c97b9 (E : gE) (l0 : Nat) (l1 : Int32) (σ : gS) : Option (Nat × gS) :=
  ob (gfI σ l0 11 3) fun x3 =>
  ob (J6_stringSize_0f7a4_f E σ l1) fun x5 =>
  ob (gcl σ l0 11) fun _ =>
  ob (J5_ensureCapacityInternal_d00df_f E l0 (x3 + x5) σ) fun x7 =>
  ob (gcl x7 l0 11) fun _ =>
  ob (J5_isLatin1_aae02_f E x7 l0) fun x10 =>
  if x10 = 0 then
    ob (gfR x7 l0 11 0) fun x13 =>
    none
  else
    ob (gfR x7 l0 11 0) fun x17 =>
    ob (J6_getChars_ba4f3_f E l1 (x3 + x5) x17 x7) fun x19 =>
    J5_append_c97b9_48 E l0 (x3 + x5) x19.2
set_option maxHeartbeats 4000000 in
set_option maxRecDepth 100000 in
theorem J5_append_c97b9_W {σ : gS} {l0 : Nat} {l1 : Int32} {res : (Nat × gS)} {ls : Array Slot} (hC : gC E D A p R s m args meth c cJ5_append_c97b9 4 RJ5 "append" 6 150) (hQ : gQR E D A p l e R s m args below meth c Q cJ5_append_c97b9 res) (hf : J5_append_c97b9 E l0 l1 σ = some res) (hw : gW E D A s σ H locs) (hl : lv_has ls 4 [(0, .ref l0), (1, .int l1)]) : W p l e R s m args below meth c H locs cells slots Q (F0 m 0 ls []) := by
  have hC0 := hC
  obtain ⟨hx, hb, hml, hown, hts, -⟩ := hC0
  unfold J5_append_c97b9 at hf
  refine lv_aload_n hx hb dJ5_append_c97b9_0 rfl (lv_at hl 0 rfl) ?_
  obtain ⟨x3, h4, hf⟩ := ob_some hf
  refine rI_fl_J5_79 hC hw h4 dJ5_append_c97b9_1 ?_
  refine lv_istore_n (lv' := [(2, .int x3), (0, .ref l0), (1, .int l1)]) hx hb dJ5_append_c97b9_4 rfl hl (by decide) rfl (fun ls hl => ?_)
  refine lv_iload_n hx hb dJ5_append_c97b9_5 rfl (lv_at hl 0 rfl) ?_
  refine lv_iload_n hx hb dJ5_append_c97b9_6 rfl (lv_at hl 2 rfl) ?_
  obtain ⟨x5, h6, hf⟩ := ob_some hf
  refine gg_cSI (As := [.int l1]) hC hw (J6_stringSize_0f7a4_M l E D A h6) g_ml_J5_245 hd_J6_stringSize_0f7a4.2 (Nat.le_of_ble_eq_true rfl) (Nat.le_of_ble_eq_true rfl) hl.1 rfl (Nat.le_of_ble_eq_true rfl) dJ5_append_c97b9_7 (fun H locs cells slots hw => ?_)
  refine lv_iadd hx hb dJ5_append_c97b9_10 ?_
  refine lv_istore_n (lv' := [(3, .int (x3 + x5)), (2, .int x3), (0, .ref l0), (1, .int l1)]) hx hb dJ5_append_c97b9_11 rfl hl (by decide) rfl (fun ls hl => ?_)
  refine lv_aload_n hx hb dJ5_append_c97b9_12 rfl (lv_at hl 2 rfl) ?_
  refine lv_iload_n hx hb dJ5_append_c97b9_13 rfl (lv_at hl 0 rfl) ?_
  obtain ⟨_, h9, hf⟩ := ob_some hf
  obtain ⟨x7, h8, hf⟩ := ob_some hf
  refine gg_jUV (As := [.int (x3 + x5)]) hC hw (J5_ensureCapacityInternal_d00df_M l E D A h8) h9 rfl ju_ml_J5_100 rfl hj_J5_ensureCapacityInternal_d00df (Nat.le_of_ble_eq_true rfl) (Nat.le_of_ble_eq_true rfl) hl.1 rfl (Nat.le_of_ble_eq_true rfl) dJ5_append_c97b9_14 (fun H locs cells slots hw => ?_)
  refine lv_aload_n hx hb dJ5_append_c97b9_17 rfl (lv_at hl 2 rfl) ?_
  obtain ⟨_, h12, hf⟩ := ob_some hf
  obtain ⟨x10, h11, hf⟩ := ob_some hf
  refine gg_jUI (As := []) hC hw (J5_isLatin1_aae02_M l E D A h11) h12 rfl ju_ml_J5_83 rfl hj_J5_isLatin1_aae02 (Nat.le_of_ble_eq_true rfl) (Nat.le_of_ble_eq_true rfl) hl.1 rfl (Nat.le_of_ble_eq_true rfl) dJ5_append_c97b9_18 (fun H locs cells slots hw => ?_)
  refine lv_if_eq (tgt := 37) hx hb dJ5_append_c97b9_21 (by decide) (fun c21 => ?_) (fun c21 => ?_)
  · replace hf := (if_pos c21).symm.trans hf
    refine lv_iload_n hx hb dJ5_append_c97b9_37 rfl (lv_at hl 3 rfl) ?_
    refine lv_iload_n hx hb dJ5_append_c97b9_38 rfl (lv_at hl 1 rfl) ?_
    refine lv_iload_n hx hb dJ5_append_c97b9_39 rfl (lv_at hl 0 rfl) ?_
    refine lv_aload_n hx hb dJ5_append_c97b9_40 rfl (lv_at hl 2 rfl) ?_
    obtain ⟨x13, h14, hf⟩ := ob_some hf
    refine rR_fl_J5_15 hC hw h14 dJ5_append_c97b9_41 ?_
    cases hf
  · replace hf := (if_neg c21).symm.trans hf
    refine lv_iload_n hx hb dJ5_append_c97b9_24 rfl (lv_at hl 3 rfl) ?_
    refine lv_iload_n hx hb dJ5_append_c97b9_25 rfl (lv_at hl 0 rfl) ?_
    refine lv_aload_n hx hb dJ5_append_c97b9_26 rfl (lv_at hl 2 rfl) ?_
    obtain ⟨x17, h18, hf⟩ := ob_some hf
    refine rR_fl_J5_15 hC hw h18 dJ5_append_c97b9_27 ?_
    obtain ⟨x19, h20, hf⟩ := ob_some hf
    refine gg_cSI (As := [.int l1, .int (x3 + x5), .ref x17]) hC hw (J6_getChars_ba4f3_M l E D A h20) g_ml_J5_248 hd_J6_getChars_ba4f3.2 (Nat.le_of_ble_eq_true rfl) (Nat.le_of_ble_eq_true rfl) hl.1 rfl (Nat.le_of_ble_eq_true rfl) dJ5_append_c97b9_30 (fun H locs cells slots hw => ?_)
    refine lv_pop hx hb dJ5_append_c97b9_33 rfl ?_
    refine lv_goto (tgt := 48) hx hb dJ5_append_c97b9_34 (by decide) ?_
    exact J5_append_c97b9_48_W hC hQ hf hw (lv_sub hl [2, 0] rfl)

def J5_append_c97b9_f (E : gE) (l0 : Nat) (l1 : Int32) (σ : gS) : Option (Nat × gS) := J5_append_c97b9 E l0 l1 σ
set_option maxRecDepth 100000 in
theorem J5_append_c97b9_M (l : Launch) (E : gE) (D : va_G) (A : Nat → Prop) {l0 : Nat} {l1 : Int32} {σ : gS} {res : (Nat × gS)} (hf : J5_append_c97b9_f E l0 l1 σ = some res) : gCR l E D A yJ5_append_c97b9 cJ5_append_c97b9 4 6 150 (some (FieldType.object "java/lang/AbstractStringBuilder")) [.ref l0, .int l1] σ res := by
  refine gg_entR (own := RJ5) (nm := "append") (ty := ((FieldType.object "java/lang/AbstractStringBuilder"))) (by decide +kernel) rfl rfl (Nat.le_of_ble_eq_true rfl) rfl (by first | exact Or.inl ⟨_, rfl⟩ | exact Or.inr ⟨_, rfl⟩) ?_
  intro p e R s m args below meth c Q ls hC hw hQ hl
  have hl : lv_has ls 4 [(0, .ref l0), (1, .int l1)] := hl
  exact J5_append_c97b9_W hC hQ hf hw hl

def J5_putStringAt_47b60 (E : gE) (l0 : Nat) (l1 : Int32) (l2 : Nat) (σ : gS) : Option gS :=
  ob (gcl σ l0 11) fun _ =>
  ob (J5_inflateIfNeededFor_a7421_f E l0 l2 σ) fun x1 =>
  ob (gfR x1 l0 11 0) fun x4 =>
  ob (gfI x1 l0 11 1) fun x6 =>
  ob (gxc E l2 100) fun _ =>
  ob (J0_getBytes_840e7_f E l2 x4 l1 x6 x1) fun x8 =>
  some x8
set_option maxHeartbeats 4000000 in
set_option maxRecDepth 100000 in
theorem J5_putStringAt_47b60_W {σ : gS} {l0 : Nat} {l1 : Int32} {l2 : Nat} {σz : gS} {ls : Array Slot} (hC : gC E D A p R s m args meth c cJ5_putStringAt_47b60 3 RJ5 "putStringAt" 7 158) (hQ : gQV E D A p l e R s m args below meth c Q cJ5_putStringAt_47b60 σz) (hf : J5_putStringAt_47b60 E l0 l1 l2 σ = some σz) (hw : gW E D A s σ H locs) (hl : lv_has ls 3 [(0, .ref l0), (1, .int l1), (2, .ref l2)]) : W p l e R s m args below meth c H locs cells slots Q (F0 m 0 ls []) := by
  have hC0 := hC
  obtain ⟨hx, hb, hml, hown, hts, -⟩ := hC0
  unfold J5_putStringAt_47b60 at hf
  refine lv_aload_n hx hb dJ5_putStringAt_47b60_0 rfl (lv_at hl 0 rfl) ?_
  refine lv_aload_n hx hb dJ5_putStringAt_47b60_1 rfl (lv_at hl 2 rfl) ?_
  obtain ⟨_, h3, hf⟩ := ob_some hf
  obtain ⟨x1, h2, hf⟩ := ob_some hf
  refine gg_jUV (As := [.ref l2]) hC hw (J5_inflateIfNeededFor_a7421_M l E D A h2) h3 rfl ju_ml_J5_397 rfl hj_J5_inflateIfNeededFor_a7421 (Nat.le_of_ble_eq_true rfl) (Nat.le_of_ble_eq_true rfl) hl.1 rfl (Nat.le_of_ble_eq_true rfl) dJ5_putStringAt_47b60_2 (fun H locs cells slots hw => ?_)
  refine lv_aload_n hx hb dJ5_putStringAt_47b60_5 rfl (lv_at hl 2 rfl) ?_
  refine lv_aload_n hx hb dJ5_putStringAt_47b60_6 rfl (lv_at hl 0 rfl) ?_
  obtain ⟨x4, h5, hf⟩ := ob_some hf
  refine rR_fl_J5_15 hC hw h5 dJ5_putStringAt_47b60_7 ?_
  refine lv_iload_n hx hb dJ5_putStringAt_47b60_10 rfl (lv_at hl 1 rfl) ?_
  refine lv_aload_n hx hb dJ5_putStringAt_47b60_11 rfl (lv_at hl 0 rfl) ?_
  obtain ⟨x6, h7, hf⟩ := ob_some hf
  refine rI_fl_J5_22 hC hw h7 dJ5_putStringAt_47b60_12 ?_
  obtain ⟨_, h10, hf⟩ := ob_some hf
  obtain ⟨x8, h9, hf⟩ := ob_some hf
  refine gg_cXV (As := [.ref x4, .int l1, .int x6]) hC hw (J0_getBytes_840e7_M l E D A h9) h10 rfl g_ml_J5_399 hd_J0_getBytes_840e7 (Nat.le_of_ble_eq_true rfl) (Nat.le_of_ble_eq_true rfl) hl.1 rfl (Nat.le_of_ble_eq_true rfl) dJ5_putStringAt_47b60_15 (fun H locs cells slots hw => ?_)
  cases hf
  exact hQ _ _ _ _ _ _ dJ5_putStringAt_47b60_18 hw

def J5_putStringAt_47b60_f (E : gE) (l0 : Nat) (l1 : Int32) (l2 : Nat) (σ : gS) : Option gS := J5_putStringAt_47b60 E l0 l1 l2 σ
set_option maxRecDepth 100000 in
theorem J5_putStringAt_47b60_M (l : Launch) (E : gE) (D : va_G) (A : Nat → Prop) {l0 : Nat} {l1 : Int32} {l2 : Nat} {σ : gS} {σz : gS} (hf : J5_putStringAt_47b60_f E l0 l1 l2 σ = some σz) : gCV l E D A yJ5_putStringAt_47b60 cJ5_putStringAt_47b60 3 7 158 none [.ref l0, .int l1, .ref l2] σ σz := by
  refine gg_entV (own := RJ5) (nm := "putStringAt") (by decide +kernel) rfl rfl (Nat.le_of_ble_eq_true rfl) rfl ?_
  intro p e R s m args below meth c Q ls hC hw hQ hl
  have hl : lv_has ls 3 [(0, .ref l0), (1, .int l1), (2, .ref l2)] := hl
  exact J5_putStringAt_47b60_W hC hQ hf hw hl

def J0_charAt_5068e (E : gE) (σ : gS) (l0 : Nat) (l1 : Int32) : Option Int32 :=
  ob (gxc E l0 100) fun _ =>
  ob (J0_isLatin1_aae02_f E σ l0) fun x1 =>
  if x1 = 0 then
    ob (gxR E l0 100 0) fun x4 =>
    none
  else
    ob (gxR E l0 100 0) fun x8 =>
    ob (J1_charAt_3b067_f E σ x8 l1) fun x10 =>
    ob (gch x10) fun _ =>
    some x10
set_option maxHeartbeats 4000000 in
set_option maxRecDepth 100000 in
theorem J0_charAt_5068e_W {σ : gS} {l0 : Nat} {l1 : Int32} {res : Int32} {ls : Array Slot} (hC : gC E D A p R s m args meth c cJ0_charAt_5068e 2 RJ0 "charAt" 4 85) (hQ : gQI E D A p l e R s m args below meth c Q cJ0_charAt_5068e FieldType.char (res, σ)) (hf : J0_charAt_5068e E σ l0 l1 = some res) (hw : gW E D A s σ H locs) (hl : lv_has ls 2 [(0, .ref l0), (1, .int l1)]) : W p l e R s m args below meth c H locs cells slots Q (F0 m 0 ls []) := by
  have hC0 := hC
  obtain ⟨hx, hb, hml, hown, hts, -⟩ := hC0
  unfold J0_charAt_5068e at hf
  refine lv_aload_n hx hb dJ0_charAt_5068e_0 rfl (lv_at hl 0 rfl) ?_
  obtain ⟨_, h3, hf⟩ := ob_some hf
  obtain ⟨x1, h2, hf⟩ := ob_some hf
  refine gg_cXI (As := []) hC hw (J0_isLatin1_aae02_M l E D A h2) h3 rfl g_ml_J0_492 hd_J0_isLatin1_aae02 (Nat.le_of_ble_eq_true rfl) (Nat.le_of_ble_eq_true rfl) hl.1 rfl (Nat.le_of_ble_eq_true rfl) dJ0_charAt_5068e_1 (fun H locs cells slots hw => ?_)
  refine lv_if_eq (tgt := 16) hx hb dJ0_charAt_5068e_4 (by decide) (fun c13 => ?_) (fun c13 => ?_)
  · replace hf := (if_pos c13).symm.trans hf
    refine lv_aload_n hx hb dJ0_charAt_5068e_16 rfl (lv_at hl 0 rfl) ?_
    obtain ⟨x4, h5, hf⟩ := ob_some hf
    obtain ⟨hro, fs, he, hv⟩ := gxR_some h5
    refine gg_xget hC hw hro he hv rfl fl_J0_9 dJ0_charAt_5068e_17 ?_
    refine lv_iload_n hx hb dJ0_charAt_5068e_20 rfl (lv_at hl 1 rfl) ?_
    cases hf
  · replace hf := (if_neg c13).symm.trans hf
    refine lv_aload_n hx hb dJ0_charAt_5068e_7 rfl (lv_at hl 0 rfl) ?_
    obtain ⟨x8, h9, hf⟩ := ob_some hf
    obtain ⟨hro, fs, he, hv⟩ := gxR_some h9
    refine gg_xget hC hw hro he hv rfl fl_J0_9 dJ0_charAt_5068e_8 ?_
    refine lv_iload_n hx hb dJ0_charAt_5068e_11 rfl (lv_at hl 1 rfl) ?_
    obtain ⟨x10, h11, hf⟩ := ob_some hf
    refine gg_cSI (As := [.ref x8, .int l1]) hC hw (J1_charAt_3b067_M l E D A h11) g_ml_J0_495 hd_J1_charAt_3b067.2 (Nat.le_of_ble_eq_true rfl) (Nat.le_of_ble_eq_true rfl) hl.1 rfl (Nat.le_of_ble_eq_true rfl) dJ0_charAt_5068e_12 (fun H locs cells slots hw => ?_)
    obtain ⟨_, h12, hf⟩ := ob_some hf
    cases hf
    exact hQ _ _ _ _ _ _ dJ0_charAt_5068e_15 (gch_some h12) hw

def J0_charAt_5068e_f (E : gE) (σ : gS) (l0 : Nat) (l1 : Int32) : Option Int32 := J0_charAt_5068e E σ l0 l1
set_option maxRecDepth 100000 in
theorem J0_charAt_5068e_M (l : Launch) (E : gE) (D : va_G) (A : Nat → Prop) {l0 : Nat} {l1 : Int32} {σ : gS} {res : Int32} (hf : J0_charAt_5068e_f E σ l0 l1 = some res) : gCI l E D A yJ0_charAt_5068e cJ0_charAt_5068e 2 4 85 (some FieldType.char) [.ref l0, .int l1] σ (res, σ) := by
  refine gg_entI (own := RJ0) (nm := "charAt") (ty := FieldType.char) (by decide +kernel) rfl rfl (Nat.le_of_ble_eq_true rfl) rfl ?_
  intro p e R s m args below meth c Q ls hC hw hQ hl
  have hl : lv_has ls 2 [(0, .ref l0), (1, .int l1)] := hl
  exact J0_charAt_5068e_W hC hQ hf hw hl

end MA3
