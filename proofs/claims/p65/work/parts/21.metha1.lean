/-! decompiled: X1_length, X1_dictionary, X1_valueAt, X1_move, X1_shorten, X1_occurrences, X1_greatestRun, X1_isAscending, X2_init, X3_init, X3_widthFor, X3_size, X3_width, X3_entry, X3_countBelow, X3_find, X3_clear, X3_copyFrom, X4_init, X4_size, X4_isFull, X4_has, X4_columnOf, X4_valueOf, X4_directionOf, X4_add, X4_remove, X4_clear, X4_copyFrom, X5_size, X5_clear, X8_init, X8_packCode, X8_unpack, X8_word, X10_init, X10_reset, X10_isWrong, X10_source, X10_applyTo, X11_columns, X11_rows, X11_column, X11_dictionary, X11_filter, X11_isFull, X11_hasRow, X11_moveRow, X11_shorten -/
section MA1
variable {p : Program} {l : Launch} {e : Env} {R : Room} {s : State} {m : MethodId} {args : Array Value} {below : List Frame} {meth : Method} {c : Code} {H : Heap} {locs : List Loc} {cells slots : Nat} {Q : State → Prop} {E : gE} {D : va_G} {A : Nat → Prop}
def X1_length (E : gE) (σ : gS) (l0 : Nat) : Option Int32 :=
  ob (gfI σ l0 0 2) fun x1 =>
  some x1
set_option maxHeartbeats 4000000 in
set_option maxRecDepth 100000 in
theorem X1_length_W {σ : gS} {l0 : Nat} {res : Int32} {ls : Array Slot} (hC : gC E D A p R s m args meth c cX1_length 1 RX1 "length" 0 0) (hQ : gQI E D A p l e R s m args below meth c Q cX1_length FieldType.int (res, σ)) (hf : X1_length E σ l0 = some res) (hw : gW E D A s σ H locs) (hl : lv_has ls 1 [(0, .ref l0)]) : W p l e R s m args below meth c H locs cells slots Q (F0 m 0 ls []) := by
  have hC0 := hC
  obtain ⟨hx, hb, hml, hown, hts, -⟩ := hC0
  unfold X1_length at hf
  refine lv_aload_n hx hb dX1_length_0 rfl (lv_at hl 0 rfl) ?_
  obtain ⟨x1, h2, hf⟩ := ob_some hf
  refine rI_fl_X1_22 hC hw h2 dX1_length_1 ?_
  cases hf
  exact hQ _ _ _ _ _ _ dX1_length_4 rfl hw

def X1_length_f (E : gE) (σ : gS) (l0 : Nat) : Option Int32 := X1_length E σ l0
set_option maxRecDepth 100000 in
theorem X1_length_M (l : Launch) (E : gE) (D : va_G) (A : Nat → Prop) {l0 : Nat} {σ : gS} {res : Int32} (hf : X1_length_f E σ l0 = some res) : gCI l E D A yX1_length cX1_length 1 0 0 (some FieldType.int) [.ref l0] σ (res, σ) := by
  refine gg_entI (own := RX1) (nm := "length") (ty := FieldType.int) (by decide +kernel) rfl rfl (Nat.le_of_ble_eq_true rfl) rfl ?_
  intro p e R s m args below meth c Q ls hC hw hQ hl
  have hl : lv_has ls 1 [(0, .ref l0)] := hl
  exact X1_length_W hC hQ hf hw hl

def X1_dictionary (E : gE) (σ : gS) (l0 : Nat) : Option Nat :=
  ob (gfR σ l0 0 1) fun x1 =>
  some x1
set_option maxHeartbeats 4000000 in
set_option maxRecDepth 100000 in
theorem X1_dictionary_W {σ : gS} {l0 : Nat} {res : Nat} {ls : Array Slot} (hC : gC E D A p R s m args meth c cX1_dictionary 1 RX1 "dictionary" 0 0) (hQ : gQR E D A p l e R s m args below meth c Q cX1_dictionary (res, σ)) (hf : X1_dictionary E σ l0 = some res) (hw : gW E D A s σ H locs) (hl : lv_has ls 1 [(0, .ref l0)]) : W p l e R s m args below meth c H locs cells slots Q (F0 m 0 ls []) := by
  have hC0 := hC
  obtain ⟨hx, hb, hml, hown, hts, -⟩ := hC0
  unfold X1_dictionary at hf
  refine lv_aload_n hx hb dX1_dictionary_0 rfl (lv_at hl 0 rfl) ?_
  obtain ⟨x1, h2, hf⟩ := ob_some hf
  refine rR_fl_X1_18 hC hw h2 dX1_dictionary_1 ?_
  cases hf
  exact hQ _ _ _ _ _ _ dX1_dictionary_4 hw

def X1_dictionary_f (E : gE) (σ : gS) (l0 : Nat) : Option Nat := X1_dictionary E σ l0
set_option maxRecDepth 100000 in
theorem X1_dictionary_M (l : Launch) (E : gE) (D : va_G) (A : Nat → Prop) {l0 : Nat} {σ : gS} {res : Nat} (hf : X1_dictionary_f E σ l0 = some res) : gCR l E D A yX1_dictionary cX1_dictionary 1 0 0 (some (FieldType.object "PackedTable$Dictionary")) [.ref l0] σ (res, σ) := by
  refine gg_entR (own := RX1) (nm := "dictionary") (ty := ((FieldType.object "PackedTable$Dictionary"))) (by decide +kernel) rfl rfl (Nat.le_of_ble_eq_true rfl) rfl (by first | exact Or.inl ⟨_, rfl⟩ | exact Or.inr ⟨_, rfl⟩) ?_
  intro p e R s m args below meth c Q ls hC hw hQ hl
  have hl : lv_has ls 1 [(0, .ref l0)] := hl
  exact X1_dictionary_W hC hQ hf hw hl

def X1_valueAt (E : gE) (σ : gS) (l0 : Nat) (l1 : Int32) : Option Int32 :=
  ob (gfR σ l0 0 0) fun x1 =>
  ob (graI E 0 σ x1 l1) fun x3 =>
  some x3
set_option maxHeartbeats 4000000 in
set_option maxRecDepth 100000 in
theorem X1_valueAt_W {σ : gS} {l0 : Nat} {l1 : Int32} {res : Int32} {ls : Array Slot} (hC : gC E D A p R s m args meth c cX1_valueAt 2 RX1 "valueAt" 0 0) (hQ : gQI E D A p l e R s m args below meth c Q cX1_valueAt FieldType.int (res, σ)) (hf : X1_valueAt E σ l0 l1 = some res) (hw : gW E D A s σ H locs) (hl : lv_has ls 2 [(0, .ref l0), (1, .int l1)]) : W p l e R s m args below meth c H locs cells slots Q (F0 m 0 ls []) := by
  have hC0 := hC
  obtain ⟨hx, hb, hml, hown, hts, -⟩ := hC0
  unfold X1_valueAt at hf
  refine lv_aload_n hx hb dX1_valueAt_0 rfl (lv_at hl 0 rfl) ?_
  obtain ⟨x1, h2, hf⟩ := ob_some hf
  refine rR_fl_X1_9 hC hw h2 dX1_valueAt_1 ?_
  refine lv_iload_n hx hb dX1_valueAt_4 rfl (lv_at hl 1 rfl) ?_
  obtain ⟨x3, h4, hf⟩ := ob_some hf
  refine gg_aldI hC hw h4 dX1_valueAt_5 ?_
  cases hf
  exact hQ _ _ _ _ _ _ dX1_valueAt_6 rfl hw

def X1_valueAt_f (E : gE) (σ : gS) (l0 : Nat) (l1 : Int32) : Option Int32 := X1_valueAt E σ l0 l1
set_option maxRecDepth 100000 in
theorem X1_valueAt_M (l : Launch) (E : gE) (D : va_G) (A : Nat → Prop) {l0 : Nat} {l1 : Int32} {σ : gS} {res : Int32} (hf : X1_valueAt_f E σ l0 l1 = some res) : gCI l E D A yX1_valueAt cX1_valueAt 2 0 0 (some FieldType.int) [.ref l0, .int l1] σ (res, σ) := by
  refine gg_entI (own := RX1) (nm := "valueAt") (ty := FieldType.int) (by decide +kernel) rfl rfl (Nat.le_of_ble_eq_true rfl) rfl ?_
  intro p e R s m args below meth c Q ls hC hw hQ hl
  have hl : lv_has ls 2 [(0, .ref l0), (1, .int l1)] := hl
  exact X1_valueAt_W hC hQ hf hw hl

def X1_move (E : gE) (l0 : Nat) (l1 : Int32) (l2 : Int32) (σ : gS) : Option gS :=
  ob (gfR σ l0 0 0) fun x1 =>
  ob (gfR σ l0 0 0) fun x3 =>
  ob (graI E 0 σ x3 l1) fun x5 =>
  ob (gwaI E σ x1 l2 x5) fun σ7 =>
  some σ7
set_option maxHeartbeats 4000000 in
set_option maxRecDepth 100000 in
theorem X1_move_W {σ : gS} {l0 : Nat} {l1 : Int32} {l2 : Int32} {σz : gS} {ls : Array Slot} (hC : gC E D A p R s m args meth c cX1_move 3 RX1 "move" 0 0) (hQ : gQV E D A p l e R s m args below meth c Q cX1_move σz) (hf : X1_move E l0 l1 l2 σ = some σz) (hw : gW E D A s σ H locs) (hl : lv_has ls 3 [(0, .ref l0), (1, .int l1), (2, .int l2)]) : W p l e R s m args below meth c H locs cells slots Q (F0 m 0 ls []) := by
  have hC0 := hC
  obtain ⟨hx, hb, hml, hown, hts, -⟩ := hC0
  unfold X1_move at hf
  refine lv_aload_n hx hb dX1_move_0 rfl (lv_at hl 0 rfl) ?_
  obtain ⟨x1, h2, hf⟩ := ob_some hf
  refine rR_fl_X1_9 hC hw h2 dX1_move_1 ?_
  refine lv_iload_n hx hb dX1_move_4 rfl (lv_at hl 2 rfl) ?_
  refine lv_aload_n hx hb dX1_move_5 rfl (lv_at hl 0 rfl) ?_
  obtain ⟨x3, h4, hf⟩ := ob_some hf
  refine rR_fl_X1_9 hC hw h4 dX1_move_6 ?_
  refine lv_iload_n hx hb dX1_move_9 rfl (lv_at hl 1 rfl) ?_
  obtain ⟨x5, h6, hf⟩ := ob_some hf
  refine gg_aldI hC hw h6 dX1_move_10 ?_
  obtain ⟨σ7, h8, hf⟩ := ob_some hf
  refine gg_astI hC hw h8 dX1_move_11 (fun H locs hw => ?_)
  cases hf
  exact hQ _ _ _ _ _ _ dX1_move_12 hw

def X1_move_f (E : gE) (l0 : Nat) (l1 : Int32) (l2 : Int32) (σ : gS) : Option gS := X1_move E l0 l1 l2 σ
set_option maxRecDepth 100000 in
theorem X1_move_M (l : Launch) (E : gE) (D : va_G) (A : Nat → Prop) {l0 : Nat} {l1 : Int32} {l2 : Int32} {σ : gS} {σz : gS} (hf : X1_move_f E l0 l1 l2 σ = some σz) : gCV l E D A yX1_move cX1_move 3 0 0 none [.ref l0, .int l1, .int l2] σ σz := by
  refine gg_entV (own := RX1) (nm := "move") (by decide +kernel) rfl rfl (Nat.le_of_ble_eq_true rfl) rfl ?_
  intro p e R s m args below meth c Q ls hC hw hQ hl
  have hl : lv_has ls 3 [(0, .ref l0), (1, .int l1), (2, .int l2)] := hl
  exact X1_move_W hC hQ hf hw hl

def X1_shorten (E : gE) (l0 : Nat) (l1 : Int32) (σ : gS) : Option gS :=
  ob (gpf E σ l0 0 2 (.int l1)) fun σ1 =>
  some σ1
set_option maxHeartbeats 4000000 in
set_option maxRecDepth 100000 in
theorem X1_shorten_W {σ : gS} {l0 : Nat} {l1 : Int32} {σz : gS} {ls : Array Slot} (hC : gC E D A p R s m args meth c cX1_shorten 2 RX1 "shorten" 0 0) (hQ : gQV E D A p l e R s m args below meth c Q cX1_shorten σz) (hf : X1_shorten E l0 l1 σ = some σz) (hw : gW E D A s σ H locs) (hl : lv_has ls 2 [(0, .ref l0), (1, .int l1)]) : W p l e R s m args below meth c H locs cells slots Q (F0 m 0 ls []) := by
  have hC0 := hC
  obtain ⟨hx, hb, hml, hown, hts, -⟩ := hC0
  unfold X1_shorten at hf
  refine lv_aload_n hx hb dX1_shorten_0 rfl (lv_at hl 0 rfl) ?_
  refine lv_iload_n hx hb dX1_shorten_1 rfl (lv_at hl 1 rfl) ?_
  obtain ⟨σ1, h2, hf⟩ := ob_some hf
  refine p_fl_X1_22 hC hw h2 rfl rfl dX1_shorten_2 (fun H locs hw => ?_)
  cases hf
  exact hQ _ _ _ _ _ _ dX1_shorten_5 hw

def X1_shorten_f (E : gE) (l0 : Nat) (l1 : Int32) (σ : gS) : Option gS := X1_shorten E l0 l1 σ
set_option maxRecDepth 100000 in
theorem X1_shorten_M (l : Launch) (E : gE) (D : va_G) (A : Nat → Prop) {l0 : Nat} {l1 : Int32} {σ : gS} {σz : gS} (hf : X1_shorten_f E l0 l1 σ = some σz) : gCV l E D A yX1_shorten cX1_shorten 2 0 0 none [.ref l0, .int l1] σ σz := by
  refine gg_entV (own := RX1) (nm := "shorten") (by decide +kernel) rfl rfl (Nat.le_of_ble_eq_true rfl) rfl ?_
  intro p e R s m args below meth c Q ls hC hw hQ hl
  have hl : lv_has ls 2 [(0, .ref l0), (1, .int l1)] := hl
  exact X1_shorten_W hC hQ hf hw hl

def X1_occurrences_25 (E : gE) (σ : gS) (r_4 : Nat → Int32 → Int32 → Int32 → Option Int32) (l0 : Nat) (l1 : Int32) (l2 : Int32) (l3 : Int32) : Option Int32 :=
  r_4 l0 l1 l2 (l3 + 1)
set_option maxHeartbeats 4000000 in
set_option maxRecDepth 100000 in
theorem X1_occurrences_25_W {σ : gS} {l0 : Nat} {l1 : Int32} {l2 : Int32} {l3 : Int32} {res : Int32} {ls : Array Slot} (hC : gC E D A p R s m args meth c cX1_occurrences 4 RX1 "occurrences" 0 0) (hQ : gQI E D A p l e R s m args below meth c Q cX1_occurrences FieldType.int (res, σ)) {r_4 : Nat → Int32 → Int32 → Int32 → Option Int32} (h_4 : ∀ {l0 : Nat} {l1 : Int32} {l2 : Int32} {l3 : Int32} {H : Heap} {locs : List Loc} {cells slots : Nat} {ls : Array Slot}, r_4 l0 l1 l2 l3 = some res → gW E D A s σ H locs → lv_has ls 4 [(0, .ref l0), (1, .int l1), (2, .int l2), (3, .int l3)] → W p l e R s m args below meth c H locs cells slots Q (F0 m 4 ls [])) (hf : X1_occurrences_25 E σ r_4 l0 l1 l2 l3 = some res) (hw : gW E D A s σ H locs) (hl : lv_has ls 4 [(0, .ref l0), (1, .int l1), (2, .int l2), (3, .int l3)]) : W p l e R s m args below meth c H locs cells slots Q (F0 m 25 ls []) := by
  have hC0 := hC
  obtain ⟨hx, hb, hml, hown, hts, -⟩ := hC0
  unfold X1_occurrences_25 at hf
  refine lv_iinc (v := (l3 + 1)) (lv' := [(3, .int (l3 + 1)), (0, .ref l0), (1, .int l1), (2, .int l2)]) hx hb dX1_occurrences_25 hl (k := 3) rfl rfl (by decide) rfl (fun ls hl => ?_)
  refine lv_goto (tgt := 4) hx hb dX1_occurrences_28 (by decide) ?_
  exact h_4 hf hw (lv_sub hl [1, 2, 3, 0] rfl)

def X1_occurrences_4_s (E : gE) (σ : gS) (r_4 : Nat → Int32 → Int32 → Int32 → Option Int32) (l0 : Nat) (l1 : Int32) (l2 : Int32) (l3 : Int32) : Option Int32 :=
  ob (gfI σ l0 0 2) fun x1 =>
  if x1 ≤ l3 then
    some l2
  else
    ob (gfR σ l0 0 0) fun x3 =>
    ob (graI E 0 σ x3 l3) fun x5 =>
    if x5 = l1 then
      X1_occurrences_25 E σ r_4 l0 l1 (l2 + 1) l3
    else
      X1_occurrences_25 E σ r_4 l0 l1 l2 l3
set_option maxHeartbeats 4000000 in
set_option maxRecDepth 100000 in
theorem X1_occurrences_4_s_W {σ : gS} {l0 : Nat} {l1 : Int32} {l2 : Int32} {l3 : Int32} {res : Int32} {ls : Array Slot} (hC : gC E D A p R s m args meth c cX1_occurrences 4 RX1 "occurrences" 0 0) (hQ : gQI E D A p l e R s m args below meth c Q cX1_occurrences FieldType.int (res, σ)) {r_4 : Nat → Int32 → Int32 → Int32 → Option Int32} (h_4 : ∀ {l0 : Nat} {l1 : Int32} {l2 : Int32} {l3 : Int32} {H : Heap} {locs : List Loc} {cells slots : Nat} {ls : Array Slot}, r_4 l0 l1 l2 l3 = some res → gW E D A s σ H locs → lv_has ls 4 [(0, .ref l0), (1, .int l1), (2, .int l2), (3, .int l3)] → W p l e R s m args below meth c H locs cells slots Q (F0 m 4 ls [])) (hf : X1_occurrences_4_s E σ r_4 l0 l1 l2 l3 = some res) (hw : gW E D A s σ H locs) (hl : lv_has ls 4 [(0, .ref l0), (1, .int l1), (2, .int l2), (3, .int l3)]) : W p l e R s m args below meth c H locs cells slots Q (F0 m 4 ls []) := by
  have hC0 := hC
  obtain ⟨hx, hb, hml, hown, hts, -⟩ := hC0
  unfold X1_occurrences_4_s at hf
  refine lv_iload_n hx hb dX1_occurrences_4 rfl (lv_at hl 3 rfl) ?_
  refine lv_aload_n hx hb dX1_occurrences_5 rfl (lv_at hl 0 rfl) ?_
  obtain ⟨x1, h2, hf⟩ := ob_some hf
  refine rI_fl_X1_22 hC hw h2 dX1_occurrences_6 ?_
  refine lv_icmp_ge (tgt := 31) hx hb dX1_occurrences_9 (by decide) (fun c8 => ?_) (fun c8 => ?_)
  · replace hf := (if_pos c8).symm.trans hf
    refine lv_iload_n hx hb dX1_occurrences_31 rfl (lv_at hl 2 rfl) ?_
    cases hf
    exact hQ _ _ _ _ _ _ dX1_occurrences_32 rfl hw
  · replace hf := (if_neg c8).symm.trans hf
    refine lv_aload_n hx hb dX1_occurrences_12 rfl (lv_at hl 0 rfl) ?_
    obtain ⟨x3, h4, hf⟩ := ob_some hf
    refine rR_fl_X1_9 hC hw h4 dX1_occurrences_13 ?_
    refine lv_iload_n hx hb dX1_occurrences_16 rfl (lv_at hl 3 rfl) ?_
    obtain ⟨x5, h6, hf⟩ := ob_some hf
    refine gg_aldI hC hw h6 dX1_occurrences_17 ?_
    refine lv_iload_n hx hb dX1_occurrences_18 rfl (lv_at hl 1 rfl) ?_
    refine lv_icmp_ne (tgt := 25) hx hb dX1_occurrences_19 (by decide) (fun c7 => ?_) (fun c7 => ?_)
    · replace hf := (if_neg c7).symm.trans hf
      exact X1_occurrences_25_W hC hQ h_4 hf hw (lv_sub hl [0, 1, 2, 3] rfl)
    · replace hf := (if_pos c7).symm.trans hf
      refine lv_iinc (v := (l2 + 1)) (lv' := [(2, .int (l2 + 1)), (0, .ref l0), (1, .int l1), (3, .int l3)]) hx hb dX1_occurrences_22 hl (k := 2) rfl rfl (by decide) rfl (fun ls hl => ?_)
      exact X1_occurrences_25_W hC hQ h_4 hf hw (lv_sub hl [1, 2, 0, 3] rfl)
def X1_occurrences_4 (E : gE) (σ : gS) : Nat → Nat → Int32 → Int32 → Int32 → Option Int32
  | 0 => fun _ _ _ _ => none
  | n + 1 => X1_occurrences_4_s E σ (X1_occurrences_4 E σ n)
theorem X1_occurrences_4_W {σ : gS} {res : Int32} (hC : gC E D A p R s m args meth c cX1_occurrences 4 RX1 "occurrences" 0 0) (hQ : gQI E D A p l e R s m args below meth c Q cX1_occurrences FieldType.int (res, σ)) : ∀ (n : Nat), ∀ {l0 : Nat} {l1 : Int32} {l2 : Int32} {l3 : Int32} {H : Heap} {locs : List Loc} {cells slots : Nat} {ls : Array Slot}, X1_occurrences_4 E σ n l0 l1 l2 l3 = some res → gW E D A s σ H locs → lv_has ls 4 [(0, .ref l0), (1, .int l1), (2, .int l2), (3, .int l3)] → W p l e R s m args below meth c H locs cells slots Q (F0 m 4 ls []) := by
  intro n
  induction n with
  | zero =>
    intros
    rename_i hf _ _
    exact absurd hf (fun h => by cases (show (none : Option Int32) = some res from h))
  | succ n ih =>
    intros
    rename_i hf hw hl
    exact X1_occurrences_4_s_W hC hQ ih hf hw hl

def X1_occurrences (E : gE) (σ : gS) (l0 : Nat) (l1 : Int32) : Option Int32 :=
  X1_occurrences_4 E σ (gN E) l0 l1 (0 : Int32) (0 : Int32)
set_option maxHeartbeats 4000000 in
set_option maxRecDepth 100000 in
theorem X1_occurrences_W {σ : gS} {l0 : Nat} {l1 : Int32} {res : Int32} {ls : Array Slot} (hC : gC E D A p R s m args meth c cX1_occurrences 4 RX1 "occurrences" 0 0) (hQ : gQI E D A p l e R s m args below meth c Q cX1_occurrences FieldType.int (res, σ)) (hf : X1_occurrences E σ l0 l1 = some res) (hw : gW E D A s σ H locs) (hl : lv_has ls 4 [(0, .ref l0), (1, .int l1)]) : W p l e R s m args below meth c H locs cells slots Q (F0 m 0 ls []) := by
  have hC0 := hC
  obtain ⟨hx, hb, hml, hown, hts, -⟩ := hC0
  unfold X1_occurrences at hf
  refine lv_iconst (v := 0) hx hb dX1_occurrences_0 (by decide) ?_
  refine lv_istore_n (lv' := [(2, .int (0 : Int32)), (0, .ref l0), (1, .int l1)]) hx hb dX1_occurrences_1 rfl hl (by decide) rfl (fun ls hl => ?_)
  refine lv_iconst (v := 0) hx hb dX1_occurrences_2 (by decide) ?_
  refine lv_istore_n (lv' := [(3, .int (0 : Int32)), (2, .int (0 : Int32)), (0, .ref l0), (1, .int l1)]) hx hb dX1_occurrences_3 rfl hl (by decide) rfl (fun ls hl => ?_)
  exact X1_occurrences_4_W hC hQ (gN E) hf hw (lv_sub hl [2, 3, 1, 0] rfl)

def X1_occurrences_f (E : gE) (σ : gS) (l0 : Nat) (l1 : Int32) : Option Int32 := X1_occurrences E σ l0 l1
set_option maxRecDepth 100000 in
theorem X1_occurrences_M (l : Launch) (E : gE) (D : va_G) (A : Nat → Prop) {l0 : Nat} {l1 : Int32} {σ : gS} {res : Int32} (hf : X1_occurrences_f E σ l0 l1 = some res) : gCI l E D A yX1_occurrences cX1_occurrences 4 0 0 (some FieldType.int) [.ref l0, .int l1] σ (res, σ) := by
  refine gg_entI (own := RX1) (nm := "occurrences") (ty := FieldType.int) (by decide +kernel) rfl rfl (Nat.le_of_ble_eq_true rfl) rfl ?_
  intro p e R s m args below meth c Q ls hC hw hQ hl
  have hl : lv_has ls 4 [(0, .ref l0), (1, .int l1)] := hl
  exact X1_occurrences_W hC hQ hf hw hl

def X1_greatestRun_54 (E : gE) (σ : gS) (r_6 : Nat → Int32 → Int32 → Int32 → Option Int32) (l0 : Nat) (l1 : Int32) (l3 : Int32) (s0 : Int32) : Option Int32 :=
  r_6 l0 (gmax l1 s0) s0 (l3 + 1)
set_option maxHeartbeats 4000000 in
set_option maxRecDepth 100000 in
theorem X1_greatestRun_54_W {σ : gS} {l0 : Nat} {l1 : Int32} {l3 : Int32} {s0 : Int32} {res : Int32} {ls : Array Slot} (hC : gC E D A p R s m args meth c cX1_greatestRun 5 RX1 "greatestRun" 3 80) (hQ : gQI E D A p l e R s m args below meth c Q cX1_greatestRun FieldType.int (res, σ)) {r_6 : Nat → Int32 → Int32 → Int32 → Option Int32} (h_6 : ∀ {l0 : Nat} {l1 : Int32} {l2 : Int32} {l3 : Int32} {H : Heap} {locs : List Loc} {cells slots : Nat} {ls : Array Slot}, r_6 l0 l1 l2 l3 = some res → gW E D A s σ H locs → lv_has ls 5 [(0, .ref l0), (1, .int l1), (2, .int l2), (3, .int l3)] → W p l e R s m args below meth c H locs cells slots Q (F0 m 6 ls [])) (hf : X1_greatestRun_54 E σ r_6 l0 l1 l3 s0 = some res) (hw : gW E D A s σ H locs) (hl : lv_has ls 5 [(0, .ref l0), (1, .int l1), (3, .int l3)]) : W p l e R s m args below meth c H locs cells slots Q (F0 m 54 ls [.int s0]) := by
  have hC0 := hC
  obtain ⟨hx, hb, hml, hown, hts, -⟩ := hC0
  unfold X1_greatestRun_54 at hf
  refine lv_istore_n (lv' := [(2, .int s0), (0, .ref l0), (1, .int l1), (3, .int l3)]) hx hb dX1_greatestRun_54 rfl hl (by decide) rfl (fun ls hl => ?_)
  refine lv_iload_n hx hb dX1_greatestRun_55 rfl (lv_at hl 2 rfl) ?_
  refine lv_iload_n hx hb dX1_greatestRun_56 rfl (lv_at hl 0 rfl) ?_
  refine gg_mmax hC hw ml_X1_53 rfl hl.1 (Nat.le_of_ble_eq_true rfl) (Nat.le_of_ble_eq_true rfl) (Nat.le_of_ble_eq_true rfl) dX1_greatestRun_57 (fun cells slots => ?_)
  refine lv_istore_n (lv' := [(1, .int (gmax l1 s0)), (2, .int s0), (0, .ref l0), (3, .int l3)]) hx hb dX1_greatestRun_60 rfl hl (by decide) rfl (fun ls hl => ?_)
  refine lv_iinc (v := (l3 + 1)) (lv' := [(3, .int (l3 + 1)), (1, .int (gmax l1 s0)), (2, .int s0), (0, .ref l0)]) hx hb dX1_greatestRun_61 hl (k := 3) rfl rfl (by decide) rfl (fun ls hl => ?_)
  refine lv_goto (tgt := 6) hx hb dX1_greatestRun_64 (by decide) ?_
  exact h_6 hf hw (lv_sub hl [3, 1, 2, 0] rfl)

def X1_greatestRun_40 (E : gE) (σ : gS) (r_6 : Nat → Int32 → Int32 → Int32 → Option Int32) (l0 : Nat) (l1 : Int32) (l2 : Int32) (l3 : Int32) (s0 : Int32) : Option Int32 :=
  if s0 = 0 then
    X1_greatestRun_54 E σ r_6 l0 l1 l3 (1 : Int32)
  else
    X1_greatestRun_54 E σ r_6 l0 l1 l3 (l2 + (1 : Int32))
set_option maxHeartbeats 4000000 in
set_option maxRecDepth 100000 in
theorem X1_greatestRun_40_W {σ : gS} {l0 : Nat} {l1 : Int32} {l2 : Int32} {l3 : Int32} {s0 : Int32} {res : Int32} {ls : Array Slot} (hC : gC E D A p R s m args meth c cX1_greatestRun 5 RX1 "greatestRun" 3 80) (hQ : gQI E D A p l e R s m args below meth c Q cX1_greatestRun FieldType.int (res, σ)) {r_6 : Nat → Int32 → Int32 → Int32 → Option Int32} (h_6 : ∀ {l0 : Nat} {l1 : Int32} {l2 : Int32} {l3 : Int32} {H : Heap} {locs : List Loc} {cells slots : Nat} {ls : Array Slot}, r_6 l0 l1 l2 l3 = some res → gW E D A s σ H locs → lv_has ls 5 [(0, .ref l0), (1, .int l1), (2, .int l2), (3, .int l3)] → W p l e R s m args below meth c H locs cells slots Q (F0 m 6 ls [])) (hf : X1_greatestRun_40 E σ r_6 l0 l1 l2 l3 s0 = some res) (hw : gW E D A s σ H locs) (hl : lv_has ls 5 [(0, .ref l0), (1, .int l1), (2, .int l2), (3, .int l3)]) : W p l e R s m args below meth c H locs cells slots Q (F0 m 40 ls [.int s0]) := by
  have hC0 := hC
  obtain ⟨hx, hb, hml, hown, hts, -⟩ := hC0
  unfold X1_greatestRun_40 at hf
  refine lv_istore (lv' := [(4, .int s0), (0, .ref l0), (1, .int l1), (2, .int l2), (3, .int l3)]) hx hb dX1_greatestRun_40 hl (by decide) rfl (fun ls hl => ?_)
  refine lv_iload hx hb dX1_greatestRun_42 (lv_at hl 0 rfl) ?_
  refine lv_if_eq (tgt := 53) hx hb dX1_greatestRun_44 (by decide) (fun c3 => ?_) (fun c3 => ?_)
  · replace hf := (if_pos c3).symm.trans hf
    refine lv_iconst (v := 1) hx hb dX1_greatestRun_53 (by decide) ?_
    exact X1_greatestRun_54_W hC hQ h_6 hf hw (lv_sub hl [1, 2, 4] rfl)
  · replace hf := (if_neg c3).symm.trans hf
    refine lv_iload_n hx hb dX1_greatestRun_47 rfl (lv_at hl 3 rfl) ?_
    refine lv_iconst (v := 1) hx hb dX1_greatestRun_48 (by decide) ?_
    refine lv_iadd hx hb dX1_greatestRun_49 ?_
    refine lv_goto (tgt := 54) hx hb dX1_greatestRun_50 (by decide) ?_
    exact X1_greatestRun_54_W hC hQ h_6 hf hw (lv_sub hl [1, 2, 4] rfl)

def X1_greatestRun_39 (E : gE) (σ : gS) (r_6 : Nat → Int32 → Int32 → Int32 → Option Int32) (l0 : Nat) (l1 : Int32) (l2 : Int32) (l3 : Int32) : Option Int32 :=
  X1_greatestRun_40 E σ r_6 l0 l1 l2 l3 (0 : Int32)
set_option maxHeartbeats 4000000 in
set_option maxRecDepth 100000 in
theorem X1_greatestRun_39_W {σ : gS} {l0 : Nat} {l1 : Int32} {l2 : Int32} {l3 : Int32} {res : Int32} {ls : Array Slot} (hC : gC E D A p R s m args meth c cX1_greatestRun 5 RX1 "greatestRun" 3 80) (hQ : gQI E D A p l e R s m args below meth c Q cX1_greatestRun FieldType.int (res, σ)) {r_6 : Nat → Int32 → Int32 → Int32 → Option Int32} (h_6 : ∀ {l0 : Nat} {l1 : Int32} {l2 : Int32} {l3 : Int32} {H : Heap} {locs : List Loc} {cells slots : Nat} {ls : Array Slot}, r_6 l0 l1 l2 l3 = some res → gW E D A s σ H locs → lv_has ls 5 [(0, .ref l0), (1, .int l1), (2, .int l2), (3, .int l3)] → W p l e R s m args below meth c H locs cells slots Q (F0 m 6 ls [])) (hf : X1_greatestRun_39 E σ r_6 l0 l1 l2 l3 = some res) (hw : gW E D A s σ H locs) (hl : lv_has ls 5 [(0, .ref l0), (1, .int l1), (2, .int l2), (3, .int l3)]) : W p l e R s m args below meth c H locs cells slots Q (F0 m 39 ls []) := by
  have hC0 := hC
  obtain ⟨hx, hb, hml, hown, hts, -⟩ := hC0
  unfold X1_greatestRun_39 at hf
  refine lv_iconst (v := 0) hx hb dX1_greatestRun_39 (by decide) ?_
  exact X1_greatestRun_40_W hC hQ h_6 hf hw (lv_sub hl [0, 1, 2, 3] rfl)

def X1_greatestRun_6_s (E : gE) (σ : gS) (r_6 : Nat → Int32 → Int32 → Int32 → Option Int32) (l0 : Nat) (l1 : Int32) (l2 : Int32) (l3 : Int32) : Option Int32 :=
  ob (gfI σ l0 0 2) fun x4 =>
  if x4 ≤ l3 then
    some l1
  else
    if l3 ≤ 0 then
      X1_greatestRun_39 E σ r_6 l0 l1 l2 l3
    else
      ob (gfR σ l0 0 0) fun x6 =>
      ob (graI E 0 σ x6 l3) fun x8 =>
      ob (gfR σ l0 0 0) fun x10 =>
      ob (graI E 0 σ x10 (l3 - (1 : Int32))) fun x12 =>
      if x8 = x12 then
        X1_greatestRun_40 E σ r_6 l0 l1 l2 l3 (1 : Int32)
      else
        X1_greatestRun_39 E σ r_6 l0 l1 l2 l3
set_option maxHeartbeats 4000000 in
set_option maxRecDepth 100000 in
theorem X1_greatestRun_6_s_W {σ : gS} {l0 : Nat} {l1 : Int32} {l2 : Int32} {l3 : Int32} {res : Int32} {ls : Array Slot} (hC : gC E D A p R s m args meth c cX1_greatestRun 5 RX1 "greatestRun" 3 80) (hQ : gQI E D A p l e R s m args below meth c Q cX1_greatestRun FieldType.int (res, σ)) {r_6 : Nat → Int32 → Int32 → Int32 → Option Int32} (h_6 : ∀ {l0 : Nat} {l1 : Int32} {l2 : Int32} {l3 : Int32} {H : Heap} {locs : List Loc} {cells slots : Nat} {ls : Array Slot}, r_6 l0 l1 l2 l3 = some res → gW E D A s σ H locs → lv_has ls 5 [(0, .ref l0), (1, .int l1), (2, .int l2), (3, .int l3)] → W p l e R s m args below meth c H locs cells slots Q (F0 m 6 ls [])) (hf : X1_greatestRun_6_s E σ r_6 l0 l1 l2 l3 = some res) (hw : gW E D A s σ H locs) (hl : lv_has ls 5 [(0, .ref l0), (1, .int l1), (2, .int l2), (3, .int l3)]) : W p l e R s m args below meth c H locs cells slots Q (F0 m 6 ls []) := by
  have hC0 := hC
  obtain ⟨hx, hb, hml, hown, hts, -⟩ := hC0
  unfold X1_greatestRun_6_s at hf
  refine lv_iload_n hx hb dX1_greatestRun_6 rfl (lv_at hl 3 rfl) ?_
  refine lv_aload_n hx hb dX1_greatestRun_7 rfl (lv_at hl 0 rfl) ?_
  obtain ⟨x4, h5, hf⟩ := ob_some hf
  refine rI_fl_X1_22 hC hw h5 dX1_greatestRun_8 ?_
  refine lv_icmp_ge (tgt := 67) hx hb dX1_greatestRun_11 (by decide) (fun c16 => ?_) (fun c16 => ?_)
  · replace hf := (if_pos c16).symm.trans hf
    refine lv_iload_n hx hb dX1_greatestRun_67 rfl (lv_at hl 1 rfl) ?_
    cases hf
    exact hQ _ _ _ _ _ _ dX1_greatestRun_68 rfl hw
  · replace hf := (if_neg c16).symm.trans hf
    refine lv_iload_n hx hb dX1_greatestRun_14 rfl (lv_at hl 3 rfl) ?_
    refine lv_if_le (tgt := 39) hx hb dX1_greatestRun_15 (by decide) (fun c15 => ?_) (fun c15 => ?_)
    · replace hf := (if_pos c15).symm.trans hf
      exact X1_greatestRun_39_W hC hQ h_6 hf hw (lv_sub hl [0, 1, 2, 3] rfl)
    · replace hf := (if_neg c15).symm.trans hf
      refine lv_aload_n hx hb dX1_greatestRun_18 rfl (lv_at hl 0 rfl) ?_
      obtain ⟨x6, h7, hf⟩ := ob_some hf
      refine rR_fl_X1_9 hC hw h7 dX1_greatestRun_19 ?_
      refine lv_iload_n hx hb dX1_greatestRun_22 rfl (lv_at hl 3 rfl) ?_
      obtain ⟨x8, h9, hf⟩ := ob_some hf
      refine gg_aldI hC hw h9 dX1_greatestRun_23 ?_
      refine lv_aload_n hx hb dX1_greatestRun_24 rfl (lv_at hl 0 rfl) ?_
      obtain ⟨x10, h11, hf⟩ := ob_some hf
      refine rR_fl_X1_9 hC hw h11 dX1_greatestRun_25 ?_
      refine lv_iload_n hx hb dX1_greatestRun_28 rfl (lv_at hl 3 rfl) ?_
      refine lv_iconst (v := 1) hx hb dX1_greatestRun_29 (by decide) ?_
      refine lv_isub hx hb dX1_greatestRun_30 ?_
      obtain ⟨x12, h13, hf⟩ := ob_some hf
      refine gg_aldI hC hw h13 dX1_greatestRun_31 ?_
      refine lv_icmp_ne (tgt := 39) hx hb dX1_greatestRun_32 (by decide) (fun c14 => ?_) (fun c14 => ?_)
      · replace hf := (if_neg c14).symm.trans hf
        exact X1_greatestRun_39_W hC hQ h_6 hf hw (lv_sub hl [0, 1, 2, 3] rfl)
      · replace hf := (if_pos c14).symm.trans hf
        refine lv_iconst (v := 1) hx hb dX1_greatestRun_35 (by decide) ?_
        refine lv_goto (tgt := 40) hx hb dX1_greatestRun_36 (by decide) ?_
        exact X1_greatestRun_40_W hC hQ h_6 hf hw (lv_sub hl [0, 1, 2, 3] rfl)
def X1_greatestRun_6 (E : gE) (σ : gS) : Nat → Nat → Int32 → Int32 → Int32 → Option Int32
  | 0 => fun _ _ _ _ => none
  | n + 1 => X1_greatestRun_6_s E σ (X1_greatestRun_6 E σ n)
theorem X1_greatestRun_6_W {σ : gS} {res : Int32} (hC : gC E D A p R s m args meth c cX1_greatestRun 5 RX1 "greatestRun" 3 80) (hQ : gQI E D A p l e R s m args below meth c Q cX1_greatestRun FieldType.int (res, σ)) : ∀ (n : Nat), ∀ {l0 : Nat} {l1 : Int32} {l2 : Int32} {l3 : Int32} {H : Heap} {locs : List Loc} {cells slots : Nat} {ls : Array Slot}, X1_greatestRun_6 E σ n l0 l1 l2 l3 = some res → gW E D A s σ H locs → lv_has ls 5 [(0, .ref l0), (1, .int l1), (2, .int l2), (3, .int l3)] → W p l e R s m args below meth c H locs cells slots Q (F0 m 6 ls []) := by
  intro n
  induction n with
  | zero =>
    intros
    rename_i hf _ _
    exact absurd hf (fun h => by cases (show (none : Option Int32) = some res from h))
  | succ n ih =>
    intros
    rename_i hf hw hl
    exact X1_greatestRun_6_s_W hC hQ ih hf hw hl

def X1_greatestRun (E : gE) (σ : gS) (l0 : Nat) : Option Int32 :=
  X1_greatestRun_6 E σ (gN E) l0 (0 : Int32) (0 : Int32) (0 : Int32)
set_option maxHeartbeats 4000000 in
set_option maxRecDepth 100000 in
theorem X1_greatestRun_W {σ : gS} {l0 : Nat} {res : Int32} {ls : Array Slot} (hC : gC E D A p R s m args meth c cX1_greatestRun 5 RX1 "greatestRun" 3 80) (hQ : gQI E D A p l e R s m args below meth c Q cX1_greatestRun FieldType.int (res, σ)) (hf : X1_greatestRun E σ l0 = some res) (hw : gW E D A s σ H locs) (hl : lv_has ls 5 [(0, .ref l0)]) : W p l e R s m args below meth c H locs cells slots Q (F0 m 0 ls []) := by
  have hC0 := hC
  obtain ⟨hx, hb, hml, hown, hts, -⟩ := hC0
  unfold X1_greatestRun at hf
  refine lv_iconst (v := 0) hx hb dX1_greatestRun_0 (by decide) ?_
  refine lv_istore_n (lv' := [(1, .int (0 : Int32)), (0, .ref l0)]) hx hb dX1_greatestRun_1 rfl hl (by decide) rfl (fun ls hl => ?_)
  refine lv_iconst (v := 0) hx hb dX1_greatestRun_2 (by decide) ?_
  refine lv_istore_n (lv' := [(2, .int (0 : Int32)), (1, .int (0 : Int32)), (0, .ref l0)]) hx hb dX1_greatestRun_3 rfl hl (by decide) rfl (fun ls hl => ?_)
  refine lv_iconst (v := 0) hx hb dX1_greatestRun_4 (by decide) ?_
  refine lv_istore_n (lv' := [(3, .int (0 : Int32)), (2, .int (0 : Int32)), (1, .int (0 : Int32)), (0, .ref l0)]) hx hb dX1_greatestRun_5 rfl hl (by decide) rfl (fun ls hl => ?_)
  exact X1_greatestRun_6_W hC hQ (gN E) hf hw (lv_sub hl [3, 2, 1, 0] rfl)

def X1_greatestRun_f (E : gE) (σ : gS) (l0 : Nat) : Option Int32 := X1_greatestRun E σ l0
set_option maxRecDepth 100000 in
theorem X1_greatestRun_M (l : Launch) (E : gE) (D : va_G) (A : Nat → Prop) {l0 : Nat} {σ : gS} {res : Int32} (hf : X1_greatestRun_f E σ l0 = some res) : gCI l E D A yX1_greatestRun cX1_greatestRun 5 3 80 (some FieldType.int) [.ref l0] σ (res, σ) := by
  refine gg_entI (own := RX1) (nm := "greatestRun") (ty := FieldType.int) (by decide +kernel) rfl rfl (Nat.le_of_ble_eq_true rfl) rfl ?_
  intro p e R s m args below meth c Q ls hC hw hQ hl
  have hl : lv_has ls 5 [(0, .ref l0)] := hl
  exact X1_greatestRun_W hC hQ hf hw hl

def X1_isAscending_2_s (E : gE) (σ : gS) (r_2 : Nat → Int32 → Option Int32) (l0 : Nat) (l1 : Int32) : Option Int32 :=
  ob (gfI σ l0 0 2) fun x1 =>
  if x1 ≤ l1 then
    some (1 : Int32)
  else
    ob (gfR σ l0 0 0) fun x3 =>
    ob (graI E 0 σ x3 l1) fun x5 =>
    ob (gfR σ l0 0 0) fun x7 =>
    ob (graI E 0 σ x7 (l1 - (1 : Int32))) fun x9 =>
    if x9 ≤ x5 then
      r_2 l0 (l1 + 1)
    else
      some (0 : Int32)
set_option maxHeartbeats 4000000 in
set_option maxRecDepth 100000 in
theorem X1_isAscending_2_s_W {σ : gS} {l0 : Nat} {l1 : Int32} {res : Int32} {ls : Array Slot} (hC : gC E D A p R s m args meth c cX1_isAscending 2 RX1 "isAscending" 0 0) (hQ : gQI E D A p l e R s m args below meth c Q cX1_isAscending FieldType.boolean (res, σ)) {r_2 : Nat → Int32 → Option Int32} (h_2 : ∀ {l0 : Nat} {l1 : Int32} {H : Heap} {locs : List Loc} {cells slots : Nat} {ls : Array Slot}, r_2 l0 l1 = some res → gW E D A s σ H locs → lv_has ls 2 [(0, .ref l0), (1, .int l1)] → W p l e R s m args below meth c H locs cells slots Q (F0 m 2 ls [])) (hf : X1_isAscending_2_s E σ r_2 l0 l1 = some res) (hw : gW E D A s σ H locs) (hl : lv_has ls 2 [(0, .ref l0), (1, .int l1)]) : W p l e R s m args below meth c H locs cells slots Q (F0 m 2 ls []) := by
  have hC0 := hC
  obtain ⟨hx, hb, hml, hown, hts, -⟩ := hC0
  unfold X1_isAscending_2_s at hf
  refine lv_iload_n hx hb dX1_isAscending_2 rfl (lv_at hl 1 rfl) ?_
  refine lv_aload_n hx hb dX1_isAscending_3 rfl (lv_at hl 0 rfl) ?_
  obtain ⟨x1, h2, hf⟩ := ob_some hf
  refine rI_fl_X1_22 hC hw h2 dX1_isAscending_4 ?_
  refine lv_icmp_ge (tgt := 35) hx hb dX1_isAscending_7 (by decide) (fun c12 => ?_) (fun c12 => ?_)
  · replace hf := (if_pos c12).symm.trans hf
    refine lv_iconst (v := 1) hx hb dX1_isAscending_35 (by decide) ?_
    cases hf
    exact hQ _ _ _ _ _ _ dX1_isAscending_36 gz1 hw
  · replace hf := (if_neg c12).symm.trans hf
    refine lv_aload_n hx hb dX1_isAscending_10 rfl (lv_at hl 0 rfl) ?_
    obtain ⟨x3, h4, hf⟩ := ob_some hf
    refine rR_fl_X1_9 hC hw h4 dX1_isAscending_11 ?_
    refine lv_iload_n hx hb dX1_isAscending_14 rfl (lv_at hl 1 rfl) ?_
    obtain ⟨x5, h6, hf⟩ := ob_some hf
    refine gg_aldI hC hw h6 dX1_isAscending_15 ?_
    refine lv_aload_n hx hb dX1_isAscending_16 rfl (lv_at hl 0 rfl) ?_
    obtain ⟨x7, h8, hf⟩ := ob_some hf
    refine rR_fl_X1_9 hC hw h8 dX1_isAscending_17 ?_
    refine lv_iload_n hx hb dX1_isAscending_20 rfl (lv_at hl 1 rfl) ?_
    refine lv_iconst (v := 1) hx hb dX1_isAscending_21 (by decide) ?_
    refine lv_isub hx hb dX1_isAscending_22 ?_
    obtain ⟨x9, h10, hf⟩ := ob_some hf
    refine gg_aldI hC hw h10 dX1_isAscending_23 ?_
    refine lv_icmp_ge (tgt := 29) hx hb dX1_isAscending_24 (by decide) (fun c11 => ?_) (fun c11 => ?_)
    · replace hf := (if_pos c11).symm.trans hf
      refine lv_iinc (v := (l1 + 1)) (lv' := [(1, .int (l1 + 1)), (0, .ref l0)]) hx hb dX1_isAscending_29 hl (k := 1) rfl rfl (by decide) rfl (fun ls hl => ?_)
      refine lv_goto (tgt := 2) hx hb dX1_isAscending_32 (by decide) ?_
      exact h_2 hf hw (lv_sub hl [1, 0] rfl)
    · replace hf := (if_neg c11).symm.trans hf
      refine lv_iconst (v := 0) hx hb dX1_isAscending_27 (by decide) ?_
      cases hf
      exact hQ _ _ _ _ _ _ dX1_isAscending_28 gz0 hw
def X1_isAscending_2 (E : gE) (σ : gS) : Nat → Nat → Int32 → Option Int32
  | 0 => fun _ _ => none
  | n + 1 => X1_isAscending_2_s E σ (X1_isAscending_2 E σ n)
theorem X1_isAscending_2_W {σ : gS} {res : Int32} (hC : gC E D A p R s m args meth c cX1_isAscending 2 RX1 "isAscending" 0 0) (hQ : gQI E D A p l e R s m args below meth c Q cX1_isAscending FieldType.boolean (res, σ)) : ∀ (n : Nat), ∀ {l0 : Nat} {l1 : Int32} {H : Heap} {locs : List Loc} {cells slots : Nat} {ls : Array Slot}, X1_isAscending_2 E σ n l0 l1 = some res → gW E D A s σ H locs → lv_has ls 2 [(0, .ref l0), (1, .int l1)] → W p l e R s m args below meth c H locs cells slots Q (F0 m 2 ls []) := by
  intro n
  induction n with
  | zero =>
    intros
    rename_i hf _ _
    exact absurd hf (fun h => by cases (show (none : Option Int32) = some res from h))
  | succ n ih =>
    intros
    rename_i hf hw hl
    exact X1_isAscending_2_s_W hC hQ ih hf hw hl

def X1_isAscending (E : gE) (σ : gS) (l0 : Nat) : Option Int32 :=
  X1_isAscending_2 E σ (gN E) l0 (1 : Int32)
set_option maxHeartbeats 4000000 in
set_option maxRecDepth 100000 in
theorem X1_isAscending_W {σ : gS} {l0 : Nat} {res : Int32} {ls : Array Slot} (hC : gC E D A p R s m args meth c cX1_isAscending 2 RX1 "isAscending" 0 0) (hQ : gQI E D A p l e R s m args below meth c Q cX1_isAscending FieldType.boolean (res, σ)) (hf : X1_isAscending E σ l0 = some res) (hw : gW E D A s σ H locs) (hl : lv_has ls 2 [(0, .ref l0)]) : W p l e R s m args below meth c H locs cells slots Q (F0 m 0 ls []) := by
  have hC0 := hC
  obtain ⟨hx, hb, hml, hown, hts, -⟩ := hC0
  unfold X1_isAscending at hf
  refine lv_iconst (v := 1) hx hb dX1_isAscending_0 (by decide) ?_
  refine lv_istore_n (lv' := [(1, .int (1 : Int32)), (0, .ref l0)]) hx hb dX1_isAscending_1 rfl hl (by decide) rfl (fun ls hl => ?_)
  exact X1_isAscending_2_W hC hQ (gN E) hf hw (lv_sub hl [1, 0] rfl)

def X1_isAscending_f (E : gE) (σ : gS) (l0 : Nat) : Option Int32 := X1_isAscending E σ l0
set_option maxRecDepth 100000 in
theorem X1_isAscending_M (l : Launch) (E : gE) (D : va_G) (A : Nat → Prop) {l0 : Nat} {σ : gS} {res : Int32} (hf : X1_isAscending_f E σ l0 = some res) : gCI l E D A yX1_isAscending cX1_isAscending 2 0 0 (some FieldType.boolean) [.ref l0] σ (res, σ) := by
  refine gg_entI (own := RX1) (nm := "isAscending") (ty := FieldType.boolean) (by decide +kernel) rfl rfl (Nat.le_of_ble_eq_true rfl) rfl ?_
  intro p e R s m args below meth c Q ls hC hw hQ hl
  have hl : lv_has ls 2 [(0, .ref l0)] := hl
  exact X1_isAscending_W hC hQ hf hw hl

def X2_init (E : gE) (l0 : Nat) (σ : gS) : Option gS :=
  ob (gpf E σ l0 1 0 (.ref (gst E 30))) fun σ1 =>
  ob (gnaI E σ1 (6 : Int32)) fun q3 =>
  ob (gpf E q3.2 l0 1 5 (.ref q3.1)) fun σ5 =>
  some σ5
set_option maxHeartbeats 4000000 in
set_option maxRecDepth 100000 in
theorem X2_init_W {σ : gS} {l0 : Nat} {σz : gS} {ls : Array Slot} (hC : gC E D A p R s m args meth c cX2_init 1 RX2 "<init>" 3 80) (hQ : gQV E D A p l e R s m args below meth c Q cX2_init σz) (hf : X2_init E l0 σ = some σz) (hw : gW E D A s σ H locs) (hl : lv_has ls 1 [(0, .ref l0)]) : W p l e R s m args below meth c H locs cells slots Q (F0 m 0 ls []) := by
  have hC0 := hC
  obtain ⟨hx, hb, hml, hown, hts, -⟩ := hC0
  unfold X2_init at hf
  refine lv_aload_n hx hb dX2_init_0 rfl (lv_at hl 0 rfl) ?_
  refine gg_obj hC rfl (hts _ ml_X2_3) hl.1 (Nat.le_of_ble_eq_true rfl) dX2_init_1 (Nat.le_of_ble_eq_true rfl) (Nat.le_of_ble_eq_true rfl) ?_
  refine lv_aload_n hx hb dX2_init_4 rfl (lv_at hl 0 rfl) ?_
  refine gg_gets hC hw (k := 1) rfl fl_X2_9 dX2_init_5 ?_
  obtain ⟨σ1, h2, hf⟩ := ob_some hf
  refine p_fl_X2_15 hC hw h2 rfl rfl dX2_init_8 (fun H locs hw => ?_)
  refine lv_aload_n hx hb dX2_init_11 rfl (lv_at hl 0 rfl) ?_
  refine lv_bipush (v := 6) hx hb dX2_init_12 (by decide) ?_
  obtain ⟨q3, h4, hf⟩ := ob_some hf
  refine gg_naI hC hw h4 dX2_init_14 (fun H locs cells slots hw => ?_)
  obtain ⟨σ5, h6, hf⟩ := ob_some hf
  refine pF_fl_X2_20 hC hw h6 rfl rfl dX2_init_16 (fun H locs hw => ?_)
  cases hf
  exact hQ _ _ _ _ _ _ dX2_init_19 hw

def X2_init_f (E : gE) (l0 : Nat) (σ : gS) : Option gS := X2_init E l0 σ
set_option maxRecDepth 100000 in
theorem X2_init_M (l : Launch) (E : gE) (D : va_G) (A : Nat → Prop) {l0 : Nat} {σ : gS} {σz : gS} (hf : X2_init_f E l0 σ = some σz) : gCV l E D A yX2_init cX2_init 1 3 80 none [.ref l0] σ σz := by
  refine gg_entV (own := RX2) (nm := "<init>") (by decide +kernel) rfl rfl (Nat.le_of_ble_eq_true rfl) rfl ?_
  intro p e R s m args below meth c Q ls hC hw hQ hl
  have hl : lv_has ls 1 [(0, .ref l0)] := hl
  exact X2_init_W hC hQ hf hw hl

def X3_init (E : gE) (l0 : Nat) (σ : gS) : Option gS :=
  ob (gnaI E σ (16 : Int32)) fun q1 =>
  ob (gpf E q1.2 l0 2 0 (.ref q1.1)) fun σ3 =>
  some σ3
set_option maxHeartbeats 4000000 in
set_option maxRecDepth 100000 in
theorem X3_init_W {σ : gS} {l0 : Nat} {σz : gS} {ls : Array Slot} (hC : gC E D A p R s m args meth c cX3_init 1 RX3 "<init>" 3 80) (hQ : gQV E D A p l e R s m args below meth c Q cX3_init σz) (hf : X3_init E l0 σ = some σz) (hw : gW E D A s σ H locs) (hl : lv_has ls 1 [(0, .ref l0)]) : W p l e R s m args below meth c H locs cells slots Q (F0 m 0 ls []) := by
  have hC0 := hC
  obtain ⟨hx, hb, hml, hown, hts, -⟩ := hC0
  unfold X3_init at hf
  refine lv_aload_n hx hb dX3_init_0 rfl (lv_at hl 0 rfl) ?_
  refine gg_obj hC rfl (hts _ ml_X3_1) hl.1 (Nat.le_of_ble_eq_true rfl) dX3_init_1 (Nat.le_of_ble_eq_true rfl) (Nat.le_of_ble_eq_true rfl) ?_
  refine lv_aload_n hx hb dX3_init_4 rfl (lv_at hl 0 rfl) ?_
  refine lv_bipush (v := 16) hx hb dX3_init_5 (by decide) ?_
  obtain ⟨q1, h2, hf⟩ := ob_some hf
  refine gg_naI hC hw h2 dX3_init_7 (fun H locs cells slots hw => ?_)
  obtain ⟨σ3, h4, hf⟩ := ob_some hf
  refine p_fl_X3_9 hC hw h4 rfl rfl dX3_init_9 (fun H locs hw => ?_)
  cases hf
  exact hQ _ _ _ _ _ _ dX3_init_12 hw

def X3_init_f (E : gE) (l0 : Nat) (σ : gS) : Option gS := X3_init E l0 σ
set_option maxRecDepth 100000 in
theorem X3_init_M (l : Launch) (E : gE) (D : va_G) (A : Nat → Prop) {l0 : Nat} {σ : gS} {σz : gS} (hf : X3_init_f E l0 σ = some σz) : gCV l E D A yX3_init cX3_init 1 3 80 none [.ref l0] σ σz := by
  refine gg_entV (own := RX3) (nm := "<init>") (by decide +kernel) rfl rfl (Nat.le_of_ble_eq_true rfl) rfl ?_
  intro p e R s m args below meth c Q ls hC hw hQ hl
  have hl : lv_has ls 1 [(0, .ref l0)] := hl
  exact X3_init_W hC hQ hf hw hl

def X3_widthFor_23 (E : gE) (σ : gS) (l1 : Int32) : Option Int32 :=
  some l1
set_option maxHeartbeats 4000000 in
set_option maxRecDepth 100000 in
theorem X3_widthFor_23_W {σ : gS} {l1 : Int32} {res : Int32} {ls : Array Slot} (hC : gC E D A p R s m args meth c cX3_widthFor 2 RX3 "widthFor" 0 0) (hQ : gQI E D A p l e R s m args below meth c Q cX3_widthFor FieldType.int (res, σ)) (hf : X3_widthFor_23 E σ l1 = some res) (hw : gW E D A s σ H locs) (hl : lv_has ls 2 [(1, .int l1)]) : W p l e R s m args below meth c H locs cells slots Q (F0 m 23 ls []) := by
  have hC0 := hC
  obtain ⟨hx, hb, hml, hown, hts, -⟩ := hC0
  unfold X3_widthFor_23 at hf
  refine lv_iload_n hx hb dX3_widthFor_23 rfl (lv_at hl 0 rfl) ?_
  cases hf
  exact hQ _ _ _ _ _ _ dX3_widthFor_24 rfl hw

def X3_widthFor_2_s (E : gE) (σ : gS) (r_2 : Int32 → Int32 → Option Int32) (l0 : Int32) (l1 : Int32) : Option Int32 :=
  if (31 : Int32) ≤ l1 then
    X3_widthFor_23 E σ l1
  else
    if 0 ≤ (lg_cmp (glshl (1 : Int64) l1) l0.toInt64) then
      X3_widthFor_23 E σ l1
    else
      r_2 l0 (l1 + 1)
set_option maxHeartbeats 4000000 in
set_option maxRecDepth 100000 in
theorem X3_widthFor_2_s_W {σ : gS} {l0 : Int32} {l1 : Int32} {res : Int32} {ls : Array Slot} (hC : gC E D A p R s m args meth c cX3_widthFor 2 RX3 "widthFor" 0 0) (hQ : gQI E D A p l e R s m args below meth c Q cX3_widthFor FieldType.int (res, σ)) {r_2 : Int32 → Int32 → Option Int32} (h_2 : ∀ {l0 : Int32} {l1 : Int32} {H : Heap} {locs : List Loc} {cells slots : Nat} {ls : Array Slot}, r_2 l0 l1 = some res → gW E D A s σ H locs → lv_has ls 2 [(0, .int l0), (1, .int l1)] → W p l e R s m args below meth c H locs cells slots Q (F0 m 2 ls [])) (hf : X3_widthFor_2_s E σ r_2 l0 l1 = some res) (hw : gW E D A s σ H locs) (hl : lv_has ls 2 [(0, .int l0), (1, .int l1)]) : W p l e R s m args below meth c H locs cells slots Q (F0 m 2 ls []) := by
  have hC0 := hC
  obtain ⟨hx, hb, hml, hown, hts, -⟩ := hC0
  unfold X3_widthFor_2_s at hf
  refine lv_iload_n hx hb dX3_widthFor_2 rfl (lv_at hl 1 rfl) ?_
  refine lv_bipush (v := 31) hx hb dX3_widthFor_3 (by decide) ?_
  refine lv_icmp_ge (tgt := 23) hx hb dX3_widthFor_5 (by decide) (fun c2 => ?_) (fun c2 => ?_)
  · replace hf := (if_pos c2).symm.trans hf
    exact X3_widthFor_23_W hC hQ hf hw (lv_sub hl [1] rfl)
  · replace hf := (if_neg c2).symm.trans hf
    refine lv_lconst (v := 1) hx hb dX3_widthFor_8 (by decide) ?_
    refine lv_iload_n hx hb dX3_widthFor_9 rfl (lv_at hl 1 rfl) ?_
    refine lv_lshl (v := glshl (1 : Int64) l1) hx hb dX3_widthFor_10 rfl ?_
    refine lv_iload_n hx hb dX3_widthFor_11 rfl (lv_at hl 0 rfl) ?_
    refine lv_i2l (v := l0.toInt64) hx hb dX3_widthFor_12 rfl ?_
    refine W.lcmp hx hb dX3_widthFor_13 ?_
    refine lv_if_ge (tgt := 23) hx hb dX3_widthFor_14 (by decide) (fun c1 => ?_) (fun c1 => ?_)
    · replace hf := (if_pos c1).symm.trans hf
      exact X3_widthFor_23_W hC hQ hf hw (lv_sub hl [1] rfl)
    · replace hf := (if_neg c1).symm.trans hf
      refine lv_iinc (v := (l1 + 1)) (lv' := [(1, .int (l1 + 1)), (0, .int l0)]) hx hb dX3_widthFor_17 hl (k := 1) rfl rfl (by decide) rfl (fun ls hl => ?_)
      refine lv_goto (tgt := 2) hx hb dX3_widthFor_20 (by decide) ?_
      exact h_2 hf hw (lv_sub hl [1, 0] rfl)
def X3_widthFor_2 (E : gE) (σ : gS) : Nat → Int32 → Int32 → Option Int32
  | 0 => fun _ _ => none
  | n + 1 => X3_widthFor_2_s E σ (X3_widthFor_2 E σ n)
theorem X3_widthFor_2_W {σ : gS} {res : Int32} (hC : gC E D A p R s m args meth c cX3_widthFor 2 RX3 "widthFor" 0 0) (hQ : gQI E D A p l e R s m args below meth c Q cX3_widthFor FieldType.int (res, σ)) : ∀ (n : Nat), ∀ {l0 : Int32} {l1 : Int32} {H : Heap} {locs : List Loc} {cells slots : Nat} {ls : Array Slot}, X3_widthFor_2 E σ n l0 l1 = some res → gW E D A s σ H locs → lv_has ls 2 [(0, .int l0), (1, .int l1)] → W p l e R s m args below meth c H locs cells slots Q (F0 m 2 ls []) := by
  intro n
  induction n with
  | zero =>
    intros
    rename_i hf _ _
    exact absurd hf (fun h => by cases (show (none : Option Int32) = some res from h))
  | succ n ih =>
    intros
    rename_i hf hw hl
    exact X3_widthFor_2_s_W hC hQ ih hf hw hl

def X3_widthFor (E : gE) (σ : gS) (l0 : Int32) : Option Int32 :=
  X3_widthFor_2 E σ (gN E) l0 (0 : Int32)
set_option maxHeartbeats 4000000 in
set_option maxRecDepth 100000 in
theorem X3_widthFor_W {σ : gS} {l0 : Int32} {res : Int32} {ls : Array Slot} (hC : gC E D A p R s m args meth c cX3_widthFor 2 RX3 "widthFor" 0 0) (hQ : gQI E D A p l e R s m args below meth c Q cX3_widthFor FieldType.int (res, σ)) (hf : X3_widthFor E σ l0 = some res) (hw : gW E D A s σ H locs) (hl : lv_has ls 2 [(0, .int l0)]) : W p l e R s m args below meth c H locs cells slots Q (F0 m 0 ls []) := by
  have hC0 := hC
  obtain ⟨hx, hb, hml, hown, hts, -⟩ := hC0
  unfold X3_widthFor at hf
  refine lv_iconst (v := 0) hx hb dX3_widthFor_0 (by decide) ?_
  refine lv_istore_n (lv' := [(1, .int (0 : Int32)), (0, .int l0)]) hx hb dX3_widthFor_1 rfl hl (by decide) rfl (fun ls hl => ?_)
  exact X3_widthFor_2_W hC hQ (gN E) hf hw (lv_sub hl [1, 0] rfl)

def X3_widthFor_f (E : gE) (σ : gS) (l0 : Int32) : Option Int32 := X3_widthFor E σ l0
set_option maxRecDepth 100000 in
theorem X3_widthFor_M (l : Launch) (E : gE) (D : va_G) (A : Nat → Prop) {l0 : Int32} {σ : gS} {res : Int32} (hf : X3_widthFor_f E σ l0 = some res) : gCI l E D A yX3_widthFor cX3_widthFor 2 0 0 (some FieldType.int) [.int l0] σ (res, σ) := by
  refine gg_entI (own := RX3) (nm := "widthFor") (ty := FieldType.int) (by decide +kernel) rfl rfl (Nat.le_of_ble_eq_true rfl) rfl ?_
  intro p e R s m args below meth c Q ls hC hw hQ hl
  have hl : lv_has ls 2 [(0, .int l0)] := hl
  exact X3_widthFor_W hC hQ hf hw hl

def X3_size (E : gE) (σ : gS) (l0 : Nat) : Option Int32 :=
  ob (gfI σ l0 2 1) fun x1 =>
  some x1
set_option maxHeartbeats 4000000 in
set_option maxRecDepth 100000 in
theorem X3_size_W {σ : gS} {l0 : Nat} {res : Int32} {ls : Array Slot} (hC : gC E D A p R s m args meth c cX3_size 1 RX3 "size" 0 0) (hQ : gQI E D A p l e R s m args below meth c Q cX3_size FieldType.int (res, σ)) (hf : X3_size E σ l0 = some res) (hw : gW E D A s σ H locs) (hl : lv_has ls 1 [(0, .ref l0)]) : W p l e R s m args below meth c H locs cells slots Q (F0 m 0 ls []) := by
  have hC0 := hC
  obtain ⟨hx, hb, hml, hown, hts, -⟩ := hC0
  unfold X3_size at hf
  refine lv_aload_n hx hb dX3_size_0 rfl (lv_at hl 0 rfl) ?_
  obtain ⟨x1, h2, hf⟩ := ob_some hf
  refine rI_fl_X3_13 hC hw h2 dX3_size_1 ?_
  cases hf
  exact hQ _ _ _ _ _ _ dX3_size_4 rfl hw

def X3_size_f (E : gE) (σ : gS) (l0 : Nat) : Option Int32 := X3_size E σ l0
set_option maxRecDepth 100000 in
theorem X3_size_M (l : Launch) (E : gE) (D : va_G) (A : Nat → Prop) {l0 : Nat} {σ : gS} {res : Int32} (hf : X3_size_f E σ l0 = some res) : gCI l E D A yX3_size cX3_size 1 0 0 (some FieldType.int) [.ref l0] σ (res, σ) := by
  refine gg_entI (own := RX3) (nm := "size") (ty := FieldType.int) (by decide +kernel) rfl rfl (Nat.le_of_ble_eq_true rfl) rfl ?_
  intro p e R s m args below meth c Q ls hC hw hQ hl
  have hl : lv_has ls 1 [(0, .ref l0)] := hl
  exact X3_size_W hC hQ hf hw hl

def X3_width (E : gE) (σ : gS) (l0 : Nat) : Option Int32 :=
  ob (gfI σ l0 2 1) fun x1 =>
  ob (X3_widthFor_f E σ x1) fun x3 =>
  some x3
set_option maxHeartbeats 4000000 in
set_option maxRecDepth 100000 in
theorem X3_width_W {σ : gS} {l0 : Nat} {res : Int32} {ls : Array Slot} (hC : gC E D A p R s m args meth c cX3_width 1 RX3 "width" 1 21) (hQ : gQI E D A p l e R s m args below meth c Q cX3_width FieldType.int (res, σ)) (hf : X3_width E σ l0 = some res) (hw : gW E D A s σ H locs) (hl : lv_has ls 1 [(0, .ref l0)]) : W p l e R s m args below meth c H locs cells slots Q (F0 m 0 ls []) := by
  have hC0 := hC
  obtain ⟨hx, hb, hml, hown, hts, -⟩ := hC0
  unfold X3_width at hf
  refine lv_aload_n hx hb dX3_width_0 rfl (lv_at hl 0 rfl) ?_
  obtain ⟨x1, h2, hf⟩ := ob_some hf
  refine rI_fl_X3_13 hC hw h2 dX3_width_1 ?_
  obtain ⟨x3, h4, hf⟩ := ob_some hf
  refine gg_cSI (As := [.int x1]) hC hw (X3_widthFor_M l E D A h4) g_ml_X3_17 hd_X3_widthFor.2 (Nat.le_of_ble_eq_true rfl) (Nat.le_of_ble_eq_true rfl) hl.1 rfl (Nat.le_of_ble_eq_true rfl) dX3_width_4 (fun H locs cells slots hw => ?_)
  cases hf
  exact hQ _ _ _ _ _ _ dX3_width_7 rfl hw

def X3_width_f (E : gE) (σ : gS) (l0 : Nat) : Option Int32 := X3_width E σ l0
set_option maxRecDepth 100000 in
theorem X3_width_M (l : Launch) (E : gE) (D : va_G) (A : Nat → Prop) {l0 : Nat} {σ : gS} {res : Int32} (hf : X3_width_f E σ l0 = some res) : gCI l E D A yX3_width cX3_width 1 1 21 (some FieldType.int) [.ref l0] σ (res, σ) := by
  refine gg_entI (own := RX3) (nm := "width") (ty := FieldType.int) (by decide +kernel) rfl rfl (Nat.le_of_ble_eq_true rfl) rfl ?_
  intro p e R s m args below meth c Q ls hC hw hQ hl
  have hl : lv_has ls 1 [(0, .ref l0)] := hl
  exact X3_width_W hC hQ hf hw hl

def X3_entry (E : gE) (σ : gS) (l0 : Nat) (l1 : Int32) : Option Int32 :=
  ob (gfR σ l0 2 0) fun x1 =>
  ob (graI E 0 σ x1 l1) fun x3 =>
  some x3
set_option maxHeartbeats 4000000 in
set_option maxRecDepth 100000 in
theorem X3_entry_W {σ : gS} {l0 : Nat} {l1 : Int32} {res : Int32} {ls : Array Slot} (hC : gC E D A p R s m args meth c cX3_entry 2 RX3 "entry" 0 0) (hQ : gQI E D A p l e R s m args below meth c Q cX3_entry FieldType.int (res, σ)) (hf : X3_entry E σ l0 l1 = some res) (hw : gW E D A s σ H locs) (hl : lv_has ls 2 [(0, .ref l0), (1, .int l1)]) : W p l e R s m args below meth c H locs cells slots Q (F0 m 0 ls []) := by
  have hC0 := hC
  obtain ⟨hx, hb, hml, hown, hts, -⟩ := hC0
  unfold X3_entry at hf
  refine lv_aload_n hx hb dX3_entry_0 rfl (lv_at hl 0 rfl) ?_
  obtain ⟨x1, h2, hf⟩ := ob_some hf
  refine rR_fl_X3_9 hC hw h2 dX3_entry_1 ?_
  refine lv_iload_n hx hb dX3_entry_4 rfl (lv_at hl 1 rfl) ?_
  obtain ⟨x3, h4, hf⟩ := ob_some hf
  refine gg_aldI hC hw h4 dX3_entry_5 ?_
  cases hf
  exact hQ _ _ _ _ _ _ dX3_entry_6 rfl hw

def X3_entry_f (E : gE) (σ : gS) (l0 : Nat) (l1 : Int32) : Option Int32 := X3_entry E σ l0 l1
set_option maxRecDepth 100000 in
theorem X3_entry_M (l : Launch) (E : gE) (D : va_G) (A : Nat → Prop) {l0 : Nat} {l1 : Int32} {σ : gS} {res : Int32} (hf : X3_entry_f E σ l0 l1 = some res) : gCI l E D A yX3_entry cX3_entry 2 0 0 (some FieldType.int) [.ref l0, .int l1] σ (res, σ) := by
  refine gg_entI (own := RX3) (nm := "entry") (ty := FieldType.int) (by decide +kernel) rfl rfl (Nat.le_of_ble_eq_true rfl) rfl ?_
  intro p e R s m args below meth c Q ls hC hw hQ hl
  have hl : lv_has ls 2 [(0, .ref l0), (1, .int l1)] := hl
  exact X3_entry_W hC hQ hf hw hl

def X3_countBelow_7_s (E : gE) (σ : gS) (r_7 : Nat → Int32 → Int32 → Int32 → Option Int32) (l0 : Nat) (l1 : Int32) (l2 : Int32) (l3 : Int32) : Option Int32 :=
  if l3 ≤ l2 then
    some l2
  else
    ob (gfR σ l0 2 0) fun x1 =>
    ob (graI E 0 σ x1 ((l2 + l3) / (2 : Int32))) fun x3 =>
    if l1 ≤ x3 then
      r_7 l0 l1 l2 ((l2 + l3) / (2 : Int32))
    else
      r_7 l0 l1 (((l2 + l3) / (2 : Int32)) + (1 : Int32)) l3
set_option maxHeartbeats 4000000 in
set_option maxRecDepth 100000 in
theorem X3_countBelow_7_s_W {σ : gS} {l0 : Nat} {l1 : Int32} {l2 : Int32} {l3 : Int32} {res : Int32} {ls : Array Slot} (hC : gC E D A p R s m args meth c cX3_countBelow 5 RX3 "countBelow" 0 0) (hQ : gQI E D A p l e R s m args below meth c Q cX3_countBelow FieldType.int (res, σ)) {r_7 : Nat → Int32 → Int32 → Int32 → Option Int32} (h_7 : ∀ {l0 : Nat} {l1 : Int32} {l2 : Int32} {l3 : Int32} {H : Heap} {locs : List Loc} {cells slots : Nat} {ls : Array Slot}, r_7 l0 l1 l2 l3 = some res → gW E D A s σ H locs → lv_has ls 5 [(0, .ref l0), (1, .int l1), (2, .int l2), (3, .int l3)] → W p l e R s m args below meth c H locs cells slots Q (F0 m 7 ls [])) (hf : X3_countBelow_7_s E σ r_7 l0 l1 l2 l3 = some res) (hw : gW E D A s σ H locs) (hl : lv_has ls 5 [(0, .ref l0), (1, .int l1), (2, .int l2), (3, .int l3)]) : W p l e R s m args below meth c H locs cells slots Q (F0 m 7 ls []) := by
  have hC0 := hC
  obtain ⟨hx, hb, hml, hown, hts, -⟩ := hC0
  unfold X3_countBelow_7_s at hf
  refine lv_iload_n hx hb dX3_countBelow_7 rfl (lv_at hl 2 rfl) ?_
  refine lv_iload_n hx hb dX3_countBelow_8 rfl (lv_at hl 3 rfl) ?_
  refine lv_icmp_ge (tgt := 44) hx hb dX3_countBelow_9 (by decide) (fun c6 => ?_) (fun c6 => ?_)
  · replace hf := (if_pos c6).symm.trans hf
    refine lv_iload_n hx hb dX3_countBelow_44 rfl (lv_at hl 2 rfl) ?_
    cases hf
    exact hQ _ _ _ _ _ _ dX3_countBelow_45 rfl hw
  · replace hf := (if_neg c6).symm.trans hf
    refine lv_iload_n hx hb dX3_countBelow_12 rfl (lv_at hl 2 rfl) ?_
    refine lv_iload_n hx hb dX3_countBelow_13 rfl (lv_at hl 3 rfl) ?_
    refine lv_iadd hx hb dX3_countBelow_14 ?_
    refine lv_iconst (v := 2) hx hb dX3_countBelow_15 (by decide) ?_
    refine lv_idiv hx hb dX3_countBelow_16 (by decide) ?_
    refine lv_istore (lv' := [(4, .int ((l2 + l3) / (2 : Int32))), (0, .ref l0), (1, .int l1), (2, .int l2), (3, .int l3)]) hx hb dX3_countBelow_17 hl (by decide) rfl (fun ls hl => ?_)
    refine lv_aload_n hx hb dX3_countBelow_19 rfl (lv_at hl 1 rfl) ?_
    obtain ⟨x1, h2, hf⟩ := ob_some hf
    refine rR_fl_X3_9 hC hw h2 dX3_countBelow_20 ?_
    refine lv_iload hx hb dX3_countBelow_23 (lv_at hl 0 rfl) ?_
    obtain ⟨x3, h4, hf⟩ := ob_some hf
    refine gg_aldI hC hw h4 dX3_countBelow_25 ?_
    refine lv_iload_n hx hb dX3_countBelow_26 rfl (lv_at hl 2 rfl) ?_
    refine lv_icmp_ge (tgt := 38) hx hb dX3_countBelow_27 (by decide) (fun c5 => ?_) (fun c5 => ?_)
    · replace hf := (if_pos c5).symm.trans hf
      refine lv_iload hx hb dX3_countBelow_38 (lv_at hl 0 rfl) ?_
      refine lv_istore_n (lv' := [(3, .int ((l2 + l3) / (2 : Int32))), (4, .int ((l2 + l3) / (2 : Int32))), (0, .ref l0), (1, .int l1), (2, .int l2)]) hx hb dX3_countBelow_40 rfl hl (by decide) rfl (fun ls hl => ?_)
      refine lv_goto (tgt := 7) hx hb dX3_countBelow_41 (by decide) ?_
      exact h_7 hf hw (lv_sub hl [2, 3, 4, 0] rfl)
    · replace hf := (if_neg c5).symm.trans hf
      refine lv_iload hx hb dX3_countBelow_30 (lv_at hl 0 rfl) ?_
      refine lv_iconst (v := 1) hx hb dX3_countBelow_32 (by decide) ?_
      refine lv_iadd hx hb dX3_countBelow_33 ?_
      refine lv_istore_n (lv' := [(2, .int (((l2 + l3) / (2 : Int32)) + (1 : Int32))), (4, .int ((l2 + l3) / (2 : Int32))), (0, .ref l0), (1, .int l1), (3, .int l3)]) hx hb dX3_countBelow_34 rfl hl (by decide) rfl (fun ls hl => ?_)
      refine lv_goto (tgt := 41) hx hb dX3_countBelow_35 (by decide) ?_
      refine lv_goto (tgt := 7) hx hb dX3_countBelow_41 (by decide) ?_
      exact h_7 hf hw (lv_sub hl [2, 3, 0, 4] rfl)
def X3_countBelow_7 (E : gE) (σ : gS) : Nat → Nat → Int32 → Int32 → Int32 → Option Int32
  | 0 => fun _ _ _ _ => none
  | n + 1 => X3_countBelow_7_s E σ (X3_countBelow_7 E σ n)
theorem X3_countBelow_7_W {σ : gS} {res : Int32} (hC : gC E D A p R s m args meth c cX3_countBelow 5 RX3 "countBelow" 0 0) (hQ : gQI E D A p l e R s m args below meth c Q cX3_countBelow FieldType.int (res, σ)) : ∀ (n : Nat), ∀ {l0 : Nat} {l1 : Int32} {l2 : Int32} {l3 : Int32} {H : Heap} {locs : List Loc} {cells slots : Nat} {ls : Array Slot}, X3_countBelow_7 E σ n l0 l1 l2 l3 = some res → gW E D A s σ H locs → lv_has ls 5 [(0, .ref l0), (1, .int l1), (2, .int l2), (3, .int l3)] → W p l e R s m args below meth c H locs cells slots Q (F0 m 7 ls []) := by
  intro n
  induction n with
  | zero =>
    intros
    rename_i hf _ _
    exact absurd hf (fun h => by cases (show (none : Option Int32) = some res from h))
  | succ n ih =>
    intros
    rename_i hf hw hl
    exact X3_countBelow_7_s_W hC hQ ih hf hw hl

def X3_countBelow (E : gE) (σ : gS) (l0 : Nat) (l1 : Int32) : Option Int32 :=
  ob (gfI σ l0 2 1) fun x7 =>
  X3_countBelow_7 E σ (gN E) l0 l1 (0 : Int32) x7
set_option maxHeartbeats 4000000 in
set_option maxRecDepth 100000 in
theorem X3_countBelow_W {σ : gS} {l0 : Nat} {l1 : Int32} {res : Int32} {ls : Array Slot} (hC : gC E D A p R s m args meth c cX3_countBelow 5 RX3 "countBelow" 0 0) (hQ : gQI E D A p l e R s m args below meth c Q cX3_countBelow FieldType.int (res, σ)) (hf : X3_countBelow E σ l0 l1 = some res) (hw : gW E D A s σ H locs) (hl : lv_has ls 5 [(0, .ref l0), (1, .int l1)]) : W p l e R s m args below meth c H locs cells slots Q (F0 m 0 ls []) := by
  have hC0 := hC
  obtain ⟨hx, hb, hml, hown, hts, -⟩ := hC0
  unfold X3_countBelow at hf
  refine lv_iconst (v := 0) hx hb dX3_countBelow_0 (by decide) ?_
  refine lv_istore_n (lv' := [(2, .int (0 : Int32)), (0, .ref l0), (1, .int l1)]) hx hb dX3_countBelow_1 rfl hl (by decide) rfl (fun ls hl => ?_)
  refine lv_aload_n hx hb dX3_countBelow_2 rfl (lv_at hl 1 rfl) ?_
  obtain ⟨x7, h8, hf⟩ := ob_some hf
  refine rI_fl_X3_13 hC hw h8 dX3_countBelow_3 ?_
  refine lv_istore_n (lv' := [(3, .int x7), (2, .int (0 : Int32)), (0, .ref l0), (1, .int l1)]) hx hb dX3_countBelow_6 rfl hl (by decide) rfl (fun ls hl => ?_)
  exact X3_countBelow_7_W hC hQ (gN E) hf hw (lv_sub hl [2, 3, 1, 0] rfl)

def X3_countBelow_f (E : gE) (σ : gS) (l0 : Nat) (l1 : Int32) : Option Int32 := X3_countBelow E σ l0 l1
set_option maxRecDepth 100000 in
theorem X3_countBelow_M (l : Launch) (E : gE) (D : va_G) (A : Nat → Prop) {l0 : Nat} {l1 : Int32} {σ : gS} {res : Int32} (hf : X3_countBelow_f E σ l0 l1 = some res) : gCI l E D A yX3_countBelow cX3_countBelow 5 0 0 (some FieldType.int) [.ref l0, .int l1] σ (res, σ) := by
  refine gg_entI (own := RX3) (nm := "countBelow") (ty := FieldType.int) (by decide +kernel) rfl rfl (Nat.le_of_ble_eq_true rfl) rfl ?_
  intro p e R s m args below meth c Q ls hC hw hQ hl
  have hl : lv_has ls 5 [(0, .ref l0), (1, .int l1)] := hl
  exact X3_countBelow_W hC hQ hf hw hl

def X3_find_28 (E : gE) (σ : gS) : Option Int32 :=
  some (-1 : Int32)
set_option maxHeartbeats 4000000 in
set_option maxRecDepth 100000 in
theorem X3_find_28_W {σ : gS} {res : Int32} {ls : Array Slot} (hC : gC E D A p R s m args meth c cX3_find 3 RX3 "find" 1 24) (hQ : gQI E D A p l e R s m args below meth c Q cX3_find FieldType.int (res, σ)) (hf : X3_find_28 E σ = some res) (hw : gW E D A s σ H locs) (hl : lv_has ls 3 []) : W p l e R s m args below meth c H locs cells slots Q (F0 m 28 ls []) := by
  have hC0 := hC
  obtain ⟨hx, hb, hml, hown, hts, -⟩ := hC0
  unfold X3_find_28 at hf
  refine lv_iconst (v := -1) hx hb dX3_find_28 (by decide) ?_
  cases hf
  exact hQ _ _ _ _ _ _ dX3_find_29 rfl hw

def X3_find (E : gE) (σ : gS) (l0 : Nat) (l1 : Int32) : Option Int32 :=
  ob (gcl σ l0 2) fun _ =>
  ob (X3_countBelow_f E σ l0 l1) fun x1 =>
  ob (gfI σ l0 2 1) fun x4 =>
  if x4 ≤ x1 then
    X3_find_28 E σ
  else
    ob (gfR σ l0 2 0) fun x6 =>
    ob (graI E 0 σ x6 x1) fun x8 =>
    if x8 = l1 then
      some x1
    else
      X3_find_28 E σ
set_option maxHeartbeats 4000000 in
set_option maxRecDepth 100000 in
theorem X3_find_W {σ : gS} {l0 : Nat} {l1 : Int32} {res : Int32} {ls : Array Slot} (hC : gC E D A p R s m args meth c cX3_find 3 RX3 "find" 1 24) (hQ : gQI E D A p l e R s m args below meth c Q cX3_find FieldType.int (res, σ)) (hf : X3_find E σ l0 l1 = some res) (hw : gW E D A s σ H locs) (hl : lv_has ls 3 [(0, .ref l0), (1, .int l1)]) : W p l e R s m args below meth c H locs cells slots Q (F0 m 0 ls []) := by
  have hC0 := hC
  obtain ⟨hx, hb, hml, hown, hts, -⟩ := hC0
  unfold X3_find at hf
  refine lv_aload_n hx hb dX3_find_0 rfl (lv_at hl 0 rfl) ?_
  refine lv_iload_n hx hb dX3_find_1 rfl (lv_at hl 1 rfl) ?_
  obtain ⟨_, h3, hf⟩ := ob_some hf
  obtain ⟨x1, h2, hf⟩ := ob_some hf
  refine gg_cVI (As := [.int l1]) hC hw (X3_countBelow_M l E D A h2) h3 rfl g_ml_X3_24 hd_X3_countBelow (Nat.le_of_ble_eq_true rfl) (Nat.le_of_ble_eq_true rfl) hl.1 rfl (Nat.le_of_ble_eq_true rfl) dX3_find_2 (fun H locs cells slots hw => ?_)
  refine lv_istore_n (lv' := [(2, .int x1), (0, .ref l0), (1, .int l1)]) hx hb dX3_find_5 rfl hl (by decide) rfl (fun ls hl => ?_)
  refine lv_iload_n hx hb dX3_find_6 rfl (lv_at hl 0 rfl) ?_
  refine lv_aload_n hx hb dX3_find_7 rfl (lv_at hl 1 rfl) ?_
  obtain ⟨x4, h5, hf⟩ := ob_some hf
  refine rI_fl_X3_13 hC hw h5 dX3_find_8 ?_
  refine lv_icmp_ge (tgt := 28) hx hb dX3_find_11 (by decide) (fun c11 => ?_) (fun c11 => ?_)
  · replace hf := (if_pos c11).symm.trans hf
    exact X3_find_28_W hC hQ hf hw (lv_sub hl [] rfl)
  · replace hf := (if_neg c11).symm.trans hf
    refine lv_aload_n hx hb dX3_find_14 rfl (lv_at hl 1 rfl) ?_
    obtain ⟨x6, h7, hf⟩ := ob_some hf
    refine rR_fl_X3_9 hC hw h7 dX3_find_15 ?_
    refine lv_iload_n hx hb dX3_find_18 rfl (lv_at hl 0 rfl) ?_
    obtain ⟨x8, h9, hf⟩ := ob_some hf
    refine gg_aldI hC hw h9 dX3_find_19 ?_
    refine lv_iload_n hx hb dX3_find_20 rfl (lv_at hl 2 rfl) ?_
    refine lv_icmp_ne (tgt := 28) hx hb dX3_find_21 (by decide) (fun c10 => ?_) (fun c10 => ?_)
    · replace hf := (if_neg c10).symm.trans hf
      exact X3_find_28_W hC hQ hf hw (lv_sub hl [] rfl)
    · replace hf := (if_pos c10).symm.trans hf
      refine lv_iload_n hx hb dX3_find_24 rfl (lv_at hl 0 rfl) ?_
      refine lv_goto (tgt := 29) hx hb dX3_find_25 (by decide) ?_
      cases hf
      exact hQ _ _ _ _ _ _ dX3_find_29 rfl hw

def X3_find_f (E : gE) (σ : gS) (l0 : Nat) (l1 : Int32) : Option Int32 := X3_find E σ l0 l1
set_option maxRecDepth 100000 in
theorem X3_find_M (l : Launch) (E : gE) (D : va_G) (A : Nat → Prop) {l0 : Nat} {l1 : Int32} {σ : gS} {res : Int32} (hf : X3_find_f E σ l0 l1 = some res) : gCI l E D A yX3_find cX3_find 3 1 24 (some FieldType.int) [.ref l0, .int l1] σ (res, σ) := by
  refine gg_entI (own := RX3) (nm := "find") (ty := FieldType.int) (by decide +kernel) rfl rfl (Nat.le_of_ble_eq_true rfl) rfl ?_
  intro p e R s m args below meth c Q ls hC hw hQ hl
  have hl : lv_has ls 3 [(0, .ref l0), (1, .int l1)] := hl
  exact X3_find_W hC hQ hf hw hl

def X3_clear (E : gE) (l0 : Nat) (σ : gS) : Option gS :=
  ob (gpf E σ l0 2 1 (.int (0 : Int32))) fun σ1 =>
  some σ1
set_option maxHeartbeats 4000000 in
set_option maxRecDepth 100000 in
theorem X3_clear_W {σ : gS} {l0 : Nat} {σz : gS} {ls : Array Slot} (hC : gC E D A p R s m args meth c cX3_clear 1 RX3 "clear" 0 0) (hQ : gQV E D A p l e R s m args below meth c Q cX3_clear σz) (hf : X3_clear E l0 σ = some σz) (hw : gW E D A s σ H locs) (hl : lv_has ls 1 [(0, .ref l0)]) : W p l e R s m args below meth c H locs cells slots Q (F0 m 0 ls []) := by
  have hC0 := hC
  obtain ⟨hx, hb, hml, hown, hts, -⟩ := hC0
  unfold X3_clear at hf
  refine lv_aload_n hx hb dX3_clear_0 rfl (lv_at hl 0 rfl) ?_
  refine lv_iconst (v := 0) hx hb dX3_clear_1 (by decide) ?_
  obtain ⟨σ1, h2, hf⟩ := ob_some hf
  refine p_fl_X3_13 hC hw h2 rfl rfl dX3_clear_2 (fun H locs hw => ?_)
  cases hf
  exact hQ _ _ _ _ _ _ dX3_clear_5 hw

def X3_clear_f (E : gE) (l0 : Nat) (σ : gS) : Option gS := X3_clear E l0 σ
set_option maxRecDepth 100000 in
theorem X3_clear_M (l : Launch) (E : gE) (D : va_G) (A : Nat → Prop) {l0 : Nat} {σ : gS} {σz : gS} (hf : X3_clear_f E l0 σ = some σz) : gCV l E D A yX3_clear cX3_clear 1 0 0 none [.ref l0] σ σz := by
  refine gg_entV (own := RX3) (nm := "clear") (by decide +kernel) rfl rfl (Nat.le_of_ble_eq_true rfl) rfl ?_
  intro p e R s m args below meth c Q ls hC hw hQ hl
  have hl : lv_has ls 1 [(0, .ref l0)] := hl
  exact X3_clear_W hC hQ hf hw hl

def X3_copyFrom_23 (E : gE) (l0 : Nat) (l1 : Nat) (σ : gS) : Option gS :=
  ob (gfR σ l1 2 0) fun x1 =>
  ob (gfR σ l0 2 0) fun x3 =>
  ob (gfI σ l1 2 1) fun x5 =>
  ob (gcopy E σ x1 (0 : Int32) x3 (0 : Int32) x5) fun x7 =>
  ob (gfI x7 l1 2 1) fun x9 =>
  ob (gpf E x7 l0 2 1 (.int x9)) fun σ11 =>
  some σ11
set_option maxHeartbeats 4000000 in
set_option maxRecDepth 100000 in
theorem X3_copyFrom_23_W {σ : gS} {l0 : Nat} {l1 : Nat} {σz : gS} {ls : Array Slot} (hC : gC E D A p R s m args meth c cX3_copyFrom 2 RX3 "copyFrom" 3 80) (hQ : gQV E D A p l e R s m args below meth c Q cX3_copyFrom σz) (hf : X3_copyFrom_23 E l0 l1 σ = some σz) (hw : gW E D A s σ H locs) (hl : lv_has ls 2 [(0, .ref l0), (1, .ref l1)]) : W p l e R s m args below meth c H locs cells slots Q (F0 m 23 ls []) := by
  have hC0 := hC
  obtain ⟨hx, hb, hml, hown, hts, -⟩ := hC0
  unfold X3_copyFrom_23 at hf
  refine lv_aload_n hx hb dX3_copyFrom_23 rfl (lv_at hl 1 rfl) ?_
  obtain ⟨x1, h2, hf⟩ := ob_some hf
  refine rR_fl_X3_9 hC hw h2 dX3_copyFrom_24 ?_
  refine lv_iconst (v := 0) hx hb dX3_copyFrom_27 (by decide) ?_
  refine lv_aload_n hx hb dX3_copyFrom_28 rfl (lv_at hl 0 rfl) ?_
  obtain ⟨x3, h4, hf⟩ := ob_some hf
  refine rR_fl_X3_9 hC hw h4 dX3_copyFrom_29 ?_
  refine lv_iconst (v := 0) hx hb dX3_copyFrom_32 (by decide) ?_
  refine lv_aload_n hx hb dX3_copyFrom_33 rfl (lv_at hl 1 rfl) ?_
  obtain ⟨x5, h6, hf⟩ := ob_some hf
  refine rI_fl_X3_13 hC hw h6 dX3_copyFrom_34 ?_
  obtain ⟨x7, h8, hf⟩ := ob_some hf
  refine gg_copy hC hw h8 ml_X3_33 hl.1 rfl (Nat.le_of_ble_eq_true rfl) (Nat.le_of_ble_eq_true rfl) (Nat.le_of_ble_eq_true rfl) dX3_copyFrom_37 (fun H locs hw => ?_)
  refine lv_aload_n hx hb dX3_copyFrom_40 rfl (lv_at hl 0 rfl) ?_
  refine lv_aload_n hx hb dX3_copyFrom_41 rfl (lv_at hl 1 rfl) ?_
  obtain ⟨x9, h10, hf⟩ := ob_some hf
  refine rI_fl_X3_13 hC hw h10 dX3_copyFrom_42 ?_
  obtain ⟨σ11, h12, hf⟩ := ob_some hf
  refine p_fl_X3_13 hC hw h12 rfl rfl dX3_copyFrom_45 (fun H locs hw => ?_)
  cases hf
  exact hQ _ _ _ _ _ _ dX3_copyFrom_48 hw

def X3_copyFrom (E : gE) (l0 : Nat) (l1 : Nat) (σ : gS) : Option gS :=
  ob (gfR σ l0 2 0) fun x13 =>
  ob (gal E 0 σ x13) fun x15 =>
  ob (gfI σ l1 2 1) fun x17 =>
  if x17 ≤ x15 then
    X3_copyFrom_23 E l0 l1 σ
  else
    ob (gfR σ l1 2 0) fun x19 =>
    ob (gal E 0 σ x19) fun x21 =>
    ob (gnaI E σ x21) fun q23 =>
    ob (gpf E q23.2 l0 2 0 (.ref q23.1)) fun σ25 =>
    X3_copyFrom_23 E l0 l1 σ25
set_option maxHeartbeats 4000000 in
set_option maxRecDepth 100000 in
theorem X3_copyFrom_W {σ : gS} {l0 : Nat} {l1 : Nat} {σz : gS} {ls : Array Slot} (hC : gC E D A p R s m args meth c cX3_copyFrom 2 RX3 "copyFrom" 3 80) (hQ : gQV E D A p l e R s m args below meth c Q cX3_copyFrom σz) (hf : X3_copyFrom E l0 l1 σ = some σz) (hw : gW E D A s σ H locs) (hl : lv_has ls 2 [(0, .ref l0), (1, .ref l1)]) : W p l e R s m args below meth c H locs cells slots Q (F0 m 0 ls []) := by
  have hC0 := hC
  obtain ⟨hx, hb, hml, hown, hts, -⟩ := hC0
  unfold X3_copyFrom at hf
  refine lv_aload_n hx hb dX3_copyFrom_0 rfl (lv_at hl 0 rfl) ?_
  obtain ⟨x13, h14, hf⟩ := ob_some hf
  refine rR_fl_X3_9 hC hw h14 dX3_copyFrom_1 ?_
  obtain ⟨x15, h16, hf⟩ := ob_some hf
  refine gg_alen hC hw h16 (Or.inr rfl) dX3_copyFrom_4 ?_
  refine lv_aload_n hx hb dX3_copyFrom_5 rfl (lv_at hl 1 rfl) ?_
  obtain ⟨x17, h18, hf⟩ := ob_some hf
  refine rI_fl_X3_13 hC hw h18 dX3_copyFrom_6 ?_
  refine lv_icmp_ge (tgt := 23) hx hb dX3_copyFrom_9 (by decide) (fun c27 => ?_) (fun c27 => ?_)
  · replace hf := (if_pos c27).symm.trans hf
    exact X3_copyFrom_23_W hC hQ hf hw (lv_sub hl [0, 1] rfl)
  · replace hf := (if_neg c27).symm.trans hf
    refine lv_aload_n hx hb dX3_copyFrom_12 rfl (lv_at hl 0 rfl) ?_
    refine lv_aload_n hx hb dX3_copyFrom_13 rfl (lv_at hl 1 rfl) ?_
    obtain ⟨x19, h20, hf⟩ := ob_some hf
    refine rR_fl_X3_9 hC hw h20 dX3_copyFrom_14 ?_
    obtain ⟨x21, h22, hf⟩ := ob_some hf
    refine gg_alen hC hw h22 (Or.inr rfl) dX3_copyFrom_17 ?_
    obtain ⟨q23, h24, hf⟩ := ob_some hf
    refine gg_naI hC hw h24 dX3_copyFrom_18 (fun H locs cells slots hw => ?_)
    obtain ⟨σ25, h26, hf⟩ := ob_some hf
    refine p_fl_X3_9 hC hw h26 rfl rfl dX3_copyFrom_20 (fun H locs hw => ?_)
    exact X3_copyFrom_23_W hC hQ hf hw (lv_sub hl [0, 1] rfl)

def X3_copyFrom_f (E : gE) (l0 : Nat) (l1 : Nat) (σ : gS) : Option gS := X3_copyFrom E l0 l1 σ
set_option maxRecDepth 100000 in
theorem X3_copyFrom_M (l : Launch) (E : gE) (D : va_G) (A : Nat → Prop) {l0 : Nat} {l1 : Nat} {σ : gS} {σz : gS} (hf : X3_copyFrom_f E l0 l1 σ = some σz) : gCV l E D A yX3_copyFrom cX3_copyFrom 2 3 80 none [.ref l0, .ref l1] σ σz := by
  refine gg_entV (own := RX3) (nm := "copyFrom") (by decide +kernel) rfl rfl (Nat.le_of_ble_eq_true rfl) rfl ?_
  intro p e R s m args below meth c Q ls hC hw hQ hl
  have hl : lv_has ls 2 [(0, .ref l0), (1, .ref l1)] := hl
  exact X3_copyFrom_W hC hQ hf hw hl

def X4_init (E : gE) (l0 : Nat) (σ : gS) : Option gS :=
  ob (gnaI E σ (8 : Int32)) fun q1 =>
  ob (gpf E q1.2 l0 3 0 (.ref q1.1)) fun σ3 =>
  ob (gnaI E σ3 (8 : Int32)) fun q5 =>
  ob (gpf E q5.2 l0 3 1 (.ref q5.1)) fun σ7 =>
  ob (gnaI E σ7 (8 : Int32)) fun q9 =>
  ob (gpf E q9.2 l0 3 2 (.ref q9.1)) fun σ11 =>
  some σ11
set_option maxHeartbeats 4000000 in
set_option maxRecDepth 100000 in
theorem X4_init_W {σ : gS} {l0 : Nat} {σz : gS} {ls : Array Slot} (hC : gC E D A p R s m args meth c cX4_init 1 RX4 "<init>" 3 80) (hQ : gQV E D A p l e R s m args below meth c Q cX4_init σz) (hf : X4_init E l0 σ = some σz) (hw : gW E D A s σ H locs) (hl : lv_has ls 1 [(0, .ref l0)]) : W p l e R s m args below meth c H locs cells slots Q (F0 m 0 ls []) := by
  have hC0 := hC
  obtain ⟨hx, hb, hml, hown, hts, -⟩ := hC0
  unfold X4_init at hf
  refine lv_aload_n hx hb dX4_init_0 rfl (lv_at hl 0 rfl) ?_
  refine gg_obj hC rfl (hts _ ml_X4_3) hl.1 (Nat.le_of_ble_eq_true rfl) dX4_init_1 (Nat.le_of_ble_eq_true rfl) (Nat.le_of_ble_eq_true rfl) ?_
  refine lv_aload_n hx hb dX4_init_4 rfl (lv_at hl 0 rfl) ?_
  refine lv_bipush (v := 8) hx hb dX4_init_5 (by decide) ?_
  obtain ⟨q1, h2, hf⟩ := ob_some hf
  refine gg_naI hC hw h2 dX4_init_7 (fun H locs cells slots hw => ?_)
  obtain ⟨σ3, h4, hf⟩ := ob_some hf
  refine pF_fl_X4_9 hC hw h4 rfl rfl dX4_init_9 (fun H locs hw => ?_)
  refine lv_aload_n hx hb dX4_init_12 rfl (lv_at hl 0 rfl) ?_
  refine lv_bipush (v := 8) hx hb dX4_init_13 (by decide) ?_
  obtain ⟨q5, h6, hf⟩ := ob_some hf
  refine gg_naI hC hw h6 dX4_init_15 (fun H locs cells slots hw => ?_)
  obtain ⟨σ7, h8, hf⟩ := ob_some hf
  refine pF_fl_X4_15 hC hw h8 rfl rfl dX4_init_17 (fun H locs hw => ?_)
  refine lv_aload_n hx hb dX4_init_20 rfl (lv_at hl 0 rfl) ?_
  refine lv_bipush (v := 8) hx hb dX4_init_21 (by decide) ?_
  obtain ⟨q9, h10, hf⟩ := ob_some hf
  refine gg_naI hC hw h10 dX4_init_23 (fun H locs cells slots hw => ?_)
  obtain ⟨σ11, h12, hf⟩ := ob_some hf
  refine pF_fl_X4_18 hC hw h12 rfl rfl dX4_init_25 (fun H locs hw => ?_)
  cases hf
  exact hQ _ _ _ _ _ _ dX4_init_28 hw

def X4_init_f (E : gE) (l0 : Nat) (σ : gS) : Option gS := X4_init E l0 σ
set_option maxRecDepth 100000 in
theorem X4_init_M (l : Launch) (E : gE) (D : va_G) (A : Nat → Prop) {l0 : Nat} {σ : gS} {σz : gS} (hf : X4_init_f E l0 σ = some σz) : gCV l E D A yX4_init cX4_init 1 3 80 none [.ref l0] σ σz := by
  refine gg_entV (own := RX4) (nm := "<init>") (by decide +kernel) rfl rfl (Nat.le_of_ble_eq_true rfl) rfl ?_
  intro p e R s m args below meth c Q ls hC hw hQ hl
  have hl : lv_has ls 1 [(0, .ref l0)] := hl
  exact X4_init_W hC hQ hf hw hl

def X4_size (E : gE) (σ : gS) (l0 : Nat) : Option Int32 :=
  ob (gfI σ l0 3 3) fun x1 =>
  some x1
set_option maxHeartbeats 4000000 in
set_option maxRecDepth 100000 in
theorem X4_size_W {σ : gS} {l0 : Nat} {res : Int32} {ls : Array Slot} (hC : gC E D A p R s m args meth c cX4_size 1 RX4 "size" 0 0) (hQ : gQI E D A p l e R s m args below meth c Q cX4_size FieldType.int (res, σ)) (hf : X4_size E σ l0 = some res) (hw : gW E D A s σ H locs) (hl : lv_has ls 1 [(0, .ref l0)]) : W p l e R s m args below meth c H locs cells slots Q (F0 m 0 ls []) := by
  have hC0 := hC
  obtain ⟨hx, hb, hml, hown, hts, -⟩ := hC0
  unfold X4_size at hf
  refine lv_aload_n hx hb dX4_size_0 rfl (lv_at hl 0 rfl) ?_
  obtain ⟨x1, h2, hf⟩ := ob_some hf
  refine rI_fl_X4_21 hC hw h2 dX4_size_1 ?_
  cases hf
  exact hQ _ _ _ _ _ _ dX4_size_4 rfl hw

def X4_size_f (E : gE) (σ : gS) (l0 : Nat) : Option Int32 := X4_size E σ l0
set_option maxRecDepth 100000 in
theorem X4_size_M (l : Launch) (E : gE) (D : va_G) (A : Nat → Prop) {l0 : Nat} {σ : gS} {res : Int32} (hf : X4_size_f E σ l0 = some res) : gCI l E D A yX4_size cX4_size 1 0 0 (some FieldType.int) [.ref l0] σ (res, σ) := by
  refine gg_entI (own := RX4) (nm := "size") (ty := FieldType.int) (by decide +kernel) rfl rfl (Nat.le_of_ble_eq_true rfl) rfl ?_
  intro p e R s m args below meth c Q ls hC hw hQ hl
  have hl : lv_has ls 1 [(0, .ref l0)] := hl
  exact X4_size_W hC hQ hf hw hl

def X4_isFull (E : gE) (σ : gS) (l0 : Nat) : Option Int32 :=
  ob (gfI σ l0 3 3) fun x1 =>
  if x1 = (8 : Int32) then
    some (1 : Int32)
  else
    some (0 : Int32)
set_option maxHeartbeats 4000000 in
set_option maxRecDepth 100000 in
theorem X4_isFull_W {σ : gS} {l0 : Nat} {res : Int32} {ls : Array Slot} (hC : gC E D A p R s m args meth c cX4_isFull 1 RX4 "isFull" 0 0) (hQ : gQI E D A p l e R s m args below meth c Q cX4_isFull FieldType.boolean (res, σ)) (hf : X4_isFull E σ l0 = some res) (hw : gW E D A s σ H locs) (hl : lv_has ls 1 [(0, .ref l0)]) : W p l e R s m args below meth c H locs cells slots Q (F0 m 0 ls []) := by
  have hC0 := hC
  obtain ⟨hx, hb, hml, hown, hts, -⟩ := hC0
  unfold X4_isFull at hf
  refine lv_aload_n hx hb dX4_isFull_0 rfl (lv_at hl 0 rfl) ?_
  obtain ⟨x1, h2, hf⟩ := ob_some hf
  refine rI_fl_X4_21 hC hw h2 dX4_isFull_1 ?_
  refine lv_bipush (v := 8) hx hb dX4_isFull_4 (by decide) ?_
  refine lv_icmp_ne (tgt := 13) hx hb dX4_isFull_6 (by decide) (fun c3 => ?_) (fun c3 => ?_)
  · replace hf := (if_neg c3).symm.trans hf
    refine lv_iconst (v := 0) hx hb dX4_isFull_13 (by decide) ?_
    cases hf
    exact hQ _ _ _ _ _ _ dX4_isFull_14 gz0 hw
  · replace hf := (if_pos c3).symm.trans hf
    refine lv_iconst (v := 1) hx hb dX4_isFull_9 (by decide) ?_
    refine lv_goto (tgt := 14) hx hb dX4_isFull_10 (by decide) ?_
    cases hf
    exact hQ _ _ _ _ _ _ dX4_isFull_14 gz1 hw

def X4_isFull_f (E : gE) (σ : gS) (l0 : Nat) : Option Int32 := X4_isFull E σ l0
set_option maxRecDepth 100000 in
theorem X4_isFull_M (l : Launch) (E : gE) (D : va_G) (A : Nat → Prop) {l0 : Nat} {σ : gS} {res : Int32} (hf : X4_isFull_f E σ l0 = some res) : gCI l E D A yX4_isFull cX4_isFull 1 0 0 (some FieldType.boolean) [.ref l0] σ (res, σ) := by
  refine gg_entI (own := RX4) (nm := "isFull") (ty := FieldType.boolean) (by decide +kernel) rfl rfl (Nat.le_of_ble_eq_true rfl) rfl ?_
  intro p e R s m args below meth c Q ls hC hw hQ hl
  have hl : lv_has ls 1 [(0, .ref l0)] := hl
  exact X4_isFull_W hC hQ hf hw hl

def X4_has_16 (E : gE) (σ : gS) : Option Int32 :=
  some (0 : Int32)
set_option maxHeartbeats 4000000 in
set_option maxRecDepth 100000 in
theorem X4_has_16_W {σ : gS} {res : Int32} {ls : Array Slot} (hC : gC E D A p R s m args meth c cX4_has 2 RX4 "has" 0 0) (hQ : gQI E D A p l e R s m args below meth c Q cX4_has FieldType.boolean (res, σ)) (hf : X4_has_16 E σ = some res) (hw : gW E D A s σ H locs) (hl : lv_has ls 2 []) : W p l e R s m args below meth c H locs cells slots Q (F0 m 16 ls []) := by
  have hC0 := hC
  obtain ⟨hx, hb, hml, hown, hts, -⟩ := hC0
  unfold X4_has_16 at hf
  refine lv_iconst (v := 0) hx hb dX4_has_16 (by decide) ?_
  cases hf
  exact hQ _ _ _ _ _ _ dX4_has_17 gz0 hw

def X4_has (E : gE) (σ : gS) (l0 : Nat) (l1 : Int32) : Option Int32 :=
  if l1 < 0 then
    X4_has_16 E σ
  else
    ob (gfI σ l0 3 3) fun x1 =>
    if x1 ≤ l1 then
      X4_has_16 E σ
    else
      some (1 : Int32)
set_option maxHeartbeats 4000000 in
set_option maxRecDepth 100000 in
theorem X4_has_W {σ : gS} {l0 : Nat} {l1 : Int32} {res : Int32} {ls : Array Slot} (hC : gC E D A p R s m args meth c cX4_has 2 RX4 "has" 0 0) (hQ : gQI E D A p l e R s m args below meth c Q cX4_has FieldType.boolean (res, σ)) (hf : X4_has E σ l0 l1 = some res) (hw : gW E D A s σ H locs) (hl : lv_has ls 2 [(0, .ref l0), (1, .int l1)]) : W p l e R s m args below meth c H locs cells slots Q (F0 m 0 ls []) := by
  have hC0 := hC
  obtain ⟨hx, hb, hml, hown, hts, -⟩ := hC0
  unfold X4_has at hf
  refine lv_iload_n hx hb dX4_has_0 rfl (lv_at hl 1 rfl) ?_
  refine lv_if_lt (tgt := 16) hx hb dX4_has_1 (by decide) (fun c4 => ?_) (fun c4 => ?_)
  · replace hf := (if_pos c4).symm.trans hf
    exact X4_has_16_W hC hQ hf hw (lv_sub hl [] rfl)
  · replace hf := (if_neg c4).symm.trans hf
    refine lv_iload_n hx hb dX4_has_4 rfl (lv_at hl 1 rfl) ?_
    refine lv_aload_n hx hb dX4_has_5 rfl (lv_at hl 0 rfl) ?_
    obtain ⟨x1, h2, hf⟩ := ob_some hf
    refine rI_fl_X4_21 hC hw h2 dX4_has_6 ?_
    refine lv_icmp_ge (tgt := 16) hx hb dX4_has_9 (by decide) (fun c3 => ?_) (fun c3 => ?_)
    · replace hf := (if_pos c3).symm.trans hf
      exact X4_has_16_W hC hQ hf hw (lv_sub hl [] rfl)
    · replace hf := (if_neg c3).symm.trans hf
      refine lv_iconst (v := 1) hx hb dX4_has_12 (by decide) ?_
      refine lv_goto (tgt := 17) hx hb dX4_has_13 (by decide) ?_
      cases hf
      exact hQ _ _ _ _ _ _ dX4_has_17 gz1 hw

def X4_has_f (E : gE) (σ : gS) (l0 : Nat) (l1 : Int32) : Option Int32 := X4_has E σ l0 l1
set_option maxRecDepth 100000 in
theorem X4_has_M (l : Launch) (E : gE) (D : va_G) (A : Nat → Prop) {l0 : Nat} {l1 : Int32} {σ : gS} {res : Int32} (hf : X4_has_f E σ l0 l1 = some res) : gCI l E D A yX4_has cX4_has 2 0 0 (some FieldType.boolean) [.ref l0, .int l1] σ (res, σ) := by
  refine gg_entI (own := RX4) (nm := "has") (ty := FieldType.boolean) (by decide +kernel) rfl rfl (Nat.le_of_ble_eq_true rfl) rfl ?_
  intro p e R s m args below meth c Q ls hC hw hQ hl
  have hl : lv_has ls 2 [(0, .ref l0), (1, .int l1)] := hl
  exact X4_has_W hC hQ hf hw hl

def X4_columnOf (E : gE) (σ : gS) (l0 : Nat) (l1 : Int32) : Option Int32 :=
  ob (gfR σ l0 3 0) fun x1 =>
  ob (graI E 0 σ x1 l1) fun x3 =>
  some x3
set_option maxHeartbeats 4000000 in
set_option maxRecDepth 100000 in
theorem X4_columnOf_W {σ : gS} {l0 : Nat} {l1 : Int32} {res : Int32} {ls : Array Slot} (hC : gC E D A p R s m args meth c cX4_columnOf 2 RX4 "columnOf" 0 0) (hQ : gQI E D A p l e R s m args below meth c Q cX4_columnOf FieldType.int (res, σ)) (hf : X4_columnOf E σ l0 l1 = some res) (hw : gW E D A s σ H locs) (hl : lv_has ls 2 [(0, .ref l0), (1, .int l1)]) : W p l e R s m args below meth c H locs cells slots Q (F0 m 0 ls []) := by
  have hC0 := hC
  obtain ⟨hx, hb, hml, hown, hts, -⟩ := hC0
  unfold X4_columnOf at hf
  refine lv_aload_n hx hb dX4_columnOf_0 rfl (lv_at hl 0 rfl) ?_
  obtain ⟨x1, h2, hf⟩ := ob_some hf
  refine rR_fl_X4_9 hC hw h2 dX4_columnOf_1 ?_
  refine lv_iload_n hx hb dX4_columnOf_4 rfl (lv_at hl 1 rfl) ?_
  obtain ⟨x3, h4, hf⟩ := ob_some hf
  refine gg_aldI hC hw h4 dX4_columnOf_5 ?_
  cases hf
  exact hQ _ _ _ _ _ _ dX4_columnOf_6 rfl hw

def X4_columnOf_f (E : gE) (σ : gS) (l0 : Nat) (l1 : Int32) : Option Int32 := X4_columnOf E σ l0 l1
set_option maxRecDepth 100000 in
theorem X4_columnOf_M (l : Launch) (E : gE) (D : va_G) (A : Nat → Prop) {l0 : Nat} {l1 : Int32} {σ : gS} {res : Int32} (hf : X4_columnOf_f E σ l0 l1 = some res) : gCI l E D A yX4_columnOf cX4_columnOf 2 0 0 (some FieldType.int) [.ref l0, .int l1] σ (res, σ) := by
  refine gg_entI (own := RX4) (nm := "columnOf") (ty := FieldType.int) (by decide +kernel) rfl rfl (Nat.le_of_ble_eq_true rfl) rfl ?_
  intro p e R s m args below meth c Q ls hC hw hQ hl
  have hl : lv_has ls 2 [(0, .ref l0), (1, .int l1)] := hl
  exact X4_columnOf_W hC hQ hf hw hl

def X4_valueOf (E : gE) (σ : gS) (l0 : Nat) (l1 : Int32) : Option Int32 :=
  ob (gfR σ l0 3 1) fun x1 =>
  ob (graI E 0 σ x1 l1) fun x3 =>
  some x3
set_option maxHeartbeats 4000000 in
set_option maxRecDepth 100000 in
theorem X4_valueOf_W {σ : gS} {l0 : Nat} {l1 : Int32} {res : Int32} {ls : Array Slot} (hC : gC E D A p R s m args meth c cX4_valueOf 2 RX4 "valueOf" 0 0) (hQ : gQI E D A p l e R s m args below meth c Q cX4_valueOf FieldType.int (res, σ)) (hf : X4_valueOf E σ l0 l1 = some res) (hw : gW E D A s σ H locs) (hl : lv_has ls 2 [(0, .ref l0), (1, .int l1)]) : W p l e R s m args below meth c H locs cells slots Q (F0 m 0 ls []) := by
  have hC0 := hC
  obtain ⟨hx, hb, hml, hown, hts, -⟩ := hC0
  unfold X4_valueOf at hf
  refine lv_aload_n hx hb dX4_valueOf_0 rfl (lv_at hl 0 rfl) ?_
  obtain ⟨x1, h2, hf⟩ := ob_some hf
  refine rR_fl_X4_15 hC hw h2 dX4_valueOf_1 ?_
  refine lv_iload_n hx hb dX4_valueOf_4 rfl (lv_at hl 1 rfl) ?_
  obtain ⟨x3, h4, hf⟩ := ob_some hf
  refine gg_aldI hC hw h4 dX4_valueOf_5 ?_
  cases hf
  exact hQ _ _ _ _ _ _ dX4_valueOf_6 rfl hw

def X4_valueOf_f (E : gE) (σ : gS) (l0 : Nat) (l1 : Int32) : Option Int32 := X4_valueOf E σ l0 l1
set_option maxRecDepth 100000 in
theorem X4_valueOf_M (l : Launch) (E : gE) (D : va_G) (A : Nat → Prop) {l0 : Nat} {l1 : Int32} {σ : gS} {res : Int32} (hf : X4_valueOf_f E σ l0 l1 = some res) : gCI l E D A yX4_valueOf cX4_valueOf 2 0 0 (some FieldType.int) [.ref l0, .int l1] σ (res, σ) := by
  refine gg_entI (own := RX4) (nm := "valueOf") (ty := FieldType.int) (by decide +kernel) rfl rfl (Nat.le_of_ble_eq_true rfl) rfl ?_
  intro p e R s m args below meth c Q ls hC hw hQ hl
  have hl : lv_has ls 2 [(0, .ref l0), (1, .int l1)] := hl
  exact X4_valueOf_W hC hQ hf hw hl

def X4_directionOf (E : gE) (σ : gS) (l0 : Nat) (l1 : Int32) : Option Int32 :=
  ob (gfR σ l0 3 2) fun x1 =>
  ob (graI E 0 σ x1 l1) fun x3 =>
  some x3
set_option maxHeartbeats 4000000 in
set_option maxRecDepth 100000 in
theorem X4_directionOf_W {σ : gS} {l0 : Nat} {l1 : Int32} {res : Int32} {ls : Array Slot} (hC : gC E D A p R s m args meth c cX4_directionOf 2 RX4 "directionOf" 0 0) (hQ : gQI E D A p l e R s m args below meth c Q cX4_directionOf FieldType.int (res, σ)) (hf : X4_directionOf E σ l0 l1 = some res) (hw : gW E D A s σ H locs) (hl : lv_has ls 2 [(0, .ref l0), (1, .int l1)]) : W p l e R s m args below meth c H locs cells slots Q (F0 m 0 ls []) := by
  have hC0 := hC
  obtain ⟨hx, hb, hml, hown, hts, -⟩ := hC0
  unfold X4_directionOf at hf
  refine lv_aload_n hx hb dX4_directionOf_0 rfl (lv_at hl 0 rfl) ?_
  obtain ⟨x1, h2, hf⟩ := ob_some hf
  refine rR_fl_X4_18 hC hw h2 dX4_directionOf_1 ?_
  refine lv_iload_n hx hb dX4_directionOf_4 rfl (lv_at hl 1 rfl) ?_
  obtain ⟨x3, h4, hf⟩ := ob_some hf
  refine gg_aldI hC hw h4 dX4_directionOf_5 ?_
  cases hf
  exact hQ _ _ _ _ _ _ dX4_directionOf_6 rfl hw

def X4_directionOf_f (E : gE) (σ : gS) (l0 : Nat) (l1 : Int32) : Option Int32 := X4_directionOf E σ l0 l1
set_option maxRecDepth 100000 in
theorem X4_directionOf_M (l : Launch) (E : gE) (D : va_G) (A : Nat → Prop) {l0 : Nat} {l1 : Int32} {σ : gS} {res : Int32} (hf : X4_directionOf_f E σ l0 l1 = some res) : gCI l E D A yX4_directionOf cX4_directionOf 2 0 0 (some FieldType.int) [.ref l0, .int l1] σ (res, σ) := by
  refine gg_entI (own := RX4) (nm := "directionOf") (ty := FieldType.int) (by decide +kernel) rfl rfl (Nat.le_of_ble_eq_true rfl) rfl ?_
  intro p e R s m args below meth c Q ls hC hw hQ hl
  have hl : lv_has ls 2 [(0, .ref l0), (1, .int l1)] := hl
  exact X4_directionOf_W hC hQ hf hw hl

def X4_add (E : gE) (l0 : Nat) (l1 : Int32) (l2 : Int32) (l3 : Int32) (σ : gS) : Option gS :=
  ob (gfI σ l0 3 3) fun x1 =>
  if (8 : Int32) ≤ x1 then
    some σ
  else
    ob (gfR σ l0 3 0) fun x3 =>
    ob (gfI σ l0 3 3) fun x5 =>
    ob (gwaI E σ x3 x5 l1) fun σ7 =>
    ob (gfR σ7 l0 3 1) fun x9 =>
    ob (gfI σ7 l0 3 3) fun x11 =>
    ob (gwaI E σ7 x9 x11 l2) fun σ13 =>
    ob (gfR σ13 l0 3 2) fun x15 =>
    ob (gfI σ13 l0 3 3) fun x17 =>
    ob (gwaI E σ13 x15 x17 l3) fun σ19 =>
    ob (gfI σ19 l0 3 3) fun x21 =>
    ob (gpf E σ19 l0 3 3 (.int (x21 + (1 : Int32)))) fun σ23 =>
    some σ23
set_option maxHeartbeats 4000000 in
set_option maxRecDepth 100000 in
theorem X4_add_W {σ : gS} {l0 : Nat} {l1 : Int32} {l2 : Int32} {l3 : Int32} {σz : gS} {ls : Array Slot} (hC : gC E D A p R s m args meth c cX4_add 4 RX4 "add" 0 0) (hQ : gQV E D A p l e R s m args below meth c Q cX4_add σz) (hf : X4_add E l0 l1 l2 l3 σ = some σz) (hw : gW E D A s σ H locs) (hl : lv_has ls 4 [(0, .ref l0), (1, .int l1), (2, .int l2), (3, .int l3)]) : W p l e R s m args below meth c H locs cells slots Q (F0 m 0 ls []) := by
  have hC0 := hC
  obtain ⟨hx, hb, hml, hown, hts, -⟩ := hC0
  unfold X4_add at hf
  refine lv_aload_n hx hb dX4_add_0 rfl (lv_at hl 0 rfl) ?_
  obtain ⟨x1, h2, hf⟩ := ob_some hf
  refine rI_fl_X4_21 hC hw h2 dX4_add_1 ?_
  refine lv_bipush (v := 8) hx hb dX4_add_4 (by decide) ?_
  refine lv_icmp_ge (tgt := 49) hx hb dX4_add_6 (by decide) (fun c25 => ?_) (fun c25 => ?_)
  · replace hf := (if_pos c25).symm.trans hf
    cases hf
    exact hQ _ _ _ _ _ _ dX4_add_49 hw
  · replace hf := (if_neg c25).symm.trans hf
    refine lv_aload_n hx hb dX4_add_9 rfl (lv_at hl 0 rfl) ?_
    obtain ⟨x3, h4, hf⟩ := ob_some hf
    refine rR_fl_X4_9 hC hw h4 dX4_add_10 ?_
    refine lv_aload_n hx hb dX4_add_13 rfl (lv_at hl 0 rfl) ?_
    obtain ⟨x5, h6, hf⟩ := ob_some hf
    refine rI_fl_X4_21 hC hw h6 dX4_add_14 ?_
    refine lv_iload_n hx hb dX4_add_17 rfl (lv_at hl 1 rfl) ?_
    obtain ⟨σ7, h8, hf⟩ := ob_some hf
    refine gg_astI hC hw h8 dX4_add_18 (fun H locs hw => ?_)
    refine lv_aload_n hx hb dX4_add_19 rfl (lv_at hl 0 rfl) ?_
    obtain ⟨x9, h10, hf⟩ := ob_some hf
    refine rR_fl_X4_15 hC hw h10 dX4_add_20 ?_
    refine lv_aload_n hx hb dX4_add_23 rfl (lv_at hl 0 rfl) ?_
    obtain ⟨x11, h12, hf⟩ := ob_some hf
    refine rI_fl_X4_21 hC hw h12 dX4_add_24 ?_
    refine lv_iload_n hx hb dX4_add_27 rfl (lv_at hl 2 rfl) ?_
    obtain ⟨σ13, h14, hf⟩ := ob_some hf
    refine gg_astI hC hw h14 dX4_add_28 (fun H locs hw => ?_)
    refine lv_aload_n hx hb dX4_add_29 rfl (lv_at hl 0 rfl) ?_
    obtain ⟨x15, h16, hf⟩ := ob_some hf
    refine rR_fl_X4_18 hC hw h16 dX4_add_30 ?_
    refine lv_aload_n hx hb dX4_add_33 rfl (lv_at hl 0 rfl) ?_
    obtain ⟨x17, h18, hf⟩ := ob_some hf
    refine rI_fl_X4_21 hC hw h18 dX4_add_34 ?_
    refine lv_iload_n hx hb dX4_add_37 rfl (lv_at hl 3 rfl) ?_
    obtain ⟨σ19, h20, hf⟩ := ob_some hf
    refine gg_astI hC hw h20 dX4_add_38 (fun H locs hw => ?_)
    refine lv_aload_n hx hb dX4_add_39 rfl (lv_at hl 0 rfl) ?_
    refine lv_dup hx hb dX4_add_40 rfl ?_
    obtain ⟨x21, h22, hf⟩ := ob_some hf
    refine rI_fl_X4_21 hC hw h22 dX4_add_41 ?_
    refine lv_iconst (v := 1) hx hb dX4_add_44 (by decide) ?_
    refine lv_iadd hx hb dX4_add_45 ?_
    obtain ⟨σ23, h24, hf⟩ := ob_some hf
    refine p_fl_X4_21 hC hw h24 rfl rfl dX4_add_46 (fun H locs hw => ?_)
    cases hf
    exact hQ _ _ _ _ _ _ dX4_add_49 hw

def X4_add_f (E : gE) (l0 : Nat) (l1 : Int32) (l2 : Int32) (l3 : Int32) (σ : gS) : Option gS := X4_add E l0 l1 l2 l3 σ
set_option maxRecDepth 100000 in
theorem X4_add_M (l : Launch) (E : gE) (D : va_G) (A : Nat → Prop) {l0 : Nat} {l1 : Int32} {l2 : Int32} {l3 : Int32} {σ : gS} {σz : gS} (hf : X4_add_f E l0 l1 l2 l3 σ = some σz) : gCV l E D A yX4_add cX4_add 4 0 0 none [.ref l0, .int l1, .int l2, .int l3] σ σz := by
  refine gg_entV (own := RX4) (nm := "add") (by decide +kernel) rfl rfl (Nat.le_of_ble_eq_true rfl) rfl ?_
  intro p e R s m args below meth c Q ls hC hw hQ hl
  have hl : lv_has ls 4 [(0, .ref l0), (1, .int l1), (2, .int l2), (3, .int l3)] := hl
  exact X4_add_W hC hQ hf hw hl

def X4_remove_4_s (E : gE) (r_4 : Nat → Int32 → gS → Option gS) (l0 : Nat) (l2 : Int32) (σ : gS) : Option gS :=
  ob (gfI σ l0 3 3) fun x1 =>
  if x1 ≤ l2 then
    ob (gfI σ l0 3 3) fun x3 =>
    ob (gpf E σ l0 3 3 (.int (x3 - (1 : Int32)))) fun σ5 =>
    some σ5
  else
    ob (gfR σ l0 3 0) fun x7 =>
    ob (gfR σ l0 3 0) fun x9 =>
    ob (graI E 0 σ x9 l2) fun x11 =>
    ob (gwaI E σ x7 (l2 - (1 : Int32)) x11) fun σ13 =>
    ob (gfR σ13 l0 3 1) fun x15 =>
    ob (gfR σ13 l0 3 1) fun x17 =>
    ob (graI E 0 σ13 x17 l2) fun x19 =>
    ob (gwaI E σ13 x15 (l2 - (1 : Int32)) x19) fun σ21 =>
    ob (gfR σ21 l0 3 2) fun x23 =>
    ob (gfR σ21 l0 3 2) fun x25 =>
    ob (graI E 0 σ21 x25 l2) fun x27 =>
    ob (gwaI E σ21 x23 (l2 - (1 : Int32)) x27) fun σ29 =>
    r_4 l0 (l2 + 1) σ29
set_option maxHeartbeats 4000000 in
set_option maxRecDepth 100000 in
theorem X4_remove_4_s_W {σ : gS} {l0 : Nat} {l2 : Int32} {σz : gS} {ls : Array Slot} (hC : gC E D A p R s m args meth c cX4_remove 3 RX4 "remove" 0 0) (hQ : gQV E D A p l e R s m args below meth c Q cX4_remove σz) {r_4 : Nat → Int32 → gS → Option gS} (h_4 : ∀ {l0 : Nat} {l2 : Int32} {σ : gS} {H : Heap} {locs : List Loc} {cells slots : Nat} {ls : Array Slot}, r_4 l0 l2 σ = some σz → gW E D A s σ H locs → lv_has ls 3 [(0, .ref l0), (2, .int l2)] → W p l e R s m args below meth c H locs cells slots Q (F0 m 4 ls [])) (hf : X4_remove_4_s E r_4 l0 l2 σ = some σz) (hw : gW E D A s σ H locs) (hl : lv_has ls 3 [(0, .ref l0), (2, .int l2)]) : W p l e R s m args below meth c H locs cells slots Q (F0 m 4 ls []) := by
  have hC0 := hC
  obtain ⟨hx, hb, hml, hown, hts, -⟩ := hC0
  unfold X4_remove_4_s at hf
  refine lv_iload_n hx hb dX4_remove_4 rfl (lv_at hl 1 rfl) ?_
  refine lv_aload_n hx hb dX4_remove_5 rfl (lv_at hl 0 rfl) ?_
  obtain ⟨x1, h2, hf⟩ := ob_some hf
  refine rI_fl_X4_21 hC hw h2 dX4_remove_6 ?_
  refine lv_icmp_ge (tgt := 60) hx hb dX4_remove_9 (by decide) (fun c31 => ?_) (fun c31 => ?_)
  · replace hf := (if_pos c31).symm.trans hf
    refine lv_aload_n hx hb dX4_remove_60 rfl (lv_at hl 0 rfl) ?_
    refine lv_dup hx hb dX4_remove_61 rfl ?_
    obtain ⟨x3, h4, hf⟩ := ob_some hf
    refine rI_fl_X4_21 hC hw h4 dX4_remove_62 ?_
    refine lv_iconst (v := 1) hx hb dX4_remove_65 (by decide) ?_
    refine lv_isub hx hb dX4_remove_66 ?_
    obtain ⟨σ5, h6, hf⟩ := ob_some hf
    refine p_fl_X4_21 hC hw h6 rfl rfl dX4_remove_67 (fun H locs hw => ?_)
    cases hf
    exact hQ _ _ _ _ _ _ dX4_remove_70 hw
  · replace hf := (if_neg c31).symm.trans hf
    refine lv_aload_n hx hb dX4_remove_12 rfl (lv_at hl 0 rfl) ?_
    obtain ⟨x7, h8, hf⟩ := ob_some hf
    refine rR_fl_X4_9 hC hw h8 dX4_remove_13 ?_
    refine lv_iload_n hx hb dX4_remove_16 rfl (lv_at hl 1 rfl) ?_
    refine lv_iconst (v := 1) hx hb dX4_remove_17 (by decide) ?_
    refine lv_isub hx hb dX4_remove_18 ?_
    refine lv_aload_n hx hb dX4_remove_19 rfl (lv_at hl 0 rfl) ?_
    obtain ⟨x9, h10, hf⟩ := ob_some hf
    refine rR_fl_X4_9 hC hw h10 dX4_remove_20 ?_
    refine lv_iload_n hx hb dX4_remove_23 rfl (lv_at hl 1 rfl) ?_
    obtain ⟨x11, h12, hf⟩ := ob_some hf
    refine gg_aldI hC hw h12 dX4_remove_24 ?_
    obtain ⟨σ13, h14, hf⟩ := ob_some hf
    refine gg_astI hC hw h14 dX4_remove_25 (fun H locs hw => ?_)
    refine lv_aload_n hx hb dX4_remove_26 rfl (lv_at hl 0 rfl) ?_
    obtain ⟨x15, h16, hf⟩ := ob_some hf
    refine rR_fl_X4_15 hC hw h16 dX4_remove_27 ?_
    refine lv_iload_n hx hb dX4_remove_30 rfl (lv_at hl 1 rfl) ?_
    refine lv_iconst (v := 1) hx hb dX4_remove_31 (by decide) ?_
    refine lv_isub hx hb dX4_remove_32 ?_
    refine lv_aload_n hx hb dX4_remove_33 rfl (lv_at hl 0 rfl) ?_
    obtain ⟨x17, h18, hf⟩ := ob_some hf
    refine rR_fl_X4_15 hC hw h18 dX4_remove_34 ?_
    refine lv_iload_n hx hb dX4_remove_37 rfl (lv_at hl 1 rfl) ?_
    obtain ⟨x19, h20, hf⟩ := ob_some hf
    refine gg_aldI hC hw h20 dX4_remove_38 ?_
    obtain ⟨σ21, h22, hf⟩ := ob_some hf
    refine gg_astI hC hw h22 dX4_remove_39 (fun H locs hw => ?_)
    refine lv_aload_n hx hb dX4_remove_40 rfl (lv_at hl 0 rfl) ?_
    obtain ⟨x23, h24, hf⟩ := ob_some hf
    refine rR_fl_X4_18 hC hw h24 dX4_remove_41 ?_
    refine lv_iload_n hx hb dX4_remove_44 rfl (lv_at hl 1 rfl) ?_
    refine lv_iconst (v := 1) hx hb dX4_remove_45 (by decide) ?_
    refine lv_isub hx hb dX4_remove_46 ?_
    refine lv_aload_n hx hb dX4_remove_47 rfl (lv_at hl 0 rfl) ?_
    obtain ⟨x25, h26, hf⟩ := ob_some hf
    refine rR_fl_X4_18 hC hw h26 dX4_remove_48 ?_
    refine lv_iload_n hx hb dX4_remove_51 rfl (lv_at hl 1 rfl) ?_
    obtain ⟨x27, h28, hf⟩ := ob_some hf
    refine gg_aldI hC hw h28 dX4_remove_52 ?_
    obtain ⟨σ29, h30, hf⟩ := ob_some hf
    refine gg_astI hC hw h30 dX4_remove_53 (fun H locs hw => ?_)
    refine lv_iinc (v := (l2 + 1)) (lv' := [(2, .int (l2 + 1)), (0, .ref l0)]) hx hb dX4_remove_54 hl (k := 1) rfl rfl (by decide) rfl (fun ls hl => ?_)
    refine lv_goto (tgt := 4) hx hb dX4_remove_57 (by decide) ?_
    exact h_4 hf hw (lv_sub hl [1, 0] rfl)
def X4_remove_4 (E : gE) : Nat → Nat → Int32 → gS → Option gS
  | 0 => fun _ _ _ => none
  | n + 1 => X4_remove_4_s E (X4_remove_4 E n)
theorem X4_remove_4_W {σz : gS} (hC : gC E D A p R s m args meth c cX4_remove 3 RX4 "remove" 0 0) (hQ : gQV E D A p l e R s m args below meth c Q cX4_remove σz) : ∀ (n : Nat), ∀ {l0 : Nat} {l2 : Int32} {σ : gS} {H : Heap} {locs : List Loc} {cells slots : Nat} {ls : Array Slot}, X4_remove_4 E n l0 l2 σ = some σz → gW E D A s σ H locs → lv_has ls 3 [(0, .ref l0), (2, .int l2)] → W p l e R s m args below meth c H locs cells slots Q (F0 m 4 ls []) := by
  intro n
  induction n with
  | zero =>
    intros
    rename_i hf _ _
    exact absurd hf (fun h => by cases (show (none : Option gS) = some σz from h))
  | succ n ih =>
    intros
    rename_i hf hw hl
    exact X4_remove_4_s_W hC hQ ih hf hw hl

def X4_remove (E : gE) (l0 : Nat) (l1 : Int32) (σ : gS) : Option gS :=
  X4_remove_4 E (gN E) l0 (l1 + (1 : Int32)) σ
set_option maxHeartbeats 4000000 in
set_option maxRecDepth 100000 in
theorem X4_remove_W {σ : gS} {l0 : Nat} {l1 : Int32} {σz : gS} {ls : Array Slot} (hC : gC E D A p R s m args meth c cX4_remove 3 RX4 "remove" 0 0) (hQ : gQV E D A p l e R s m args below meth c Q cX4_remove σz) (hf : X4_remove E l0 l1 σ = some σz) (hw : gW E D A s σ H locs) (hl : lv_has ls 3 [(0, .ref l0), (1, .int l1)]) : W p l e R s m args below meth c H locs cells slots Q (F0 m 0 ls []) := by
  have hC0 := hC
  obtain ⟨hx, hb, hml, hown, hts, -⟩ := hC0
  unfold X4_remove at hf
  refine lv_iload_n hx hb dX4_remove_0 rfl (lv_at hl 1 rfl) ?_
  refine lv_iconst (v := 1) hx hb dX4_remove_1 (by decide) ?_
  refine lv_iadd hx hb dX4_remove_2 ?_
  refine lv_istore_n (lv' := [(2, .int (l1 + (1 : Int32))), (0, .ref l0), (1, .int l1)]) hx hb dX4_remove_3 rfl hl (by decide) rfl (fun ls hl => ?_)
  exact X4_remove_4_W hC hQ (gN E) hf hw (lv_sub hl [1, 0] rfl)

def X4_remove_f (E : gE) (l0 : Nat) (l1 : Int32) (σ : gS) : Option gS := X4_remove E l0 l1 σ
set_option maxRecDepth 100000 in
theorem X4_remove_M (l : Launch) (E : gE) (D : va_G) (A : Nat → Prop) {l0 : Nat} {l1 : Int32} {σ : gS} {σz : gS} (hf : X4_remove_f E l0 l1 σ = some σz) : gCV l E D A yX4_remove cX4_remove 3 0 0 none [.ref l0, .int l1] σ σz := by
  refine gg_entV (own := RX4) (nm := "remove") (by decide +kernel) rfl rfl (Nat.le_of_ble_eq_true rfl) rfl ?_
  intro p e R s m args below meth c Q ls hC hw hQ hl
  have hl : lv_has ls 3 [(0, .ref l0), (1, .int l1)] := hl
  exact X4_remove_W hC hQ hf hw hl

def X4_clear (E : gE) (l0 : Nat) (σ : gS) : Option gS :=
  ob (gpf E σ l0 3 3 (.int (0 : Int32))) fun σ1 =>
  some σ1
set_option maxHeartbeats 4000000 in
set_option maxRecDepth 100000 in
theorem X4_clear_W {σ : gS} {l0 : Nat} {σz : gS} {ls : Array Slot} (hC : gC E D A p R s m args meth c cX4_clear 1 RX4 "clear" 0 0) (hQ : gQV E D A p l e R s m args below meth c Q cX4_clear σz) (hf : X4_clear E l0 σ = some σz) (hw : gW E D A s σ H locs) (hl : lv_has ls 1 [(0, .ref l0)]) : W p l e R s m args below meth c H locs cells slots Q (F0 m 0 ls []) := by
  have hC0 := hC
  obtain ⟨hx, hb, hml, hown, hts, -⟩ := hC0
  unfold X4_clear at hf
  refine lv_aload_n hx hb dX4_clear_0 rfl (lv_at hl 0 rfl) ?_
  refine lv_iconst (v := 0) hx hb dX4_clear_1 (by decide) ?_
  obtain ⟨σ1, h2, hf⟩ := ob_some hf
  refine p_fl_X4_21 hC hw h2 rfl rfl dX4_clear_2 (fun H locs hw => ?_)
  cases hf
  exact hQ _ _ _ _ _ _ dX4_clear_5 hw

def X4_clear_f (E : gE) (l0 : Nat) (σ : gS) : Option gS := X4_clear E l0 σ
set_option maxRecDepth 100000 in
theorem X4_clear_M (l : Launch) (E : gE) (D : va_G) (A : Nat → Prop) {l0 : Nat} {σ : gS} {σz : gS} (hf : X4_clear_f E l0 σ = some σz) : gCV l E D A yX4_clear cX4_clear 1 0 0 none [.ref l0] σ σz := by
  refine gg_entV (own := RX4) (nm := "clear") (by decide +kernel) rfl rfl (Nat.le_of_ble_eq_true rfl) rfl ?_
  intro p e R s m args below meth c Q ls hC hw hQ hl
  have hl : lv_has ls 1 [(0, .ref l0)] := hl
  exact X4_clear_W hC hQ hf hw hl

def X4_copyFrom (E : gE) (l0 : Nat) (l1 : Nat) (σ : gS) : Option gS :=
  ob (gfI σ l1 3 3) fun x1 =>
  ob (gpf E σ l0 3 3 (.int x1)) fun σ3 =>
  ob (gfR σ3 l1 3 0) fun x5 =>
  ob (gfR σ3 l0 3 0) fun x7 =>
  ob (gfI σ3 l0 3 3) fun x9 =>
  ob (gcopy E σ3 x5 (0 : Int32) x7 (0 : Int32) x9) fun x11 =>
  ob (gfR x11 l1 3 1) fun x13 =>
  ob (gfR x11 l0 3 1) fun x15 =>
  ob (gfI x11 l0 3 3) fun x17 =>
  ob (gcopy E x11 x13 (0 : Int32) x15 (0 : Int32) x17) fun x19 =>
  ob (gfR x19 l1 3 2) fun x21 =>
  ob (gfR x19 l0 3 2) fun x23 =>
  ob (gfI x19 l0 3 3) fun x25 =>
  ob (gcopy E x19 x21 (0 : Int32) x23 (0 : Int32) x25) fun x27 =>
  some x27
set_option maxHeartbeats 4000000 in
set_option maxRecDepth 100000 in
theorem X4_copyFrom_W {σ : gS} {l0 : Nat} {l1 : Nat} {σz : gS} {ls : Array Slot} (hC : gC E D A p R s m args meth c cX4_copyFrom 2 RX4 "copyFrom" 3 80) (hQ : gQV E D A p l e R s m args below meth c Q cX4_copyFrom σz) (hf : X4_copyFrom E l0 l1 σ = some σz) (hw : gW E D A s σ H locs) (hl : lv_has ls 2 [(0, .ref l0), (1, .ref l1)]) : W p l e R s m args below meth c H locs cells slots Q (F0 m 0 ls []) := by
  have hC0 := hC
  obtain ⟨hx, hb, hml, hown, hts, -⟩ := hC0
  unfold X4_copyFrom at hf
  refine lv_aload_n hx hb dX4_copyFrom_0 rfl (lv_at hl 0 rfl) ?_
  refine lv_aload_n hx hb dX4_copyFrom_1 rfl (lv_at hl 1 rfl) ?_
  obtain ⟨x1, h2, hf⟩ := ob_some hf
  refine rI_fl_X4_21 hC hw h2 dX4_copyFrom_2 ?_
  obtain ⟨σ3, h4, hf⟩ := ob_some hf
  refine p_fl_X4_21 hC hw h4 rfl rfl dX4_copyFrom_5 (fun H locs hw => ?_)
  refine lv_aload_n hx hb dX4_copyFrom_8 rfl (lv_at hl 1 rfl) ?_
  obtain ⟨x5, h6, hf⟩ := ob_some hf
  refine rR_fl_X4_9 hC hw h6 dX4_copyFrom_9 ?_
  refine lv_iconst (v := 0) hx hb dX4_copyFrom_12 (by decide) ?_
  refine lv_aload_n hx hb dX4_copyFrom_13 rfl (lv_at hl 0 rfl) ?_
  obtain ⟨x7, h8, hf⟩ := ob_some hf
  refine rR_fl_X4_9 hC hw h8 dX4_copyFrom_14 ?_
  refine lv_iconst (v := 0) hx hb dX4_copyFrom_17 (by decide) ?_
  refine lv_aload_n hx hb dX4_copyFrom_18 rfl (lv_at hl 0 rfl) ?_
  obtain ⟨x9, h10, hf⟩ := ob_some hf
  refine rI_fl_X4_21 hC hw h10 dX4_copyFrom_19 ?_
  obtain ⟨x11, h12, hf⟩ := ob_some hf
  refine gg_copy hC hw h12 ml_X4_31 hl.1 rfl (Nat.le_of_ble_eq_true rfl) (Nat.le_of_ble_eq_true rfl) (Nat.le_of_ble_eq_true rfl) dX4_copyFrom_22 (fun H locs hw => ?_)
  refine lv_aload_n hx hb dX4_copyFrom_25 rfl (lv_at hl 1 rfl) ?_
  obtain ⟨x13, h14, hf⟩ := ob_some hf
  refine rR_fl_X4_15 hC hw h14 dX4_copyFrom_26 ?_
  refine lv_iconst (v := 0) hx hb dX4_copyFrom_29 (by decide) ?_
  refine lv_aload_n hx hb dX4_copyFrom_30 rfl (lv_at hl 0 rfl) ?_
  obtain ⟨x15, h16, hf⟩ := ob_some hf
  refine rR_fl_X4_15 hC hw h16 dX4_copyFrom_31 ?_
  refine lv_iconst (v := 0) hx hb dX4_copyFrom_34 (by decide) ?_
  refine lv_aload_n hx hb dX4_copyFrom_35 rfl (lv_at hl 0 rfl) ?_
  obtain ⟨x17, h18, hf⟩ := ob_some hf
  refine rI_fl_X4_21 hC hw h18 dX4_copyFrom_36 ?_
  obtain ⟨x19, h20, hf⟩ := ob_some hf
  refine gg_copy hC hw h20 ml_X4_31 hl.1 rfl (Nat.le_of_ble_eq_true rfl) (Nat.le_of_ble_eq_true rfl) (Nat.le_of_ble_eq_true rfl) dX4_copyFrom_39 (fun H locs hw => ?_)
  refine lv_aload_n hx hb dX4_copyFrom_42 rfl (lv_at hl 1 rfl) ?_
  obtain ⟨x21, h22, hf⟩ := ob_some hf
  refine rR_fl_X4_18 hC hw h22 dX4_copyFrom_43 ?_
  refine lv_iconst (v := 0) hx hb dX4_copyFrom_46 (by decide) ?_
  refine lv_aload_n hx hb dX4_copyFrom_47 rfl (lv_at hl 0 rfl) ?_
  obtain ⟨x23, h24, hf⟩ := ob_some hf
  refine rR_fl_X4_18 hC hw h24 dX4_copyFrom_48 ?_
  refine lv_iconst (v := 0) hx hb dX4_copyFrom_51 (by decide) ?_
  refine lv_aload_n hx hb dX4_copyFrom_52 rfl (lv_at hl 0 rfl) ?_
  obtain ⟨x25, h26, hf⟩ := ob_some hf
  refine rI_fl_X4_21 hC hw h26 dX4_copyFrom_53 ?_
  obtain ⟨x27, h28, hf⟩ := ob_some hf
  refine gg_copy hC hw h28 ml_X4_31 hl.1 rfl (Nat.le_of_ble_eq_true rfl) (Nat.le_of_ble_eq_true rfl) (Nat.le_of_ble_eq_true rfl) dX4_copyFrom_56 (fun H locs hw => ?_)
  cases hf
  exact hQ _ _ _ _ _ _ dX4_copyFrom_59 hw

def X4_copyFrom_f (E : gE) (l0 : Nat) (l1 : Nat) (σ : gS) : Option gS := X4_copyFrom E l0 l1 σ
set_option maxRecDepth 100000 in
theorem X4_copyFrom_M (l : Launch) (E : gE) (D : va_G) (A : Nat → Prop) {l0 : Nat} {l1 : Nat} {σ : gS} {σz : gS} (hf : X4_copyFrom_f E l0 l1 σ = some σz) : gCV l E D A yX4_copyFrom cX4_copyFrom 2 3 80 none [.ref l0, .ref l1] σ σz := by
  refine gg_entV (own := RX4) (nm := "copyFrom") (by decide +kernel) rfl rfl (Nat.le_of_ble_eq_true rfl) rfl ?_
  intro p e R s m args below meth c Q ls hC hw hQ hl
  have hl : lv_has ls 2 [(0, .ref l0), (1, .ref l1)] := hl
  exact X4_copyFrom_W hC hQ hf hw hl

def X5_size (E : gE) (σ : gS) (l0 : Nat) : Option Int32 :=
  ob (gfI σ l0 4 2) fun x1 =>
  some x1
set_option maxHeartbeats 4000000 in
set_option maxRecDepth 100000 in
theorem X5_size_W {σ : gS} {l0 : Nat} {res : Int32} {ls : Array Slot} (hC : gC E D A p R s m args meth c cX5_size 1 RX5 "size" 0 0) (hQ : gQI E D A p l e R s m args below meth c Q cX5_size FieldType.int (res, σ)) (hf : X5_size E σ l0 = some res) (hw : gW E D A s σ H locs) (hl : lv_has ls 1 [(0, .ref l0)]) : W p l e R s m args below meth c H locs cells slots Q (F0 m 0 ls []) := by
  have hC0 := hC
  obtain ⟨hx, hb, hml, hown, hts, -⟩ := hC0
  unfold X5_size at hf
  refine lv_aload_n hx hb dX5_size_0 rfl (lv_at hl 0 rfl) ?_
  obtain ⟨x1, h2, hf⟩ := ob_some hf
  refine rI_fl_X5_18 hC hw h2 dX5_size_1 ?_
  cases hf
  exact hQ _ _ _ _ _ _ dX5_size_4 rfl hw

def X5_size_f (E : gE) (σ : gS) (l0 : Nat) : Option Int32 := X5_size E σ l0
set_option maxRecDepth 100000 in
theorem X5_size_M (l : Launch) (E : gE) (D : va_G) (A : Nat → Prop) {l0 : Nat} {σ : gS} {res : Int32} (hf : X5_size_f E σ l0 = some res) : gCI l E D A yX5_size cX5_size 1 0 0 (some FieldType.int) [.ref l0] σ (res, σ) := by
  refine gg_entI (own := RX5) (nm := "size") (ty := FieldType.int) (by decide +kernel) rfl rfl (Nat.le_of_ble_eq_true rfl) rfl ?_
  intro p e R s m args below meth c Q ls hC hw hQ hl
  have hl : lv_has ls 1 [(0, .ref l0)] := hl
  exact X5_size_W hC hQ hf hw hl

def X5_clear (E : gE) (l0 : Nat) (σ : gS) : Option gS :=
  ob (gpf E σ l0 4 2 (.int (0 : Int32))) fun σ1 =>
  some σ1
set_option maxHeartbeats 4000000 in
set_option maxRecDepth 100000 in
theorem X5_clear_W {σ : gS} {l0 : Nat} {σz : gS} {ls : Array Slot} (hC : gC E D A p R s m args meth c cX5_clear 1 RX5 "clear" 0 0) (hQ : gQV E D A p l e R s m args below meth c Q cX5_clear σz) (hf : X5_clear E l0 σ = some σz) (hw : gW E D A s σ H locs) (hl : lv_has ls 1 [(0, .ref l0)]) : W p l e R s m args below meth c H locs cells slots Q (F0 m 0 ls []) := by
  have hC0 := hC
  obtain ⟨hx, hb, hml, hown, hts, -⟩ := hC0
  unfold X5_clear at hf
  refine lv_aload_n hx hb dX5_clear_0 rfl (lv_at hl 0 rfl) ?_
  refine lv_iconst (v := 0) hx hb dX5_clear_1 (by decide) ?_
  obtain ⟨σ1, h2, hf⟩ := ob_some hf
  refine p_fl_X5_18 hC hw h2 rfl rfl dX5_clear_2 (fun H locs hw => ?_)
  cases hf
  exact hQ _ _ _ _ _ _ dX5_clear_5 hw

def X5_clear_f (E : gE) (l0 : Nat) (σ : gS) : Option gS := X5_clear E l0 σ
set_option maxRecDepth 100000 in
theorem X5_clear_M (l : Launch) (E : gE) (D : va_G) (A : Nat → Prop) {l0 : Nat} {σ : gS} {σz : gS} (hf : X5_clear_f E l0 σ = some σz) : gCV l E D A yX5_clear cX5_clear 1 0 0 none [.ref l0] σ σz := by
  refine gg_entV (own := RX5) (nm := "clear") (by decide +kernel) rfl rfl (Nat.le_of_ble_eq_true rfl) rfl ?_
  intro p e R s m args below meth c Q ls hC hw hQ hl
  have hl : lv_has ls 1 [(0, .ref l0)] := hl
  exact X5_clear_W hC hQ hf hw hl

def X8_init (E : gE) (l0 : Nat) (σ : gS) : Option gS :=
  ob (gnaJ E σ (15 : Int32)) fun q1 =>
  ob (gpf E q1.2 l0 6 0 (.ref q1.1)) fun σ3 =>
  some σ3
set_option maxHeartbeats 4000000 in
set_option maxRecDepth 100000 in
theorem X8_init_W {σ : gS} {l0 : Nat} {σz : gS} {ls : Array Slot} (hC : gC E D A p R s m args meth c cX8_init 1 RX8 "<init>" 3 80) (hQ : gQV E D A p l e R s m args below meth c Q cX8_init σz) (hf : X8_init E l0 σ = some σz) (hw : gW E D A s σ H locs) (hl : lv_has ls 1 [(0, .ref l0)]) : W p l e R s m args below meth c H locs cells slots Q (F0 m 0 ls []) := by
  have hC0 := hC
  obtain ⟨hx, hb, hml, hown, hts, -⟩ := hC0
  unfold X8_init at hf
  refine lv_aload_n hx hb dX8_init_0 rfl (lv_at hl 0 rfl) ?_
  refine gg_obj hC rfl (hts _ ml_X8_3) hl.1 (Nat.le_of_ble_eq_true rfl) dX8_init_1 (Nat.le_of_ble_eq_true rfl) (Nat.le_of_ble_eq_true rfl) ?_
  refine lv_aload_n hx hb dX8_init_4 rfl (lv_at hl 0 rfl) ?_
  refine lv_bipush (v := 15) hx hb dX8_init_5 (by decide) ?_
  obtain ⟨q1, h2, hf⟩ := ob_some hf
  refine gg_naJ hC hw h2 dX8_init_7 (fun H locs cells slots hw => ?_)
  obtain ⟨σ3, h4, hf⟩ := ob_some hf
  refine pF_fl_X8_11 hC hw h4 rfl rfl dX8_init_9 (fun H locs hw => ?_)
  cases hf
  exact hQ _ _ _ _ _ _ dX8_init_12 hw

def X8_init_f (E : gE) (l0 : Nat) (σ : gS) : Option gS := X8_init E l0 σ
set_option maxRecDepth 100000 in
theorem X8_init_M (l : Launch) (E : gE) (D : va_G) (A : Nat → Prop) {l0 : Nat} {σ : gS} {σz : gS} (hf : X8_init_f E l0 σ = some σz) : gCV l E D A yX8_init cX8_init 1 3 80 none [.ref l0] σ σz := by
  refine gg_entV (own := RX8) (nm := "<init>") (by decide +kernel) rfl rfl (Nat.le_of_ble_eq_true rfl) rfl ?_
  intro p e R s m args below meth c Q ls hC hw hQ hl
  have hl : lv_has ls 1 [(0, .ref l0)] := hl
  exact X8_init_W hC hQ hf hw hl

def X8_packCode_43 (E : gE) (l0 : Nat) (l2 : Int64) (l5 : Int32) (l6 : Int32) (σ : gS) : Option gS :=
  ob (gfI σ l0 6 1) fun x1 =>
  if (l6 + x1) ≤ (64 : Int32) then
    some σ
  else
    if (15 : Int32) ≤ (l5 + (1 : Int32)) then
      some σ
    else
      ob (gfR σ l0 6 0) fun x3 =>
      ob (graJ E σ x3 (l5 + (1 : Int32))) fun x5 =>
      ob (gwaJ E σ x3 (l5 + (1 : Int32)) (x5 ||| (glushr l2 ((64 : Int32) - l6)))) fun σ7 =>
      some σ7
set_option maxHeartbeats 4000000 in
set_option maxRecDepth 100000 in
theorem X8_packCode_43_W {σ : gS} {l0 : Nat} {l2 : Int64} {l5 : Int32} {l6 : Int32} {σz : gS} {ls : Array Slot} (hC : gC E D A p R s m args meth c cX8_packCode 7 RX8 "packCode" 0 0) (hQ : gQV E D A p l e R s m args below meth c Q cX8_packCode σz) (hf : X8_packCode_43 E l0 l2 l5 l6 σ = some σz) (hw : gW E D A s σ H locs) (hl : lv_has ls 7 [(0, .ref l0), (2, .long l2), (5, .int l5), (6, .int l6)]) : W p l e R s m args below meth c H locs cells slots Q (F0 m 43 ls []) := by
  have hC0 := hC
  obtain ⟨hx, hb, hml, hown, hts, -⟩ := hC0
  unfold X8_packCode_43 at hf
  refine lv_iload hx hb dX8_packCode_43 (lv_at hl 3 rfl) ?_
  refine lv_aload_n hx hb dX8_packCode_45 rfl (lv_at hl 0 rfl) ?_
  obtain ⟨x1, h2, hf⟩ := ob_some hf
  refine rI_fl_X8_33 hC hw h2 dX8_packCode_46 ?_
  refine lv_iadd hx hb dX8_packCode_49 ?_
  refine lv_bipush (v := 64) hx hb dX8_packCode_50 (by decide) ?_
  refine lv_icmp_le (tgt := 83) hx hb dX8_packCode_52 (by decide) (fun c10 => ?_) (fun c10 => ?_)
  · replace hf := (if_pos c10).symm.trans hf
    cases hf
    exact hQ _ _ _ _ _ _ dX8_packCode_83 hw
  · replace hf := (if_neg c10).symm.trans hf
    refine lv_iload hx hb dX8_packCode_55 (lv_at hl 2 rfl) ?_
    refine lv_iconst (v := 1) hx hb dX8_packCode_57 (by decide) ?_
    refine lv_iadd hx hb dX8_packCode_58 ?_
    refine lv_bipush (v := 15) hx hb dX8_packCode_59 (by decide) ?_
    refine lv_icmp_ge (tgt := 83) hx hb dX8_packCode_61 (by decide) (fun c9 => ?_) (fun c9 => ?_)
    · replace hf := (if_pos c9).symm.trans hf
      cases hf
      exact hQ _ _ _ _ _ _ dX8_packCode_83 hw
    · replace hf := (if_neg c9).symm.trans hf
      refine lv_aload_n hx hb dX8_packCode_64 rfl (lv_at hl 0 rfl) ?_
      obtain ⟨x3, h4, hf⟩ := ob_some hf
      refine rR_fl_X8_11 hC hw h4 dX8_packCode_65 ?_
      refine lv_iload hx hb dX8_packCode_68 (lv_at hl 2 rfl) ?_
      refine lv_iconst (v := 1) hx hb dX8_packCode_70 (by decide) ?_
      refine lv_iadd hx hb dX8_packCode_71 ?_
      refine lv_dup2_11 hx hb dX8_packCode_72 rfl rfl ?_
      obtain ⟨x5, h6, hf⟩ := ob_some hf
      refine gg_aldJ hC hw h6 dX8_packCode_73 ?_
      refine lv_lload_n hx hb dX8_packCode_74 rfl (lv_at hl 1 rfl) ?_
      refine lv_bipush (v := 64) hx hb dX8_packCode_75 (by decide) ?_
      refine lv_iload hx hb dX8_packCode_77 (lv_at hl 3 rfl) ?_
      refine lv_isub hx hb dX8_packCode_79 ?_
      refine lv_lushr (v := glushr l2 ((64 : Int32) - l6)) hx hb dX8_packCode_80 rfl ?_
      refine lv_lor hx hb dX8_packCode_81 ?_
      obtain ⟨σ7, h8, hf⟩ := ob_some hf
      refine gg_astJ hC hw h8 dX8_packCode_82 (fun H locs hw => ?_)
      cases hf
      exact hQ _ _ _ _ _ _ dX8_packCode_83 hw

def X8_packCode (E : gE) (l0 : Nat) (l1 : Int32) (l2 : Int64) (σ : gS) : Option gS :=
  ob (gfI σ l0 6 1) fun x11 =>
  if (15 : Int32) ≤ ((l1 * x11) / (64 : Int32)) then
    X8_packCode_43 E l0 l2 ((l1 * x11) / (64 : Int32)) ((l1 * x11) - (l1 * x11) / (64 : Int32) * (64 : Int32)) σ
  else
    ob (gfR σ l0 6 0) fun x13 =>
    ob (graJ E σ x13 ((l1 * x11) / (64 : Int32))) fun x15 =>
    ob (gwaJ E σ x13 ((l1 * x11) / (64 : Int32)) (x15 ||| (glshl l2 ((l1 * x11) - (l1 * x11) / (64 : Int32) * (64 : Int32))))) fun σ17 =>
    X8_packCode_43 E l0 l2 ((l1 * x11) / (64 : Int32)) ((l1 * x11) - (l1 * x11) / (64 : Int32) * (64 : Int32)) σ17
set_option maxHeartbeats 4000000 in
set_option maxRecDepth 100000 in
theorem X8_packCode_W {σ : gS} {l0 : Nat} {l1 : Int32} {l2 : Int64} {σz : gS} {ls : Array Slot} (hC : gC E D A p R s m args meth c cX8_packCode 7 RX8 "packCode" 0 0) (hQ : gQV E D A p l e R s m args below meth c Q cX8_packCode σz) (hf : X8_packCode E l0 l1 l2 σ = some σz) (hw : gW E D A s σ H locs) (hl : lv_has ls 7 [(0, .ref l0), (1, .int l1), (2, .long l2)]) : W p l e R s m args below meth c H locs cells slots Q (F0 m 0 ls []) := by
  have hC0 := hC
  obtain ⟨hx, hb, hml, hown, hts, -⟩ := hC0
  unfold X8_packCode at hf
  refine lv_iload_n hx hb dX8_packCode_0 rfl (lv_at hl 1 rfl) ?_
  refine lv_aload_n hx hb dX8_packCode_1 rfl (lv_at hl 0 rfl) ?_
  obtain ⟨x11, h12, hf⟩ := ob_some hf
  refine rI_fl_X8_33 hC hw h12 dX8_packCode_2 ?_
  refine lv_imul hx hb dX8_packCode_5 ?_
  refine lv_istore (lv' := [(4, .int (l1 * x11)), (0, .ref l0), (1, .int l1), (2, .long l2)]) hx hb dX8_packCode_6 hl (by decide) rfl (fun ls hl => ?_)
  refine lv_iload hx hb dX8_packCode_8 (lv_at hl 0 rfl) ?_
  refine lv_bipush (v := 64) hx hb dX8_packCode_10 (by decide) ?_
  refine lv_idiv hx hb dX8_packCode_12 (by decide) ?_
  refine lv_istore (lv' := [(5, .int ((l1 * x11) / (64 : Int32))), (4, .int (l1 * x11)), (0, .ref l0), (1, .int l1), (2, .long l2)]) hx hb dX8_packCode_13 hl (by decide) rfl (fun ls hl => ?_)
  refine lv_iload hx hb dX8_packCode_15 (lv_at hl 1 rfl) ?_
  refine lv_bipush (v := 64) hx hb dX8_packCode_17 (by decide) ?_
  refine lv_irem hx hb dX8_packCode_19 (by decide) ?_
  refine lv_istore (lv' := [(6, .int ((l1 * x11) - (l1 * x11) / (64 : Int32) * (64 : Int32))), (5, .int ((l1 * x11) / (64 : Int32))), (4, .int (l1 * x11)), (0, .ref l0), (1, .int l1), (2, .long l2)]) hx hb dX8_packCode_20 hl (by decide) rfl (fun ls hl => ?_)
  refine lv_iload hx hb dX8_packCode_22 (lv_at hl 1 rfl) ?_
  refine lv_bipush (v := 15) hx hb dX8_packCode_24 (by decide) ?_
  refine lv_icmp_ge (tgt := 43) hx hb dX8_packCode_26 (by decide) (fun c19 => ?_) (fun c19 => ?_)
  · replace hf := (if_pos c19).symm.trans hf
    exact X8_packCode_43_W hC hQ hf hw (lv_sub hl [3, 5, 1, 0] rfl)
  · replace hf := (if_neg c19).symm.trans hf
    refine lv_aload_n hx hb dX8_packCode_29 rfl (lv_at hl 3 rfl) ?_
    obtain ⟨x13, h14, hf⟩ := ob_some hf
    refine rR_fl_X8_11 hC hw h14 dX8_packCode_30 ?_
    refine lv_iload hx hb dX8_packCode_33 (lv_at hl 1 rfl) ?_
    refine lv_dup2_11 hx hb dX8_packCode_35 rfl rfl ?_
    obtain ⟨x15, h16, hf⟩ := ob_some hf
    refine gg_aldJ hC hw h16 dX8_packCode_36 ?_
    refine lv_lload_n hx hb dX8_packCode_37 rfl (lv_at hl 5 rfl) ?_
    refine lv_iload hx hb dX8_packCode_38 (lv_at hl 0 rfl) ?_
    refine lv_lshl (v := glshl l2 ((l1 * x11) - (l1 * x11) / (64 : Int32) * (64 : Int32))) hx hb dX8_packCode_40 rfl ?_
    refine lv_lor hx hb dX8_packCode_41 ?_
    obtain ⟨σ17, h18, hf⟩ := ob_some hf
    refine gg_astJ hC hw h18 dX8_packCode_42 (fun H locs hw => ?_)
    exact X8_packCode_43_W hC hQ hf hw (lv_sub hl [3, 5, 1, 0] rfl)

def X8_packCode_f (E : gE) (l0 : Nat) (l1 : Int32) (l2 : Int64) (σ : gS) : Option gS := X8_packCode E l0 l1 l2 σ
set_option maxRecDepth 100000 in
theorem X8_packCode_M (l : Launch) (E : gE) (D : va_G) (A : Nat → Prop) {l0 : Nat} {l1 : Int32} {l2 : Int64} {σ : gS} {σz : gS} (hf : X8_packCode_f E l0 l1 l2 σ = some σz) : gCV l E D A yX8_packCode cX8_packCode 7 0 0 none [.ref l0, .int l1, .long l2] σ σz := by
  refine gg_entV (own := RX8) (nm := "packCode") (by decide +kernel) rfl rfl (Nat.le_of_ble_eq_true rfl) rfl ?_
  intro p e R s m args below meth c Q ls hC hw hQ hl
  have hl : lv_has ls 7 [(0, .ref l0), (1, .int l1), (2, .long l2)] := hl
  exact X8_packCode_W hC hQ hf hw hl

def X8_unpack_62 (E : gE) (σ : gS) (r_4 : Nat → Int32 → Int32 → Int32 → Option Int32) (l0 : Nat) (l1 : Int32) (l2 : Int32) (l3 : Int32) : Option Int32 :=
  r_4 l0 l1 l2 (l3 + 1)
set_option maxHeartbeats 4000000 in
set_option maxRecDepth 100000 in
theorem X8_unpack_62_W {σ : gS} {l0 : Nat} {l1 : Int32} {l2 : Int32} {l3 : Int32} {res : Int32} {ls : Array Slot} (hC : gC E D A p R s m args meth c cX8_unpack 6 RX8 "unpack" 0 0) (hQ : gQI E D A p l e R s m args below meth c Q cX8_unpack FieldType.int (res, σ)) {r_4 : Nat → Int32 → Int32 → Int32 → Option Int32} (h_4 : ∀ {l0 : Nat} {l1 : Int32} {l2 : Int32} {l3 : Int32} {H : Heap} {locs : List Loc} {cells slots : Nat} {ls : Array Slot}, r_4 l0 l1 l2 l3 = some res → gW E D A s σ H locs → lv_has ls 6 [(0, .ref l0), (1, .int l1), (2, .int l2), (3, .int l3)] → W p l e R s m args below meth c H locs cells slots Q (F0 m 4 ls [])) (hf : X8_unpack_62 E σ r_4 l0 l1 l2 l3 = some res) (hw : gW E D A s σ H locs) (hl : lv_has ls 6 [(0, .ref l0), (1, .int l1), (2, .int l2), (3, .int l3)]) : W p l e R s m args below meth c H locs cells slots Q (F0 m 62 ls []) := by
  have hC0 := hC
  obtain ⟨hx, hb, hml, hown, hts, -⟩ := hC0
  unfold X8_unpack_62 at hf
  refine lv_iinc (v := (l3 + 1)) (lv' := [(3, .int (l3 + 1)), (0, .ref l0), (1, .int l1), (2, .int l2)]) hx hb dX8_unpack_62 hl (k := 3) rfl rfl (by decide) rfl (fun ls hl => ?_)
  refine lv_goto (tgt := 4) hx hb dX8_unpack_65 (by decide) ?_
  exact h_4 hf hw (lv_sub hl [1, 2, 3, 0] rfl)

def X8_unpack_4_s (E : gE) (σ : gS) (r_4 : Nat → Int32 → Int32 → Int32 → Option Int32) (l0 : Nat) (l1 : Int32) (l2 : Int32) (l3 : Int32) : Option Int32 :=
  ob (gfI σ l0 6 1) fun x1 =>
  if x1 ≤ l3 then
    some l2
  else
    ob (gfI σ l0 6 1) fun x3 =>
    if (15 : Int32) ≤ (((l1 * x3) + l3) / (64 : Int32)) then
      X8_unpack_62 E σ r_4 l0 l1 l2 l3
    else
      ob (gfR σ l0 6 0) fun x5 =>
      ob (graJ E σ x5 (((l1 * x3) + l3) / (64 : Int32))) fun x7 =>
      if (lg_cmp ((glushr x7 (((l1 * x3) + l3) - ((l1 * x3) + l3) / (64 : Int32) * (64 : Int32))) &&& (1 : Int64)) (1 : Int64)) = 0 then
        X8_unpack_62 E σ r_4 l0 l1 (l2 ||| ((1 : Int32) <<< (l3 &&& 31))) l3
      else
        X8_unpack_62 E σ r_4 l0 l1 l2 l3
set_option maxHeartbeats 4000000 in
set_option maxRecDepth 100000 in
theorem X8_unpack_4_s_W {σ : gS} {l0 : Nat} {l1 : Int32} {l2 : Int32} {l3 : Int32} {res : Int32} {ls : Array Slot} (hC : gC E D A p R s m args meth c cX8_unpack 6 RX8 "unpack" 0 0) (hQ : gQI E D A p l e R s m args below meth c Q cX8_unpack FieldType.int (res, σ)) {r_4 : Nat → Int32 → Int32 → Int32 → Option Int32} (h_4 : ∀ {l0 : Nat} {l1 : Int32} {l2 : Int32} {l3 : Int32} {H : Heap} {locs : List Loc} {cells slots : Nat} {ls : Array Slot}, r_4 l0 l1 l2 l3 = some res → gW E D A s σ H locs → lv_has ls 6 [(0, .ref l0), (1, .int l1), (2, .int l2), (3, .int l3)] → W p l e R s m args below meth c H locs cells slots Q (F0 m 4 ls [])) (hf : X8_unpack_4_s E σ r_4 l0 l1 l2 l3 = some res) (hw : gW E D A s σ H locs) (hl : lv_has ls 6 [(0, .ref l0), (1, .int l1), (2, .int l2), (3, .int l3)]) : W p l e R s m args below meth c H locs cells slots Q (F0 m 4 ls []) := by
  have hC0 := hC
  obtain ⟨hx, hb, hml, hown, hts, -⟩ := hC0
  unfold X8_unpack_4_s at hf
  refine lv_iload_n hx hb dX8_unpack_4 rfl (lv_at hl 3 rfl) ?_
  refine lv_aload_n hx hb dX8_unpack_5 rfl (lv_at hl 0 rfl) ?_
  obtain ⟨x1, h2, hf⟩ := ob_some hf
  refine rI_fl_X8_33 hC hw h2 dX8_unpack_6 ?_
  refine lv_icmp_ge (tgt := 68) hx hb dX8_unpack_9 (by decide) (fun c11 => ?_) (fun c11 => ?_)
  · replace hf := (if_pos c11).symm.trans hf
    refine lv_iload_n hx hb dX8_unpack_68 rfl (lv_at hl 2 rfl) ?_
    cases hf
    exact hQ _ _ _ _ _ _ dX8_unpack_69 rfl hw
  · replace hf := (if_neg c11).symm.trans hf
    refine lv_iload_n hx hb dX8_unpack_12 rfl (lv_at hl 1 rfl) ?_
    refine lv_aload_n hx hb dX8_unpack_13 rfl (lv_at hl 0 rfl) ?_
    obtain ⟨x3, h4, hf⟩ := ob_some hf
    refine rI_fl_X8_33 hC hw h4 dX8_unpack_14 ?_
    refine lv_imul hx hb dX8_unpack_17 ?_
    refine lv_iload_n hx hb dX8_unpack_18 rfl (lv_at hl 3 rfl) ?_
    refine lv_iadd hx hb dX8_unpack_19 ?_
    refine lv_istore (lv' := [(4, .int ((l1 * x3) + l3)), (0, .ref l0), (1, .int l1), (2, .int l2), (3, .int l3)]) hx hb dX8_unpack_20 hl (by decide) rfl (fun ls hl => ?_)
    refine lv_iload hx hb dX8_unpack_22 (lv_at hl 0 rfl) ?_
    refine lv_bipush (v := 64) hx hb dX8_unpack_24 (by decide) ?_
    refine lv_idiv hx hb dX8_unpack_26 (by decide) ?_
    refine lv_istore (lv' := [(5, .int (((l1 * x3) + l3) / (64 : Int32))), (4, .int ((l1 * x3) + l3)), (0, .ref l0), (1, .int l1), (2, .int l2), (3, .int l3)]) hx hb dX8_unpack_27 hl (by decide) rfl (fun ls hl => ?_)
    refine lv_iload hx hb dX8_unpack_29 (lv_at hl 0 rfl) ?_
    refine lv_bipush (v := 15) hx hb dX8_unpack_31 (by decide) ?_
    refine lv_icmp_ge (tgt := 62) hx hb dX8_unpack_33 (by decide) (fun c10 => ?_) (fun c10 => ?_)
    · replace hf := (if_pos c10).symm.trans hf
      exact X8_unpack_62_W hC hQ h_4 hf hw (lv_sub hl [2, 3, 4, 5] rfl)
    · replace hf := (if_neg c10).symm.trans hf
      refine lv_aload_n hx hb dX8_unpack_36 rfl (lv_at hl 2 rfl) ?_
      obtain ⟨x5, h6, hf⟩ := ob_some hf
      refine rR_fl_X8_11 hC hw h6 dX8_unpack_37 ?_
      refine lv_iload hx hb dX8_unpack_40 (lv_at hl 0 rfl) ?_
      obtain ⟨x7, h8, hf⟩ := ob_some hf
      refine gg_aldJ hC hw h8 dX8_unpack_42 ?_
      refine lv_iload hx hb dX8_unpack_43 (lv_at hl 1 rfl) ?_
      refine lv_bipush (v := 64) hx hb dX8_unpack_45 (by decide) ?_
      refine lv_irem hx hb dX8_unpack_47 (by decide) ?_
      refine lv_lushr (v := glushr x7 (((l1 * x3) + l3) - ((l1 * x3) + l3) / (64 : Int32) * (64 : Int32))) hx hb dX8_unpack_48 rfl ?_
      refine lv_lconst (v := 1) hx hb dX8_unpack_49 (by decide) ?_
      refine lv_land hx hb dX8_unpack_50 ?_
      refine lv_lconst (v := 1) hx hb dX8_unpack_51 (by decide) ?_
      refine W.lcmp hx hb dX8_unpack_52 ?_
      refine lv_if_ne (tgt := 62) hx hb dX8_unpack_53 (by decide) (fun c9 => ?_) (fun c9 => ?_)
      · replace hf := (if_neg c9).symm.trans hf
        exact X8_unpack_62_W hC hQ h_4 hf hw (lv_sub hl [2, 3, 4, 5] rfl)
      · replace hf := (if_pos c9).symm.trans hf
        refine lv_iload_n hx hb dX8_unpack_56 rfl (lv_at hl 4 rfl) ?_
        refine lv_iconst (v := 1) hx hb dX8_unpack_57 (by decide) ?_
        refine lv_iload_n hx hb dX8_unpack_58 rfl (lv_at hl 5 rfl) ?_
        refine lv_ishl hx hb dX8_unpack_59 ?_
        refine lv_ior hx hb dX8_unpack_60 ?_
        refine lv_istore_n (lv' := [(2, .int (l2 ||| ((1 : Int32) <<< (l3 &&& 31)))), (5, .int (((l1 * x3) + l3) / (64 : Int32))), (4, .int ((l1 * x3) + l3)), (0, .ref l0), (1, .int l1), (3, .int l3)]) hx hb dX8_unpack_61 rfl hl (by decide) rfl (fun ls hl => ?_)
        exact X8_unpack_62_W hC hQ h_4 hf hw (lv_sub hl [3, 4, 0, 5] rfl)
def X8_unpack_4 (E : gE) (σ : gS) : Nat → Nat → Int32 → Int32 → Int32 → Option Int32
  | 0 => fun _ _ _ _ => none
  | n + 1 => X8_unpack_4_s E σ (X8_unpack_4 E σ n)
theorem X8_unpack_4_W {σ : gS} {res : Int32} (hC : gC E D A p R s m args meth c cX8_unpack 6 RX8 "unpack" 0 0) (hQ : gQI E D A p l e R s m args below meth c Q cX8_unpack FieldType.int (res, σ)) : ∀ (n : Nat), ∀ {l0 : Nat} {l1 : Int32} {l2 : Int32} {l3 : Int32} {H : Heap} {locs : List Loc} {cells slots : Nat} {ls : Array Slot}, X8_unpack_4 E σ n l0 l1 l2 l3 = some res → gW E D A s σ H locs → lv_has ls 6 [(0, .ref l0), (1, .int l1), (2, .int l2), (3, .int l3)] → W p l e R s m args below meth c H locs cells slots Q (F0 m 4 ls []) := by
  intro n
  induction n with
  | zero =>
    intros
    rename_i hf _ _
    exact absurd hf (fun h => by cases (show (none : Option Int32) = some res from h))
  | succ n ih =>
    intros
    rename_i hf hw hl
    exact X8_unpack_4_s_W hC hQ ih hf hw hl

def X8_unpack (E : gE) (σ : gS) (l0 : Nat) (l1 : Int32) : Option Int32 :=
  X8_unpack_4 E σ (gN E) l0 l1 (0 : Int32) (0 : Int32)
set_option maxHeartbeats 4000000 in
set_option maxRecDepth 100000 in
theorem X8_unpack_W {σ : gS} {l0 : Nat} {l1 : Int32} {res : Int32} {ls : Array Slot} (hC : gC E D A p R s m args meth c cX8_unpack 6 RX8 "unpack" 0 0) (hQ : gQI E D A p l e R s m args below meth c Q cX8_unpack FieldType.int (res, σ)) (hf : X8_unpack E σ l0 l1 = some res) (hw : gW E D A s σ H locs) (hl : lv_has ls 6 [(0, .ref l0), (1, .int l1)]) : W p l e R s m args below meth c H locs cells slots Q (F0 m 0 ls []) := by
  have hC0 := hC
  obtain ⟨hx, hb, hml, hown, hts, -⟩ := hC0
  unfold X8_unpack at hf
  refine lv_iconst (v := 0) hx hb dX8_unpack_0 (by decide) ?_
  refine lv_istore_n (lv' := [(2, .int (0 : Int32)), (0, .ref l0), (1, .int l1)]) hx hb dX8_unpack_1 rfl hl (by decide) rfl (fun ls hl => ?_)
  refine lv_iconst (v := 0) hx hb dX8_unpack_2 (by decide) ?_
  refine lv_istore_n (lv' := [(3, .int (0 : Int32)), (2, .int (0 : Int32)), (0, .ref l0), (1, .int l1)]) hx hb dX8_unpack_3 rfl hl (by decide) rfl (fun ls hl => ?_)
  exact X8_unpack_4_W hC hQ (gN E) hf hw (lv_sub hl [2, 3, 1, 0] rfl)

def X8_unpack_f (E : gE) (σ : gS) (l0 : Nat) (l1 : Int32) : Option Int32 := X8_unpack E σ l0 l1
set_option maxRecDepth 100000 in
theorem X8_unpack_M (l : Launch) (E : gE) (D : va_G) (A : Nat → Prop) {l0 : Nat} {l1 : Int32} {σ : gS} {res : Int32} (hf : X8_unpack_f E σ l0 l1 = some res) : gCI l E D A yX8_unpack cX8_unpack 6 0 0 (some FieldType.int) [.ref l0, .int l1] σ (res, σ) := by
  refine gg_entI (own := RX8) (nm := "unpack") (ty := FieldType.int) (by decide +kernel) rfl rfl (Nat.le_of_ble_eq_true rfl) rfl ?_
  intro p e R s m args below meth c Q ls hC hw hQ hl
  have hl : lv_has ls 6 [(0, .ref l0), (1, .int l1)] := hl
  exact X8_unpack_W hC hQ hf hw hl

def X8_word (E : gE) (σ : gS) (l0 : Nat) (l1 : Int32) : Option Int64 :=
  ob (gfR σ l0 6 0) fun x1 =>
  ob (graJ E σ x1 l1) fun x3 =>
  some x3
set_option maxHeartbeats 4000000 in
set_option maxRecDepth 100000 in
theorem X8_word_W {σ : gS} {l0 : Nat} {l1 : Int32} {res : Int64} {ls : Array Slot} (hC : gC E D A p R s m args meth c cX8_word 2 RX8 "word" 0 0) (hQ : gQJ E D A p l e R s m args below meth c Q cX8_word (res, σ)) (hf : X8_word E σ l0 l1 = some res) (hw : gW E D A s σ H locs) (hl : lv_has ls 2 [(0, .ref l0), (1, .int l1)]) : W p l e R s m args below meth c H locs cells slots Q (F0 m 0 ls []) := by
  have hC0 := hC
  obtain ⟨hx, hb, hml, hown, hts, -⟩ := hC0
  unfold X8_word at hf
  refine lv_aload_n hx hb dX8_word_0 rfl (lv_at hl 0 rfl) ?_
  obtain ⟨x1, h2, hf⟩ := ob_some hf
  refine rR_fl_X8_11 hC hw h2 dX8_word_1 ?_
  refine lv_iload_n hx hb dX8_word_4 rfl (lv_at hl 1 rfl) ?_
  obtain ⟨x3, h4, hf⟩ := ob_some hf
  refine gg_aldJ hC hw h4 dX8_word_5 ?_
  cases hf
  exact hQ _ _ _ _ _ _ dX8_word_6 hw

def X8_word_f (E : gE) (σ : gS) (l0 : Nat) (l1 : Int32) : Option Int64 := X8_word E σ l0 l1
set_option maxRecDepth 100000 in
theorem X8_word_M (l : Launch) (E : gE) (D : va_G) (A : Nat → Prop) {l0 : Nat} {l1 : Int32} {σ : gS} {res : Int64} (hf : X8_word_f E σ l0 l1 = some res) : gCJ l E D A yX8_word cX8_word 2 0 0 (some FieldType.long) [.ref l0, .int l1] σ (res, σ) := by
  refine gg_entJ (own := RX8) (nm := "word") (by decide +kernel) rfl rfl (Nat.le_of_ble_eq_true rfl) rfl ?_
  intro p e R s m args below meth c Q ls hC hw hQ hl
  have hl : lv_has ls 2 [(0, .ref l0), (1, .int l1)] := hl
  exact X8_word_W hC hQ hf hw hl

def X10_init (E : gE) (l0 : Nat) (σ : gS) : Option gS :=
  ob (gnaI E σ (60 : Int32)) fun q1 =>
  ob (gpf E q1.2 l0 8 0 (.ref q1.1)) fun σ3 =>
  ob (gnaI E σ3 (60 : Int32)) fun q5 =>
  ob (gpf E q5.2 l0 8 1 (.ref q5.1)) fun σ7 =>
  some σ7
set_option maxHeartbeats 4000000 in
set_option maxRecDepth 100000 in
theorem X10_init_W {σ : gS} {l0 : Nat} {σz : gS} {ls : Array Slot} (hC : gC E D A p R s m args meth c cX10_init 1 RX10 "<init>" 3 80) (hQ : gQV E D A p l e R s m args below meth c Q cX10_init σz) (hf : X10_init E l0 σ = some σz) (hw : gW E D A s σ H locs) (hl : lv_has ls 1 [(0, .ref l0)]) : W p l e R s m args below meth c H locs cells slots Q (F0 m 0 ls []) := by
  have hC0 := hC
  obtain ⟨hx, hb, hml, hown, hts, -⟩ := hC0
  unfold X10_init at hf
  refine lv_aload_n hx hb dX10_init_0 rfl (lv_at hl 0 rfl) ?_
  refine gg_obj hC rfl (hts _ ml_X10_3) hl.1 (Nat.le_of_ble_eq_true rfl) dX10_init_1 (Nat.le_of_ble_eq_true rfl) (Nat.le_of_ble_eq_true rfl) ?_
  refine lv_aload_n hx hb dX10_init_4 rfl (lv_at hl 0 rfl) ?_
  refine lv_bipush (v := 60) hx hb dX10_init_5 (by decide) ?_
  obtain ⟨q1, h2, hf⟩ := ob_some hf
  refine gg_naI hC hw h2 dX10_init_7 (fun H locs cells slots hw => ?_)
  obtain ⟨σ3, h4, hf⟩ := ob_some hf
  refine pF_fl_X10_9 hC hw h4 rfl rfl dX10_init_9 (fun H locs hw => ?_)
  refine lv_aload_n hx hb dX10_init_12 rfl (lv_at hl 0 rfl) ?_
  refine lv_bipush (v := 60) hx hb dX10_init_13 (by decide) ?_
  obtain ⟨q5, h6, hf⟩ := ob_some hf
  refine gg_naI hC hw h6 dX10_init_15 (fun H locs cells slots hw => ?_)
  obtain ⟨σ7, h8, hf⟩ := ob_some hf
  refine pF_fl_X10_15 hC hw h8 rfl rfl dX10_init_17 (fun H locs hw => ?_)
  cases hf
  exact hQ _ _ _ _ _ _ dX10_init_20 hw

def X10_init_f (E : gE) (l0 : Nat) (σ : gS) : Option gS := X10_init E l0 σ
set_option maxRecDepth 100000 in
theorem X10_init_M (l : Launch) (E : gE) (D : va_G) (A : Nat → Prop) {l0 : Nat} {σ : gS} {σz : gS} (hf : X10_init_f E l0 σ = some σz) : gCV l E D A yX10_init cX10_init 1 3 80 none [.ref l0] σ σz := by
  refine gg_entV (own := RX10) (nm := "<init>") (by decide +kernel) rfl rfl (Nat.le_of_ble_eq_true rfl) rfl ?_
  intro p e R s m args below meth c Q ls hC hw hQ hl
  have hl : lv_has ls 1 [(0, .ref l0)] := hl
  exact X10_init_W hC hQ hf hw hl

def X10_reset_7_s (E : gE) (r_7 : Nat → Int32 → gS → Option gS) (l0 : Nat) (l2 : Int32) (σ : gS) : Option gS :=
  ob (gfI σ l0 8 2) fun x1 =>
  if x1 ≤ l2 then
    some σ
  else
    ob (gfR σ l0 8 0) fun x3 =>
    ob (gwaI E σ x3 l2 l2) fun σ5 =>
    r_7 l0 (l2 + 1) σ5
set_option maxHeartbeats 4000000 in
set_option maxRecDepth 100000 in
theorem X10_reset_7_s_W {σ : gS} {l0 : Nat} {l2 : Int32} {σz : gS} {ls : Array Slot} (hC : gC E D A p R s m args meth c cX10_reset 3 RX10 "reset" 0 0) (hQ : gQV E D A p l e R s m args below meth c Q cX10_reset σz) {r_7 : Nat → Int32 → gS → Option gS} (h_7 : ∀ {l0 : Nat} {l2 : Int32} {σ : gS} {H : Heap} {locs : List Loc} {cells slots : Nat} {ls : Array Slot}, r_7 l0 l2 σ = some σz → gW E D A s σ H locs → lv_has ls 3 [(0, .ref l0), (2, .int l2)] → W p l e R s m args below meth c H locs cells slots Q (F0 m 7 ls [])) (hf : X10_reset_7_s E r_7 l0 l2 σ = some σz) (hw : gW E D A s σ H locs) (hl : lv_has ls 3 [(0, .ref l0), (2, .int l2)]) : W p l e R s m args below meth c H locs cells slots Q (F0 m 7 ls []) := by
  have hC0 := hC
  obtain ⟨hx, hb, hml, hown, hts, -⟩ := hC0
  unfold X10_reset_7_s at hf
  refine lv_iload_n hx hb dX10_reset_7 rfl (lv_at hl 1 rfl) ?_
  refine lv_aload_n hx hb dX10_reset_8 rfl (lv_at hl 0 rfl) ?_
  obtain ⟨x1, h2, hf⟩ := ob_some hf
  refine rI_fl_X10_18 hC hw h2 dX10_reset_9 ?_
  refine lv_icmp_ge (tgt := 28) hx hb dX10_reset_12 (by decide) (fun c7 => ?_) (fun c7 => ?_)
  · replace hf := (if_pos c7).symm.trans hf
    cases hf
    exact hQ _ _ _ _ _ _ dX10_reset_28 hw
  · replace hf := (if_neg c7).symm.trans hf
    refine lv_aload_n hx hb dX10_reset_15 rfl (lv_at hl 0 rfl) ?_
    obtain ⟨x3, h4, hf⟩ := ob_some hf
    refine rR_fl_X10_9 hC hw h4 dX10_reset_16 ?_
    refine lv_iload_n hx hb dX10_reset_19 rfl (lv_at hl 1 rfl) ?_
    refine lv_iload_n hx hb dX10_reset_20 rfl (lv_at hl 1 rfl) ?_
    obtain ⟨σ5, h6, hf⟩ := ob_some hf
    refine gg_astI hC hw h6 dX10_reset_21 (fun H locs hw => ?_)
    refine lv_iinc (v := (l2 + 1)) (lv' := [(2, .int (l2 + 1)), (0, .ref l0)]) hx hb dX10_reset_22 hl (k := 1) rfl rfl (by decide) rfl (fun ls hl => ?_)
    refine lv_goto (tgt := 7) hx hb dX10_reset_25 (by decide) ?_
    exact h_7 hf hw (lv_sub hl [1, 0] rfl)
def X10_reset_7 (E : gE) : Nat → Nat → Int32 → gS → Option gS
  | 0 => fun _ _ _ => none
  | n + 1 => X10_reset_7_s E (X10_reset_7 E n)
theorem X10_reset_7_W {σz : gS} (hC : gC E D A p R s m args meth c cX10_reset 3 RX10 "reset" 0 0) (hQ : gQV E D A p l e R s m args below meth c Q cX10_reset σz) : ∀ (n : Nat), ∀ {l0 : Nat} {l2 : Int32} {σ : gS} {H : Heap} {locs : List Loc} {cells slots : Nat} {ls : Array Slot}, X10_reset_7 E n l0 l2 σ = some σz → gW E D A s σ H locs → lv_has ls 3 [(0, .ref l0), (2, .int l2)] → W p l e R s m args below meth c H locs cells slots Q (F0 m 7 ls []) := by
  intro n
  induction n with
  | zero =>
    intros
    rename_i hf _ _
    exact absurd hf (fun h => by cases (show (none : Option gS) = some σz from h))
  | succ n ih =>
    intros
    rename_i hf hw hl
    exact X10_reset_7_s_W hC hQ ih hf hw hl

def X10_reset (E : gE) (l0 : Nat) (l1 : Int32) (σ : gS) : Option gS :=
  ob (gpf E σ l0 8 2 (.int l1)) fun σ8 =>
  X10_reset_7 E (gN E) l0 (0 : Int32) σ8
set_option maxHeartbeats 4000000 in
set_option maxRecDepth 100000 in
theorem X10_reset_W {σ : gS} {l0 : Nat} {l1 : Int32} {σz : gS} {ls : Array Slot} (hC : gC E D A p R s m args meth c cX10_reset 3 RX10 "reset" 0 0) (hQ : gQV E D A p l e R s m args below meth c Q cX10_reset σz) (hf : X10_reset E l0 l1 σ = some σz) (hw : gW E D A s σ H locs) (hl : lv_has ls 3 [(0, .ref l0), (1, .int l1)]) : W p l e R s m args below meth c H locs cells slots Q (F0 m 0 ls []) := by
  have hC0 := hC
  obtain ⟨hx, hb, hml, hown, hts, -⟩ := hC0
  unfold X10_reset at hf
  refine lv_aload_n hx hb dX10_reset_0 rfl (lv_at hl 0 rfl) ?_
  refine lv_iload_n hx hb dX10_reset_1 rfl (lv_at hl 1 rfl) ?_
  obtain ⟨σ8, h9, hf⟩ := ob_some hf
  refine p_fl_X10_18 hC hw h9 rfl rfl dX10_reset_2 (fun H locs hw => ?_)
  refine lv_iconst (v := 0) hx hb dX10_reset_5 (by decide) ?_
  refine lv_istore_n (lv' := [(2, .int (0 : Int32)), (0, .ref l0), (1, .int l1)]) hx hb dX10_reset_6 rfl hl (by decide) rfl (fun ls hl => ?_)
  exact X10_reset_7_W hC hQ (gN E) hf hw (lv_sub hl [1, 0] rfl)

def X10_reset_f (E : gE) (l0 : Nat) (l1 : Int32) (σ : gS) : Option gS := X10_reset E l0 l1 σ
set_option maxRecDepth 100000 in
theorem X10_reset_M (l : Launch) (E : gE) (D : va_G) (A : Nat → Prop) {l0 : Nat} {l1 : Int32} {σ : gS} {σz : gS} (hf : X10_reset_f E l0 l1 σ = some σz) : gCV l E D A yX10_reset cX10_reset 3 0 0 none [.ref l0, .int l1] σ σz := by
  refine gg_entV (own := RX10) (nm := "reset") (by decide +kernel) rfl rfl (Nat.le_of_ble_eq_true rfl) rfl ?_
  intro p e R s m args below meth c Q ls hC hw hQ hl
  have hl : lv_has ls 3 [(0, .ref l0), (1, .int l1)] := hl
  exact X10_reset_W hC hQ hf hw hl

def X10_isWrong (E : gE) (σ : gS) (l0 : Int32) (l1 : Int32) (l2 : Int32) : Option Int32 :=
  if l2 = 0 then
    if l1 ≤ l0 then
      some (0 : Int32)
    else
      some (1 : Int32)
  else
    if l0 ≤ l1 then
      some (0 : Int32)
    else
      some (1 : Int32)
set_option maxHeartbeats 4000000 in
set_option maxRecDepth 100000 in
theorem X10_isWrong_W {σ : gS} {l0 : Int32} {l1 : Int32} {l2 : Int32} {res : Int32} {ls : Array Slot} (hC : gC E D A p R s m args meth c cX10_isWrong 3 RX10 "isWrong" 0 0) (hQ : gQI E D A p l e R s m args below meth c Q cX10_isWrong FieldType.boolean (res, σ)) (hf : X10_isWrong E σ l0 l1 l2 = some res) (hw : gW E D A s σ H locs) (hl : lv_has ls 3 [(0, .int l0), (1, .int l1), (2, .int l2)]) : W p l e R s m args below meth c H locs cells slots Q (F0 m 0 ls []) := by
  have hC0 := hC
  obtain ⟨hx, hb, hml, hown, hts, -⟩ := hC0
  unfold X10_isWrong at hf
  refine lv_iload_n hx hb dX10_isWrong_0 rfl (lv_at hl 2 rfl) ?_
  refine lv_if_eq (tgt := 17) hx hb dX10_isWrong_1 (by decide) (fun c3 => ?_) (fun c3 => ?_)
  · replace hf := (if_pos c3).symm.trans hf
    refine lv_iload_n hx hb dX10_isWrong_17 rfl (lv_at hl 0 rfl) ?_
    refine lv_iload_n hx hb dX10_isWrong_18 rfl (lv_at hl 1 rfl) ?_
    refine lv_icmp_ge (tgt := 26) hx hb dX10_isWrong_19 (by decide) (fun c1 => ?_) (fun c1 => ?_)
    · replace hf := (if_pos c1).symm.trans hf
      refine lv_iconst (v := 0) hx hb dX10_isWrong_26 (by decide) ?_
      cases hf
      exact hQ _ _ _ _ _ _ dX10_isWrong_27 gz0 hw
    · replace hf := (if_neg c1).symm.trans hf
      refine lv_iconst (v := 1) hx hb dX10_isWrong_22 (by decide) ?_
      refine lv_goto (tgt := 27) hx hb dX10_isWrong_23 (by decide) ?_
      cases hf
      exact hQ _ _ _ _ _ _ dX10_isWrong_27 gz1 hw
  · replace hf := (if_neg c3).symm.trans hf
    refine lv_iload_n hx hb dX10_isWrong_4 rfl (lv_at hl 0 rfl) ?_
    refine lv_iload_n hx hb dX10_isWrong_5 rfl (lv_at hl 1 rfl) ?_
    refine lv_icmp_le (tgt := 13) hx hb dX10_isWrong_6 (by decide) (fun c2 => ?_) (fun c2 => ?_)
    · replace hf := (if_pos c2).symm.trans hf
      refine lv_iconst (v := 0) hx hb dX10_isWrong_13 (by decide) ?_
      refine lv_goto (tgt := 27) hx hb dX10_isWrong_14 (by decide) ?_
      cases hf
      exact hQ _ _ _ _ _ _ dX10_isWrong_27 gz0 hw
    · replace hf := (if_neg c2).symm.trans hf
      refine lv_iconst (v := 1) hx hb dX10_isWrong_9 (by decide) ?_
      refine lv_goto (tgt := 27) hx hb dX10_isWrong_10 (by decide) ?_
      cases hf
      exact hQ _ _ _ _ _ _ dX10_isWrong_27 gz1 hw

def X10_isWrong_f (E : gE) (σ : gS) (l0 : Int32) (l1 : Int32) (l2 : Int32) : Option Int32 := X10_isWrong E σ l0 l1 l2
set_option maxRecDepth 100000 in
theorem X10_isWrong_M (l : Launch) (E : gE) (D : va_G) (A : Nat → Prop) {l0 : Int32} {l1 : Int32} {l2 : Int32} {σ : gS} {res : Int32} (hf : X10_isWrong_f E σ l0 l1 l2 = some res) : gCI l E D A yX10_isWrong cX10_isWrong 3 0 0 (some FieldType.boolean) [.int l0, .int l1, .int l2] σ (res, σ) := by
  refine gg_entI (own := RX10) (nm := "isWrong") (ty := FieldType.boolean) (by decide +kernel) rfl rfl (Nat.le_of_ble_eq_true rfl) rfl ?_
  intro p e R s m args below meth c Q ls hC hw hQ hl
  have hl : lv_has ls 3 [(0, .int l0), (1, .int l1), (2, .int l2)] := hl
  exact X10_isWrong_W hC hQ hf hw hl

def X10_source (E : gE) (σ : gS) (l0 : Nat) (l1 : Int32) : Option Int32 :=
  ob (gfR σ l0 8 0) fun x1 =>
  ob (graI E 0 σ x1 l1) fun x3 =>
  some x3
set_option maxHeartbeats 4000000 in
set_option maxRecDepth 100000 in
theorem X10_source_W {σ : gS} {l0 : Nat} {l1 : Int32} {res : Int32} {ls : Array Slot} (hC : gC E D A p R s m args meth c cX10_source 2 RX10 "source" 0 0) (hQ : gQI E D A p l e R s m args below meth c Q cX10_source FieldType.int (res, σ)) (hf : X10_source E σ l0 l1 = some res) (hw : gW E D A s σ H locs) (hl : lv_has ls 2 [(0, .ref l0), (1, .int l1)]) : W p l e R s m args below meth c H locs cells slots Q (F0 m 0 ls []) := by
  have hC0 := hC
  obtain ⟨hx, hb, hml, hown, hts, -⟩ := hC0
  unfold X10_source at hf
  refine lv_aload_n hx hb dX10_source_0 rfl (lv_at hl 0 rfl) ?_
  obtain ⟨x1, h2, hf⟩ := ob_some hf
  refine rR_fl_X10_9 hC hw h2 dX10_source_1 ?_
  refine lv_iload_n hx hb dX10_source_4 rfl (lv_at hl 1 rfl) ?_
  obtain ⟨x3, h4, hf⟩ := ob_some hf
  refine gg_aldI hC hw h4 dX10_source_5 ?_
  cases hf
  exact hQ _ _ _ _ _ _ dX10_source_6 rfl hw

def X10_source_f (E : gE) (σ : gS) (l0 : Nat) (l1 : Int32) : Option Int32 := X10_source E σ l0 l1
set_option maxRecDepth 100000 in
theorem X10_source_M (l : Launch) (E : gE) (D : va_G) (A : Nat → Prop) {l0 : Nat} {l1 : Int32} {σ : gS} {res : Int32} (hf : X10_source_f E σ l0 l1 = some res) : gCI l E D A yX10_source cX10_source 2 0 0 (some FieldType.int) [.ref l0, .int l1] σ (res, σ) := by
  refine gg_entI (own := RX10) (nm := "source") (ty := FieldType.int) (by decide +kernel) rfl rfl (Nat.le_of_ble_eq_true rfl) rfl ?_
  intro p e R s m args below meth c Q ls hC hw hQ hl
  have hl : lv_has ls 2 [(0, .ref l0), (1, .int l1)] := hl
  exact X10_source_W hC hQ hf hw hl

def X10_applyTo_2_s (E : gE) (r_2 : Nat → Nat → Int32 → gS → Option gS) (l0 : Nat) (l1 : Nat) (l2 : Int32) (σ : gS) : Option gS :=
  ob (gfI σ l0 8 2) fun x1 =>
  if x1 ≤ l2 then
    ob (gfR σ l0 8 1) fun x3 =>
    ob (gfI σ l0 8 2) fun x5 =>
    ob (gcopy E σ x3 (0 : Int32) l1 (0 : Int32) x5) fun x7 =>
    some x7
  else
    ob (gfR σ l0 8 1) fun x9 =>
    ob (gfR σ l0 8 0) fun x11 =>
    ob (graI E 0 σ x11 l2) fun x13 =>
    ob (graI E 0 σ l1 x13) fun x15 =>
    ob (gwaI E σ x9 l2 x15) fun σ17 =>
    r_2 l0 l1 (l2 + 1) σ17
set_option maxHeartbeats 4000000 in
set_option maxRecDepth 100000 in
theorem X10_applyTo_2_s_W {σ : gS} {l0 : Nat} {l1 : Nat} {l2 : Int32} {σz : gS} {ls : Array Slot} (hC : gC E D A p R s m args meth c cX10_applyTo 3 RX10 "applyTo" 3 80) (hQ : gQV E D A p l e R s m args below meth c Q cX10_applyTo σz) {r_2 : Nat → Nat → Int32 → gS → Option gS} (h_2 : ∀ {l0 : Nat} {l1 : Nat} {l2 : Int32} {σ : gS} {H : Heap} {locs : List Loc} {cells slots : Nat} {ls : Array Slot}, r_2 l0 l1 l2 σ = some σz → gW E D A s σ H locs → lv_has ls 3 [(0, .ref l0), (1, .ref l1), (2, .int l2)] → W p l e R s m args below meth c H locs cells slots Q (F0 m 2 ls [])) (hf : X10_applyTo_2_s E r_2 l0 l1 l2 σ = some σz) (hw : gW E D A s σ H locs) (hl : lv_has ls 3 [(0, .ref l0), (1, .ref l1), (2, .int l2)]) : W p l e R s m args below meth c H locs cells slots Q (F0 m 2 ls []) := by
  have hC0 := hC
  obtain ⟨hx, hb, hml, hown, hts, -⟩ := hC0
  unfold X10_applyTo_2_s at hf
  refine lv_iload_n hx hb dX10_applyTo_2 rfl (lv_at hl 2 rfl) ?_
  refine lv_aload_n hx hb dX10_applyTo_3 rfl (lv_at hl 0 rfl) ?_
  obtain ⟨x1, h2, hf⟩ := ob_some hf
  refine rI_fl_X10_18 hC hw h2 dX10_applyTo_4 ?_
  refine lv_icmp_ge (tgt := 30) hx hb dX10_applyTo_7 (by decide) (fun c19 => ?_) (fun c19 => ?_)
  · replace hf := (if_pos c19).symm.trans hf
    refine lv_aload_n hx hb dX10_applyTo_30 rfl (lv_at hl 0 rfl) ?_
    obtain ⟨x3, h4, hf⟩ := ob_some hf
    refine rR_fl_X10_15 hC hw h4 dX10_applyTo_31 ?_
    refine lv_iconst (v := 0) hx hb dX10_applyTo_34 (by decide) ?_
    refine lv_aload_n hx hb dX10_applyTo_35 rfl (lv_at hl 1 rfl) ?_
    refine lv_iconst (v := 0) hx hb dX10_applyTo_36 (by decide) ?_
    refine lv_aload_n hx hb dX10_applyTo_37 rfl (lv_at hl 0 rfl) ?_
    obtain ⟨x5, h6, hf⟩ := ob_some hf
    refine rI_fl_X10_18 hC hw h6 dX10_applyTo_38 ?_
    obtain ⟨x7, h8, hf⟩ := ob_some hf
    refine gg_copy hC hw h8 ml_X10_39 hl.1 rfl (Nat.le_of_ble_eq_true rfl) (Nat.le_of_ble_eq_true rfl) (Nat.le_of_ble_eq_true rfl) dX10_applyTo_41 (fun H locs hw => ?_)
    cases hf
    exact hQ _ _ _ _ _ _ dX10_applyTo_44 hw
  · replace hf := (if_neg c19).symm.trans hf
    refine lv_aload_n hx hb dX10_applyTo_10 rfl (lv_at hl 0 rfl) ?_
    obtain ⟨x9, h10, hf⟩ := ob_some hf
    refine rR_fl_X10_15 hC hw h10 dX10_applyTo_11 ?_
    refine lv_iload_n hx hb dX10_applyTo_14 rfl (lv_at hl 2 rfl) ?_
    refine lv_aload_n hx hb dX10_applyTo_15 rfl (lv_at hl 1 rfl) ?_
    refine lv_aload_n hx hb dX10_applyTo_16 rfl (lv_at hl 0 rfl) ?_
    obtain ⟨x11, h12, hf⟩ := ob_some hf
    refine rR_fl_X10_9 hC hw h12 dX10_applyTo_17 ?_
    refine lv_iload_n hx hb dX10_applyTo_20 rfl (lv_at hl 2 rfl) ?_
    obtain ⟨x13, h14, hf⟩ := ob_some hf
    refine gg_aldI hC hw h14 dX10_applyTo_21 ?_
    obtain ⟨x15, h16, hf⟩ := ob_some hf
    refine gg_aldI hC hw h16 dX10_applyTo_22 ?_
    obtain ⟨σ17, h18, hf⟩ := ob_some hf
    refine gg_astI hC hw h18 dX10_applyTo_23 (fun H locs hw => ?_)
    refine lv_iinc (v := (l2 + 1)) (lv' := [(2, .int (l2 + 1)), (0, .ref l0), (1, .ref l1)]) hx hb dX10_applyTo_24 hl (k := 2) rfl rfl (by decide) rfl (fun ls hl => ?_)
    refine lv_goto (tgt := 2) hx hb dX10_applyTo_27 (by decide) ?_
    exact h_2 hf hw (lv_sub hl [1, 2, 0] rfl)
def X10_applyTo_2 (E : gE) : Nat → Nat → Nat → Int32 → gS → Option gS
  | 0 => fun _ _ _ _ => none
  | n + 1 => X10_applyTo_2_s E (X10_applyTo_2 E n)
theorem X10_applyTo_2_W {σz : gS} (hC : gC E D A p R s m args meth c cX10_applyTo 3 RX10 "applyTo" 3 80) (hQ : gQV E D A p l e R s m args below meth c Q cX10_applyTo σz) : ∀ (n : Nat), ∀ {l0 : Nat} {l1 : Nat} {l2 : Int32} {σ : gS} {H : Heap} {locs : List Loc} {cells slots : Nat} {ls : Array Slot}, X10_applyTo_2 E n l0 l1 l2 σ = some σz → gW E D A s σ H locs → lv_has ls 3 [(0, .ref l0), (1, .ref l1), (2, .int l2)] → W p l e R s m args below meth c H locs cells slots Q (F0 m 2 ls []) := by
  intro n
  induction n with
  | zero =>
    intros
    rename_i hf _ _
    exact absurd hf (fun h => by cases (show (none : Option gS) = some σz from h))
  | succ n ih =>
    intros
    rename_i hf hw hl
    exact X10_applyTo_2_s_W hC hQ ih hf hw hl

def X10_applyTo (E : gE) (l0 : Nat) (l1 : Nat) (σ : gS) : Option gS :=
  X10_applyTo_2 E (gN E) l0 l1 (0 : Int32) σ
set_option maxHeartbeats 4000000 in
set_option maxRecDepth 100000 in
theorem X10_applyTo_W {σ : gS} {l0 : Nat} {l1 : Nat} {σz : gS} {ls : Array Slot} (hC : gC E D A p R s m args meth c cX10_applyTo 3 RX10 "applyTo" 3 80) (hQ : gQV E D A p l e R s m args below meth c Q cX10_applyTo σz) (hf : X10_applyTo E l0 l1 σ = some σz) (hw : gW E D A s σ H locs) (hl : lv_has ls 3 [(0, .ref l0), (1, .ref l1)]) : W p l e R s m args below meth c H locs cells slots Q (F0 m 0 ls []) := by
  have hC0 := hC
  obtain ⟨hx, hb, hml, hown, hts, -⟩ := hC0
  unfold X10_applyTo at hf
  refine lv_iconst (v := 0) hx hb dX10_applyTo_0 (by decide) ?_
  refine lv_istore_n (lv' := [(2, .int (0 : Int32)), (0, .ref l0), (1, .ref l1)]) hx hb dX10_applyTo_1 rfl hl (by decide) rfl (fun ls hl => ?_)
  exact X10_applyTo_2_W hC hQ (gN E) hf hw (lv_sub hl [1, 2, 0] rfl)

def X10_applyTo_f (E : gE) (l0 : Nat) (l1 : Nat) (σ : gS) : Option gS := X10_applyTo E l0 l1 σ
set_option maxRecDepth 100000 in
theorem X10_applyTo_M (l : Launch) (E : gE) (D : va_G) (A : Nat → Prop) {l0 : Nat} {l1 : Nat} {σ : gS} {σz : gS} (hf : X10_applyTo_f E l0 l1 σ = some σz) : gCV l E D A yX10_applyTo cX10_applyTo 3 3 80 none [.ref l0, .ref l1] σ σz := by
  refine gg_entV (own := RX10) (nm := "applyTo") (by decide +kernel) rfl rfl (Nat.le_of_ble_eq_true rfl) rfl ?_
  intro p e R s m args below meth c Q ls hC hw hQ hl
  have hl : lv_has ls 3 [(0, .ref l0), (1, .ref l1)] := hl
  exact X10_applyTo_W hC hQ hf hw hl

def X11_columns (E : gE) (σ : gS) (l0 : Nat) : Option Int32 :=
  ob (gfI σ l0 9 1) fun x1 =>
  some x1
set_option maxHeartbeats 4000000 in
set_option maxRecDepth 100000 in
theorem X11_columns_W {σ : gS} {l0 : Nat} {res : Int32} {ls : Array Slot} (hC : gC E D A p R s m args meth c cX11_columns 1 RX11 "columns" 0 0) (hQ : gQI E D A p l e R s m args below meth c Q cX11_columns FieldType.int (res, σ)) (hf : X11_columns E σ l0 = some res) (hw : gW E D A s σ H locs) (hl : lv_has ls 1 [(0, .ref l0)]) : W p l e R s m args below meth c H locs cells slots Q (F0 m 0 ls []) := by
  have hC0 := hC
  obtain ⟨hx, hb, hml, hown, hts, -⟩ := hC0
  unfold X11_columns at hf
  refine lv_aload_n hx hb dX11_columns_0 rfl (lv_at hl 0 rfl) ?_
  obtain ⟨x1, h2, hf⟩ := ob_some hf
  refine rI_fl_X11_17 hC hw h2 dX11_columns_1 ?_
  cases hf
  exact hQ _ _ _ _ _ _ dX11_columns_4 rfl hw

def X11_columns_f (E : gE) (σ : gS) (l0 : Nat) : Option Int32 := X11_columns E σ l0
set_option maxRecDepth 100000 in
theorem X11_columns_M (l : Launch) (E : gE) (D : va_G) (A : Nat → Prop) {l0 : Nat} {σ : gS} {res : Int32} (hf : X11_columns_f E σ l0 = some res) : gCI l E D A yX11_columns cX11_columns 1 0 0 (some FieldType.int) [.ref l0] σ (res, σ) := by
  refine gg_entI (own := RX11) (nm := "columns") (ty := FieldType.int) (by decide +kernel) rfl rfl (Nat.le_of_ble_eq_true rfl) rfl ?_
  intro p e R s m args below meth c Q ls hC hw hQ hl
  have hl : lv_has ls 1 [(0, .ref l0)] := hl
  exact X11_columns_W hC hQ hf hw hl

def X11_rows (E : gE) (σ : gS) (l0 : Nat) : Option Int32 :=
  ob (gfR σ l0 9 0) fun x1 =>
  ob (graR E 4 σ x1 (0 : Int32)) fun x3 =>
  ob (gcl σ x3 0) fun _ =>
  ob (X1_length_f E σ x3) fun x5 =>
  some x5
set_option maxHeartbeats 4000000 in
set_option maxRecDepth 100000 in
theorem X11_rows_W {σ : gS} {l0 : Nat} {res : Int32} {ls : Array Slot} (hC : gC E D A p R s m args meth c cX11_rows 1 RX11 "rows" 1 20) (hQ : gQI E D A p l e R s m args below meth c Q cX11_rows FieldType.int (res, σ)) (hf : X11_rows E σ l0 = some res) (hw : gW E D A s σ H locs) (hl : lv_has ls 1 [(0, .ref l0)]) : W p l e R s m args below meth c H locs cells slots Q (F0 m 0 ls []) := by
  have hC0 := hC
  obtain ⟨hx, hb, hml, hown, hts, -⟩ := hC0
  unfold X11_rows at hf
  refine lv_aload_n hx hb dX11_rows_0 rfl (lv_at hl 0 rfl) ?_
  obtain ⟨x1, h2, hf⟩ := ob_some hf
  refine rR_fl_X11_11 hC hw h2 dX11_rows_1 ?_
  refine lv_iconst (v := 0) hx hb dX11_rows_4 (by decide) ?_
  obtain ⟨x3, h4, hf⟩ := ob_some hf
  refine gg_aldR hC hw h4 rfl rfl dX11_rows_5 ?_
  obtain ⟨_, h7, hf⟩ := ob_some hf
  obtain ⟨x5, h6, hf⟩ := ob_some hf
  refine gg_cVI (As := []) hC hw (X1_length_M l E D A h6) h7 rfl g_ml_X11_29 hd_X1_length (Nat.le_of_ble_eq_true rfl) (Nat.le_of_ble_eq_true rfl) hl.1 rfl (Nat.le_of_ble_eq_true rfl) dX11_rows_6 (fun H locs cells slots hw => ?_)
  cases hf
  exact hQ _ _ _ _ _ _ dX11_rows_9 rfl hw

def X11_rows_f (E : gE) (σ : gS) (l0 : Nat) : Option Int32 := X11_rows E σ l0
set_option maxRecDepth 100000 in
theorem X11_rows_M (l : Launch) (E : gE) (D : va_G) (A : Nat → Prop) {l0 : Nat} {σ : gS} {res : Int32} (hf : X11_rows_f E σ l0 = some res) : gCI l E D A yX11_rows cX11_rows 1 1 20 (some FieldType.int) [.ref l0] σ (res, σ) := by
  refine gg_entI (own := RX11) (nm := "rows") (ty := FieldType.int) (by decide +kernel) rfl rfl (Nat.le_of_ble_eq_true rfl) rfl ?_
  intro p e R s m args below meth c Q ls hC hw hQ hl
  have hl : lv_has ls 1 [(0, .ref l0)] := hl
  exact X11_rows_W hC hQ hf hw hl

def X11_column (E : gE) (σ : gS) (l0 : Nat) (l1 : Int32) : Option Nat :=
  ob (gfR σ l0 9 0) fun x1 =>
  ob (graR E 4 σ x1 l1) fun x3 =>
  some x3
set_option maxHeartbeats 4000000 in
set_option maxRecDepth 100000 in
theorem X11_column_W {σ : gS} {l0 : Nat} {l1 : Int32} {res : Nat} {ls : Array Slot} (hC : gC E D A p R s m args meth c cX11_column 2 RX11 "column" 0 0) (hQ : gQR E D A p l e R s m args below meth c Q cX11_column (res, σ)) (hf : X11_column E σ l0 l1 = some res) (hw : gW E D A s σ H locs) (hl : lv_has ls 2 [(0, .ref l0), (1, .int l1)]) : W p l e R s m args below meth c H locs cells slots Q (F0 m 0 ls []) := by
  have hC0 := hC
  obtain ⟨hx, hb, hml, hown, hts, -⟩ := hC0
  unfold X11_column at hf
  refine lv_aload_n hx hb dX11_column_0 rfl (lv_at hl 0 rfl) ?_
  obtain ⟨x1, h2, hf⟩ := ob_some hf
  refine rR_fl_X11_11 hC hw h2 dX11_column_1 ?_
  refine lv_iload_n hx hb dX11_column_4 rfl (lv_at hl 1 rfl) ?_
  obtain ⟨x3, h4, hf⟩ := ob_some hf
  refine gg_aldR hC hw h4 rfl rfl dX11_column_5 ?_
  cases hf
  exact hQ _ _ _ _ _ _ dX11_column_6 hw

def X11_column_f (E : gE) (σ : gS) (l0 : Nat) (l1 : Int32) : Option Nat := X11_column E σ l0 l1
set_option maxRecDepth 100000 in
theorem X11_column_M (l : Launch) (E : gE) (D : va_G) (A : Nat → Prop) {l0 : Nat} {l1 : Int32} {σ : gS} {res : Nat} (hf : X11_column_f E σ l0 l1 = some res) : gCR l E D A yX11_column cX11_column 2 0 0 (some (FieldType.object "PackedTable$Column")) [.ref l0, .int l1] σ (res, σ) := by
  refine gg_entR (own := RX11) (nm := "column") (ty := ((FieldType.object "PackedTable$Column"))) (by decide +kernel) rfl rfl (Nat.le_of_ble_eq_true rfl) rfl (by first | exact Or.inl ⟨_, rfl⟩ | exact Or.inr ⟨_, rfl⟩) ?_
  intro p e R s m args below meth c Q ls hC hw hQ hl
  have hl : lv_has ls 2 [(0, .ref l0), (1, .int l1)] := hl
  exact X11_column_W hC hQ hf hw hl

def X11_dictionary (E : gE) (σ : gS) (l0 : Nat) (l1 : Int32) : Option Nat :=
  ob (gfR σ l0 9 0) fun x1 =>
  ob (graR E 4 σ x1 l1) fun x3 =>
  ob (gcl σ x3 0) fun _ =>
  ob (X1_dictionary_f E σ x3) fun x5 =>
  some x5
set_option maxHeartbeats 4000000 in
set_option maxRecDepth 100000 in
theorem X11_dictionary_W {σ : gS} {l0 : Nat} {l1 : Int32} {res : Nat} {ls : Array Slot} (hC : gC E D A p R s m args meth c cX11_dictionary 2 RX11 "dictionary" 1 20) (hQ : gQR E D A p l e R s m args below meth c Q cX11_dictionary (res, σ)) (hf : X11_dictionary E σ l0 l1 = some res) (hw : gW E D A s σ H locs) (hl : lv_has ls 2 [(0, .ref l0), (1, .int l1)]) : W p l e R s m args below meth c H locs cells slots Q (F0 m 0 ls []) := by
  have hC0 := hC
  obtain ⟨hx, hb, hml, hown, hts, -⟩ := hC0
  unfold X11_dictionary at hf
  refine lv_aload_n hx hb dX11_dictionary_0 rfl (lv_at hl 0 rfl) ?_
  obtain ⟨x1, h2, hf⟩ := ob_some hf
  refine rR_fl_X11_11 hC hw h2 dX11_dictionary_1 ?_
  refine lv_iload_n hx hb dX11_dictionary_4 rfl (lv_at hl 1 rfl) ?_
  obtain ⟨x3, h4, hf⟩ := ob_some hf
  refine gg_aldR hC hw h4 rfl rfl dX11_dictionary_5 ?_
  obtain ⟨_, h7, hf⟩ := ob_some hf
  obtain ⟨x5, h6, hf⟩ := ob_some hf
  refine gg_cVR (As := []) hC hw (X1_dictionary_M l E D A h6) h7 rfl g_ml_X11_33 hd_X1_dictionary (Nat.le_of_ble_eq_true rfl) (Nat.le_of_ble_eq_true rfl) hl.1 rfl (Nat.le_of_ble_eq_true rfl) dX11_dictionary_6 (fun H locs cells slots hw => ?_)
  cases hf
  exact hQ _ _ _ _ _ _ dX11_dictionary_9 hw

def X11_dictionary_f (E : gE) (σ : gS) (l0 : Nat) (l1 : Int32) : Option Nat := X11_dictionary E σ l0 l1
set_option maxRecDepth 100000 in
theorem X11_dictionary_M (l : Launch) (E : gE) (D : va_G) (A : Nat → Prop) {l0 : Nat} {l1 : Int32} {σ : gS} {res : Nat} (hf : X11_dictionary_f E σ l0 l1 = some res) : gCR l E D A yX11_dictionary cX11_dictionary 2 1 20 (some (FieldType.object "PackedTable$Dictionary")) [.ref l0, .int l1] σ (res, σ) := by
  refine gg_entR (own := RX11) (nm := "dictionary") (ty := ((FieldType.object "PackedTable$Dictionary"))) (by decide +kernel) rfl rfl (Nat.le_of_ble_eq_true rfl) rfl (by first | exact Or.inl ⟨_, rfl⟩ | exact Or.inr ⟨_, rfl⟩) ?_
  intro p e R s m args below meth c Q ls hC hw hQ hl
  have hl : lv_has ls 2 [(0, .ref l0), (1, .int l1)] := hl
  exact X11_dictionary_W hC hQ hf hw hl

def X11_filter (E : gE) (σ : gS) (l0 : Nat) : Option Nat :=
  ob (gfR σ l0 9 2) fun x1 =>
  some x1
set_option maxHeartbeats 4000000 in
set_option maxRecDepth 100000 in
theorem X11_filter_W {σ : gS} {l0 : Nat} {res : Nat} {ls : Array Slot} (hC : gC E D A p R s m args meth c cX11_filter 1 RX11 "filter" 0 0) (hQ : gQR E D A p l e R s m args below meth c Q cX11_filter (res, σ)) (hf : X11_filter E σ l0 = some res) (hw : gW E D A s σ H locs) (hl : lv_has ls 1 [(0, .ref l0)]) : W p l e R s m args below meth c H locs cells slots Q (F0 m 0 ls []) := by
  have hC0 := hC
  obtain ⟨hx, hb, hml, hown, hts, -⟩ := hC0
  unfold X11_filter at hf
  refine lv_aload_n hx hb dX11_filter_0 rfl (lv_at hl 0 rfl) ?_
  obtain ⟨x1, h2, hf⟩ := ob_some hf
  refine rR_fl_X11_24 hC hw h2 dX11_filter_1 ?_
  cases hf
  exact hQ _ _ _ _ _ _ dX11_filter_4 hw

def X11_filter_f (E : gE) (σ : gS) (l0 : Nat) : Option Nat := X11_filter E σ l0
set_option maxRecDepth 100000 in
theorem X11_filter_M (l : Launch) (E : gE) (D : va_G) (A : Nat → Prop) {l0 : Nat} {σ : gS} {res : Nat} (hf : X11_filter_f E σ l0 = some res) : gCR l E D A yX11_filter cX11_filter 1 0 0 (some (FieldType.object "PackedTable$Filter")) [.ref l0] σ (res, σ) := by
  refine gg_entR (own := RX11) (nm := "filter") (ty := ((FieldType.object "PackedTable$Filter"))) (by decide +kernel) rfl rfl (Nat.le_of_ble_eq_true rfl) rfl (by first | exact Or.inl ⟨_, rfl⟩ | exact Or.inr ⟨_, rfl⟩) ?_
  intro p e R s m args below meth c Q ls hC hw hQ hl
  have hl : lv_has ls 1 [(0, .ref l0)] := hl
  exact X11_filter_W hC hQ hf hw hl

def X11_isFull (E : gE) (σ : gS) (l0 : Nat) : Option Int32 :=
  ob (gcl σ l0 9) fun _ =>
  ob (X11_rows_f E σ l0) fun x1 =>
  if x1 < (60 : Int32) then
    some (0 : Int32)
  else
    some (1 : Int32)
set_option maxHeartbeats 4000000 in
set_option maxRecDepth 100000 in
theorem X11_isFull_W {σ : gS} {l0 : Nat} {res : Int32} {ls : Array Slot} (hC : gC E D A p R s m args meth c cX11_isFull 1 RX11 "isFull" 2 40) (hQ : gQI E D A p l e R s m args below meth c Q cX11_isFull FieldType.boolean (res, σ)) (hf : X11_isFull E σ l0 = some res) (hw : gW E D A s σ H locs) (hl : lv_has ls 1 [(0, .ref l0)]) : W p l e R s m args below meth c H locs cells slots Q (F0 m 0 ls []) := by
  have hC0 := hC
  obtain ⟨hx, hb, hml, hown, hts, -⟩ := hC0
  unfold X11_isFull at hf
  refine lv_aload_n hx hb dX11_isFull_0 rfl (lv_at hl 0 rfl) ?_
  obtain ⟨_, h3, hf⟩ := ob_some hf
  obtain ⟨x1, h2, hf⟩ := ob_some hf
  refine gg_cVI (As := []) hC hw (X11_rows_M l E D A h2) h3 rfl g_ml_X11_37 hd_X11_rows (Nat.le_of_ble_eq_true rfl) (Nat.le_of_ble_eq_true rfl) hl.1 rfl (Nat.le_of_ble_eq_true rfl) dX11_isFull_1 (fun H locs cells slots hw => ?_)
  refine lv_bipush (v := 60) hx hb dX11_isFull_4 (by decide) ?_
  refine lv_icmp_lt (tgt := 13) hx hb dX11_isFull_6 (by decide) (fun c4 => ?_) (fun c4 => ?_)
  · replace hf := (if_pos c4).symm.trans hf
    refine lv_iconst (v := 0) hx hb dX11_isFull_13 (by decide) ?_
    cases hf
    exact hQ _ _ _ _ _ _ dX11_isFull_14 gz0 hw
  · replace hf := (if_neg c4).symm.trans hf
    refine lv_iconst (v := 1) hx hb dX11_isFull_9 (by decide) ?_
    refine lv_goto (tgt := 14) hx hb dX11_isFull_10 (by decide) ?_
    cases hf
    exact hQ _ _ _ _ _ _ dX11_isFull_14 gz1 hw

def X11_isFull_f (E : gE) (σ : gS) (l0 : Nat) : Option Int32 := X11_isFull E σ l0
set_option maxRecDepth 100000 in
theorem X11_isFull_M (l : Launch) (E : gE) (D : va_G) (A : Nat → Prop) {l0 : Nat} {σ : gS} {res : Int32} (hf : X11_isFull_f E σ l0 = some res) : gCI l E D A yX11_isFull cX11_isFull 1 2 40 (some FieldType.boolean) [.ref l0] σ (res, σ) := by
  refine gg_entI (own := RX11) (nm := "isFull") (ty := FieldType.boolean) (by decide +kernel) rfl rfl (Nat.le_of_ble_eq_true rfl) rfl ?_
  intro p e R s m args below meth c Q ls hC hw hQ hl
  have hl : lv_has ls 1 [(0, .ref l0)] := hl
  exact X11_isFull_W hC hQ hf hw hl

def X11_hasRow_16 (E : gE) (σ : gS) : Option Int32 :=
  some (0 : Int32)
set_option maxHeartbeats 4000000 in
set_option maxRecDepth 100000 in
theorem X11_hasRow_16_W {σ : gS} {res : Int32} {ls : Array Slot} (hC : gC E D A p R s m args meth c cX11_hasRow 2 RX11 "hasRow" 2 40) (hQ : gQI E D A p l e R s m args below meth c Q cX11_hasRow FieldType.boolean (res, σ)) (hf : X11_hasRow_16 E σ = some res) (hw : gW E D A s σ H locs) (hl : lv_has ls 2 []) : W p l e R s m args below meth c H locs cells slots Q (F0 m 16 ls []) := by
  have hC0 := hC
  obtain ⟨hx, hb, hml, hown, hts, -⟩ := hC0
  unfold X11_hasRow_16 at hf
  refine lv_iconst (v := 0) hx hb dX11_hasRow_16 (by decide) ?_
  cases hf
  exact hQ _ _ _ _ _ _ dX11_hasRow_17 gz0 hw

def X11_hasRow (E : gE) (σ : gS) (l0 : Nat) (l1 : Int32) : Option Int32 :=
  if l1 < 0 then
    X11_hasRow_16 E σ
  else
    ob (gcl σ l0 9) fun _ =>
    ob (X11_rows_f E σ l0) fun x1 =>
    if x1 ≤ l1 then
      X11_hasRow_16 E σ
    else
      some (1 : Int32)
set_option maxHeartbeats 4000000 in
set_option maxRecDepth 100000 in
theorem X11_hasRow_W {σ : gS} {l0 : Nat} {l1 : Int32} {res : Int32} {ls : Array Slot} (hC : gC E D A p R s m args meth c cX11_hasRow 2 RX11 "hasRow" 2 40) (hQ : gQI E D A p l e R s m args below meth c Q cX11_hasRow FieldType.boolean (res, σ)) (hf : X11_hasRow E σ l0 l1 = some res) (hw : gW E D A s σ H locs) (hl : lv_has ls 2 [(0, .ref l0), (1, .int l1)]) : W p l e R s m args below meth c H locs cells slots Q (F0 m 0 ls []) := by
  have hC0 := hC
  obtain ⟨hx, hb, hml, hown, hts, -⟩ := hC0
  unfold X11_hasRow at hf
  refine lv_iload_n hx hb dX11_hasRow_0 rfl (lv_at hl 1 rfl) ?_
  refine lv_if_lt (tgt := 16) hx hb dX11_hasRow_1 (by decide) (fun c5 => ?_) (fun c5 => ?_)
  · replace hf := (if_pos c5).symm.trans hf
    exact X11_hasRow_16_W hC hQ hf hw (lv_sub hl [] rfl)
  · replace hf := (if_neg c5).symm.trans hf
    refine lv_iload_n hx hb dX11_hasRow_4 rfl (lv_at hl 1 rfl) ?_
    refine lv_aload_n hx hb dX11_hasRow_5 rfl (lv_at hl 0 rfl) ?_
    obtain ⟨_, h3, hf⟩ := ob_some hf
    obtain ⟨x1, h2, hf⟩ := ob_some hf
    refine gg_cVI (As := []) hC hw (X11_rows_M l E D A h2) h3 rfl g_ml_X11_37 hd_X11_rows (Nat.le_of_ble_eq_true rfl) (Nat.le_of_ble_eq_true rfl) hl.1 rfl (Nat.le_of_ble_eq_true rfl) dX11_hasRow_6 (fun H locs cells slots hw => ?_)
    refine lv_icmp_ge (tgt := 16) hx hb dX11_hasRow_9 (by decide) (fun c4 => ?_) (fun c4 => ?_)
    · replace hf := (if_pos c4).symm.trans hf
      exact X11_hasRow_16_W hC hQ hf hw (lv_sub hl [] rfl)
    · replace hf := (if_neg c4).symm.trans hf
      refine lv_iconst (v := 1) hx hb dX11_hasRow_12 (by decide) ?_
      refine lv_goto (tgt := 17) hx hb dX11_hasRow_13 (by decide) ?_
      cases hf
      exact hQ _ _ _ _ _ _ dX11_hasRow_17 gz1 hw

def X11_hasRow_f (E : gE) (σ : gS) (l0 : Nat) (l1 : Int32) : Option Int32 := X11_hasRow E σ l0 l1
set_option maxRecDepth 100000 in
theorem X11_hasRow_M (l : Launch) (E : gE) (D : va_G) (A : Nat → Prop) {l0 : Nat} {l1 : Int32} {σ : gS} {res : Int32} (hf : X11_hasRow_f E σ l0 l1 = some res) : gCI l E D A yX11_hasRow cX11_hasRow 2 2 40 (some FieldType.boolean) [.ref l0, .int l1] σ (res, σ) := by
  refine gg_entI (own := RX11) (nm := "hasRow") (ty := FieldType.boolean) (by decide +kernel) rfl rfl (Nat.le_of_ble_eq_true rfl) rfl ?_
  intro p e R s m args below meth c Q ls hC hw hQ hl
  have hl : lv_has ls 2 [(0, .ref l0), (1, .int l1)] := hl
  exact X11_hasRow_W hC hQ hf hw hl

def X11_moveRow_2_s (E : gE) (r_2 : Nat → Int32 → Int32 → Int32 → gS → Option gS) (l0 : Nat) (l1 : Int32) (l2 : Int32) (l3 : Int32) (σ : gS) : Option gS :=
  ob (gfI σ l0 9 1) fun x1 =>
  if x1 ≤ l3 then
    some σ
  else
    ob (gfR σ l0 9 0) fun x3 =>
    ob (graR E 4 σ x3 l3) fun x5 =>
    ob (gcl σ x5 0) fun _ =>
    ob (X1_move_f E x5 l1 l2 σ) fun x7 =>
    r_2 l0 l1 l2 (l3 + 1) x7
set_option maxHeartbeats 4000000 in
set_option maxRecDepth 100000 in
theorem X11_moveRow_2_s_W {σ : gS} {l0 : Nat} {l1 : Int32} {l2 : Int32} {l3 : Int32} {σz : gS} {ls : Array Slot} (hC : gC E D A p R s m args meth c cX11_moveRow 4 RX11 "moveRow" 1 22) (hQ : gQV E D A p l e R s m args below meth c Q cX11_moveRow σz) {r_2 : Nat → Int32 → Int32 → Int32 → gS → Option gS} (h_2 : ∀ {l0 : Nat} {l1 : Int32} {l2 : Int32} {l3 : Int32} {σ : gS} {H : Heap} {locs : List Loc} {cells slots : Nat} {ls : Array Slot}, r_2 l0 l1 l2 l3 σ = some σz → gW E D A s σ H locs → lv_has ls 4 [(0, .ref l0), (1, .int l1), (2, .int l2), (3, .int l3)] → W p l e R s m args below meth c H locs cells slots Q (F0 m 2 ls [])) (hf : X11_moveRow_2_s E r_2 l0 l1 l2 l3 σ = some σz) (hw : gW E D A s σ H locs) (hl : lv_has ls 4 [(0, .ref l0), (1, .int l1), (2, .int l2), (3, .int l3)]) : W p l e R s m args below meth c H locs cells slots Q (F0 m 2 ls []) := by
  have hC0 := hC
  obtain ⟨hx, hb, hml, hown, hts, -⟩ := hC0
  unfold X11_moveRow_2_s at hf
  refine lv_iload_n hx hb dX11_moveRow_2 rfl (lv_at hl 3 rfl) ?_
  refine lv_aload_n hx hb dX11_moveRow_3 rfl (lv_at hl 0 rfl) ?_
  obtain ⟨x1, h2, hf⟩ := ob_some hf
  refine rI_fl_X11_17 hC hw h2 dX11_moveRow_4 ?_
  refine lv_icmp_ge (tgt := 27) hx hb dX11_moveRow_7 (by decide) (fun c10 => ?_) (fun c10 => ?_)
  · replace hf := (if_pos c10).symm.trans hf
    cases hf
    exact hQ _ _ _ _ _ _ dX11_moveRow_27 hw
  · replace hf := (if_neg c10).symm.trans hf
    refine lv_aload_n hx hb dX11_moveRow_10 rfl (lv_at hl 0 rfl) ?_
    obtain ⟨x3, h4, hf⟩ := ob_some hf
    refine rR_fl_X11_11 hC hw h4 dX11_moveRow_11 ?_
    refine lv_iload_n hx hb dX11_moveRow_14 rfl (lv_at hl 3 rfl) ?_
    obtain ⟨x5, h6, hf⟩ := ob_some hf
    refine gg_aldR hC hw h6 rfl rfl dX11_moveRow_15 ?_
    refine lv_iload_n hx hb dX11_moveRow_16 rfl (lv_at hl 1 rfl) ?_
    refine lv_iload_n hx hb dX11_moveRow_17 rfl (lv_at hl 2 rfl) ?_
    obtain ⟨_, h9, hf⟩ := ob_some hf
    obtain ⟨x7, h8, hf⟩ := ob_some hf
    refine gg_cVV (As := [.int l1, .int l2]) hC hw (X1_move_M l E D A h8) h9 rfl g_ml_X11_63 hd_X1_move (Nat.le_of_ble_eq_true rfl) (Nat.le_of_ble_eq_true rfl) hl.1 rfl (Nat.le_of_ble_eq_true rfl) dX11_moveRow_18 (fun H locs cells slots hw => ?_)
    refine lv_iinc (v := (l3 + 1)) (lv' := [(3, .int (l3 + 1)), (0, .ref l0), (1, .int l1), (2, .int l2)]) hx hb dX11_moveRow_21 hl (k := 3) rfl rfl (by decide) rfl (fun ls hl => ?_)
    refine lv_goto (tgt := 2) hx hb dX11_moveRow_24 (by decide) ?_
    exact h_2 hf hw (lv_sub hl [1, 2, 3, 0] rfl)
def X11_moveRow_2 (E : gE) : Nat → Nat → Int32 → Int32 → Int32 → gS → Option gS
  | 0 => fun _ _ _ _ _ => none
  | n + 1 => X11_moveRow_2_s E (X11_moveRow_2 E n)
theorem X11_moveRow_2_W {σz : gS} (hC : gC E D A p R s m args meth c cX11_moveRow 4 RX11 "moveRow" 1 22) (hQ : gQV E D A p l e R s m args below meth c Q cX11_moveRow σz) : ∀ (n : Nat), ∀ {l0 : Nat} {l1 : Int32} {l2 : Int32} {l3 : Int32} {σ : gS} {H : Heap} {locs : List Loc} {cells slots : Nat} {ls : Array Slot}, X11_moveRow_2 E n l0 l1 l2 l3 σ = some σz → gW E D A s σ H locs → lv_has ls 4 [(0, .ref l0), (1, .int l1), (2, .int l2), (3, .int l3)] → W p l e R s m args below meth c H locs cells slots Q (F0 m 2 ls []) := by
  intro n
  induction n with
  | zero =>
    intros
    rename_i hf _ _
    exact absurd hf (fun h => by cases (show (none : Option gS) = some σz from h))
  | succ n ih =>
    intros
    rename_i hf hw hl
    exact X11_moveRow_2_s_W hC hQ ih hf hw hl

def X11_moveRow (E : gE) (l0 : Nat) (l1 : Int32) (l2 : Int32) (σ : gS) : Option gS :=
  X11_moveRow_2 E (gN E) l0 l1 l2 (0 : Int32) σ
set_option maxHeartbeats 4000000 in
set_option maxRecDepth 100000 in
theorem X11_moveRow_W {σ : gS} {l0 : Nat} {l1 : Int32} {l2 : Int32} {σz : gS} {ls : Array Slot} (hC : gC E D A p R s m args meth c cX11_moveRow 4 RX11 "moveRow" 1 22) (hQ : gQV E D A p l e R s m args below meth c Q cX11_moveRow σz) (hf : X11_moveRow E l0 l1 l2 σ = some σz) (hw : gW E D A s σ H locs) (hl : lv_has ls 4 [(0, .ref l0), (1, .int l1), (2, .int l2)]) : W p l e R s m args below meth c H locs cells slots Q (F0 m 0 ls []) := by
  have hC0 := hC
  obtain ⟨hx, hb, hml, hown, hts, -⟩ := hC0
  unfold X11_moveRow at hf
  refine lv_iconst (v := 0) hx hb dX11_moveRow_0 (by decide) ?_
  refine lv_istore_n (lv' := [(3, .int (0 : Int32)), (0, .ref l0), (1, .int l1), (2, .int l2)]) hx hb dX11_moveRow_1 rfl hl (by decide) rfl (fun ls hl => ?_)
  exact X11_moveRow_2_W hC hQ (gN E) hf hw (lv_sub hl [1, 2, 3, 0] rfl)

def X11_moveRow_f (E : gE) (l0 : Nat) (l1 : Int32) (l2 : Int32) (σ : gS) : Option gS := X11_moveRow E l0 l1 l2 σ
set_option maxRecDepth 100000 in
theorem X11_moveRow_M (l : Launch) (E : gE) (D : va_G) (A : Nat → Prop) {l0 : Nat} {l1 : Int32} {l2 : Int32} {σ : gS} {σz : gS} (hf : X11_moveRow_f E l0 l1 l2 σ = some σz) : gCV l E D A yX11_moveRow cX11_moveRow 4 1 22 none [.ref l0, .int l1, .int l2] σ σz := by
  refine gg_entV (own := RX11) (nm := "moveRow") (by decide +kernel) rfl rfl (Nat.le_of_ble_eq_true rfl) rfl ?_
  intro p e R s m args below meth c Q ls hC hw hQ hl
  have hl : lv_has ls 4 [(0, .ref l0), (1, .int l1), (2, .int l2)] := hl
  exact X11_moveRow_W hC hQ hf hw hl

def X11_shorten_2_s (E : gE) (r_2 : Nat → Int32 → Int32 → gS → Option gS) (l0 : Nat) (l1 : Int32) (l2 : Int32) (σ : gS) : Option gS :=
  ob (gfI σ l0 9 1) fun x1 =>
  if x1 ≤ l2 then
    some σ
  else
    ob (gfR σ l0 9 0) fun x3 =>
    ob (graR E 4 σ x3 l2) fun x5 =>
    ob (gcl σ x5 0) fun _ =>
    ob (X1_shorten_f E x5 l1 σ) fun x7 =>
    r_2 l0 l1 (l2 + 1) x7
set_option maxHeartbeats 4000000 in
set_option maxRecDepth 100000 in
theorem X11_shorten_2_s_W {σ : gS} {l0 : Nat} {l1 : Int32} {l2 : Int32} {σz : gS} {ls : Array Slot} (hC : gC E D A p R s m args meth c cX11_shorten 3 RX11 "shorten" 1 21) (hQ : gQV E D A p l e R s m args below meth c Q cX11_shorten σz) {r_2 : Nat → Int32 → Int32 → gS → Option gS} (h_2 : ∀ {l0 : Nat} {l1 : Int32} {l2 : Int32} {σ : gS} {H : Heap} {locs : List Loc} {cells slots : Nat} {ls : Array Slot}, r_2 l0 l1 l2 σ = some σz → gW E D A s σ H locs → lv_has ls 3 [(0, .ref l0), (1, .int l1), (2, .int l2)] → W p l e R s m args below meth c H locs cells slots Q (F0 m 2 ls [])) (hf : X11_shorten_2_s E r_2 l0 l1 l2 σ = some σz) (hw : gW E D A s σ H locs) (hl : lv_has ls 3 [(0, .ref l0), (1, .int l1), (2, .int l2)]) : W p l e R s m args below meth c H locs cells slots Q (F0 m 2 ls []) := by
  have hC0 := hC
  obtain ⟨hx, hb, hml, hown, hts, -⟩ := hC0
  unfold X11_shorten_2_s at hf
  refine lv_iload_n hx hb dX11_shorten_2 rfl (lv_at hl 2 rfl) ?_
  refine lv_aload_n hx hb dX11_shorten_3 rfl (lv_at hl 0 rfl) ?_
  obtain ⟨x1, h2, hf⟩ := ob_some hf
  refine rI_fl_X11_17 hC hw h2 dX11_shorten_4 ?_
  refine lv_icmp_ge (tgt := 26) hx hb dX11_shorten_7 (by decide) (fun c10 => ?_) (fun c10 => ?_)
  · replace hf := (if_pos c10).symm.trans hf
    cases hf
    exact hQ _ _ _ _ _ _ dX11_shorten_26 hw
  · replace hf := (if_neg c10).symm.trans hf
    refine lv_aload_n hx hb dX11_shorten_10 rfl (lv_at hl 0 rfl) ?_
    obtain ⟨x3, h4, hf⟩ := ob_some hf
    refine rR_fl_X11_11 hC hw h4 dX11_shorten_11 ?_
    refine lv_iload_n hx hb dX11_shorten_14 rfl (lv_at hl 2 rfl) ?_
    obtain ⟨x5, h6, hf⟩ := ob_some hf
    refine gg_aldR hC hw h6 rfl rfl dX11_shorten_15 ?_
    refine lv_iload_n hx hb dX11_shorten_16 rfl (lv_at hl 1 rfl) ?_
    obtain ⟨_, h9, hf⟩ := ob_some hf
    obtain ⟨x7, h8, hf⟩ := ob_some hf
    refine gg_cVV (As := [.int l1]) hC hw (X1_shorten_M l E D A h8) h9 rfl g_ml_X11_66 hd_X1_shorten (Nat.le_of_ble_eq_true rfl) (Nat.le_of_ble_eq_true rfl) hl.1 rfl (Nat.le_of_ble_eq_true rfl) dX11_shorten_17 (fun H locs cells slots hw => ?_)
    refine lv_iinc (v := (l2 + 1)) (lv' := [(2, .int (l2 + 1)), (0, .ref l0), (1, .int l1)]) hx hb dX11_shorten_20 hl (k := 2) rfl rfl (by decide) rfl (fun ls hl => ?_)
    refine lv_goto (tgt := 2) hx hb dX11_shorten_23 (by decide) ?_
    exact h_2 hf hw (lv_sub hl [1, 2, 0] rfl)
def X11_shorten_2 (E : gE) : Nat → Nat → Int32 → Int32 → gS → Option gS
  | 0 => fun _ _ _ _ => none
  | n + 1 => X11_shorten_2_s E (X11_shorten_2 E n)
theorem X11_shorten_2_W {σz : gS} (hC : gC E D A p R s m args meth c cX11_shorten 3 RX11 "shorten" 1 21) (hQ : gQV E D A p l e R s m args below meth c Q cX11_shorten σz) : ∀ (n : Nat), ∀ {l0 : Nat} {l1 : Int32} {l2 : Int32} {σ : gS} {H : Heap} {locs : List Loc} {cells slots : Nat} {ls : Array Slot}, X11_shorten_2 E n l0 l1 l2 σ = some σz → gW E D A s σ H locs → lv_has ls 3 [(0, .ref l0), (1, .int l1), (2, .int l2)] → W p l e R s m args below meth c H locs cells slots Q (F0 m 2 ls []) := by
  intro n
  induction n with
  | zero =>
    intros
    rename_i hf _ _
    exact absurd hf (fun h => by cases (show (none : Option gS) = some σz from h))
  | succ n ih =>
    intros
    rename_i hf hw hl
    exact X11_shorten_2_s_W hC hQ ih hf hw hl

def X11_shorten (E : gE) (l0 : Nat) (l1 : Int32) (σ : gS) : Option gS :=
  X11_shorten_2 E (gN E) l0 l1 (0 : Int32) σ
set_option maxHeartbeats 4000000 in
set_option maxRecDepth 100000 in
theorem X11_shorten_W {σ : gS} {l0 : Nat} {l1 : Int32} {σz : gS} {ls : Array Slot} (hC : gC E D A p R s m args meth c cX11_shorten 3 RX11 "shorten" 1 21) (hQ : gQV E D A p l e R s m args below meth c Q cX11_shorten σz) (hf : X11_shorten E l0 l1 σ = some σz) (hw : gW E D A s σ H locs) (hl : lv_has ls 3 [(0, .ref l0), (1, .int l1)]) : W p l e R s m args below meth c H locs cells slots Q (F0 m 0 ls []) := by
  have hC0 := hC
  obtain ⟨hx, hb, hml, hown, hts, -⟩ := hC0
  unfold X11_shorten at hf
  refine lv_iconst (v := 0) hx hb dX11_shorten_0 (by decide) ?_
  refine lv_istore_n (lv' := [(2, .int (0 : Int32)), (0, .ref l0), (1, .int l1)]) hx hb dX11_shorten_1 rfl hl (by decide) rfl (fun ls hl => ?_)
  exact X11_shorten_2_W hC hQ (gN E) hf hw (lv_sub hl [1, 2, 0] rfl)

def X11_shorten_f (E : gE) (l0 : Nat) (l1 : Int32) (σ : gS) : Option gS := X11_shorten E l0 l1 σ
set_option maxRecDepth 100000 in
theorem X11_shorten_M (l : Launch) (E : gE) (D : va_G) (A : Nat → Prop) {l0 : Nat} {l1 : Int32} {σ : gS} {σz : gS} (hf : X11_shorten_f E l0 l1 σ = some σz) : gCV l E D A yX11_shorten cX11_shorten 3 1 21 none [.ref l0, .int l1] σ σz := by
  refine gg_entV (own := RX11) (nm := "shorten") (by decide +kernel) rfl rfl (Nat.le_of_ble_eq_true rfl) rfl ?_
  intro p e R s m args below meth c Q ls hC hw hQ hl
  have hl : lv_has ls 3 [(0, .ref l0), (1, .int l1)] := hl
  exact X11_shorten_W hC hQ hf hw hl

end MA1
