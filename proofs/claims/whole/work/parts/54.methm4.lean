/-! decompiled: X13_gap, X13_putRow, X13_doRow, X13_takeOut, X13_doSet, X13_doSort, X13_doCondition, X13_doDrop, X13_doDelete, X13_copy, X13_keep, X13_record, X13_ends, X13_removeRow, X13_setValue, X13_sort, X13_addCondition, X13_addLess, X13_addEqual, X13_addGreater, X13_removeCondition, X13_deleteSelected, X13_write, X13_writeNumber, X13_writeRow, X13_outputByte, X13_undoableCount, X13_undo -/
section MM4
variable {p : Program} {l : Launch} {e : Env} {R : Room} {s : State} {m : MethodId} {args : Array Value} {below : List Frame} {meth : Method} {c : Code} {H : Heap} {locs : List Loc} {cells slots : Nat} {Q : State → Prop} {E : gE} {D : va_G} {A : Nat → Prop}
def X13_gap_78 (E : gE) (r_9 : Nat → Int32 → Int32 → gS → Option (Int32 × gS)) (r_42 : Nat → Int32 → Int32 → Int32 → gS → Option (Int32 × gS)) (l0 : Nat) (l2 : Int32) (l3 : Int32) (s0 : Int32) (s1 : Int32) (σ : gS) : Option (Int32 × gS) :=
  r_42 l0 (s1 + s0) l2 (l3 + 1) σ
set_option maxHeartbeats 4000000 in
set_option maxRecDepth 100000 in
theorem X13_gap_78_W {σ : gS} {l0 : Nat} {l2 : Int32} {l3 : Int32} {s0 : Int32} {s1 : Int32} {res : (Int32 × gS)} {ls : Array Slot} (hC : gC E D A p R s m args meth c cX13_gap 4 RX13 "gap" 5 112) (hQ : gQI E D A p l e R s m args below meth c Q cX13_gap FieldType.int res) {r_9 : Nat → Int32 → Int32 → gS → Option (Int32 × gS)} (h_9 : ∀ {l0 : Nat} {l1 : Int32} {l2 : Int32} {σ : gS} {H : Heap} {locs : List Loc} {cells slots : Nat} {ls : Array Slot}, r_9 l0 l1 l2 σ = some res → gW E D A s σ H locs → lv_has ls 4 [(0, .ref l0), (1, .int l1), (2, .int l2)] → W p l e R s m args below meth c H locs cells slots Q (F0 m 9 ls [])) {r_42 : Nat → Int32 → Int32 → Int32 → gS → Option (Int32 × gS)} (h_42 : ∀ {l0 : Nat} {l1 : Int32} {l2 : Int32} {l3 : Int32} {σ : gS} {H : Heap} {locs : List Loc} {cells slots : Nat} {ls : Array Slot}, r_42 l0 l1 l2 l3 σ = some res → gW E D A s σ H locs → lv_has ls 4 [(0, .ref l0), (1, .int l1), (2, .int l2), (3, .int l3)] → W p l e R s m args below meth c H locs cells slots Q (F0 m 42 ls [])) (hf : X13_gap_78 E r_9 r_42 l0 l2 l3 s0 s1 σ = some res) (hw : gW E D A s σ H locs) (hl : lv_has ls 4 [(0, .ref l0), (2, .int l2), (3, .int l3)]) : W p l e R s m args below meth c H locs cells slots Q (F0 m 78 ls [.int s0, .int s1]) := by
  have hC0 := hC
  obtain ⟨hx, hb, hml, hown, hts, -⟩ := hC0
  unfold X13_gap_78 at hf
  refine lv_iadd hx hb dX13_gap_78 ?_
  refine lv_istore_n (lv' := [(1, .int (s1 + s0)), (0, .ref l0), (2, .int l2), (3, .int l3)]) hx hb dX13_gap_79 rfl hl (by decide) rfl (fun ls hl => ?_)
  refine lv_iinc (v := (l3 + 1)) (lv' := [(3, .int (l3 + 1)), (1, .int (s1 + s0)), (0, .ref l0), (2, .int l2)]) hx hb dX13_gap_80 hl (k := 3) rfl rfl (by decide) rfl (fun ls hl => ?_)
  refine lv_goto (tgt := 42) hx hb dX13_gap_83 (by decide) ?_
  exact h_42 hf hw (lv_sub hl [2, 1, 3, 0] rfl)

def X13_gap_42_s (E : gE) (r_9 : Nat → Int32 → Int32 → gS → Option (Int32 × gS)) (r_42 : Nat → Int32 → Int32 → Int32 → gS → Option (Int32 × gS)) (l0 : Nat) (l1 : Int32) (l2 : Int32) (l3 : Int32) (σ : gS) : Option (Int32 × gS) :=
  ob (gfR σ l0 11 8) fun x1 =>
  ob (graI E 0 σ x1 (0 : Int32)) fun x3 =>
  if x3 ≤ l3 then
    r_9 l0 l1 (l2 + 1) σ
  else
    ob (gcl σ l0 11) fun _ =>
    ob (X13_codeAt_f E σ l0 l3 l2) fun x5 =>
    ob (gcl σ l0 11) fun _ =>
    ob (X13_valueOf_f E σ l0 l3 x5) fun x8 =>
    ob (gcl σ l0 11) fun _ =>
    ob (X13_at_f E σ l0 l3 l2) fun x11 =>
    if x8 = x11 then
      X13_gap_78 E r_9 r_42 l0 l2 l3 (0 : Int32) l1 σ
    else
      X13_gap_78 E r_9 r_42 l0 l2 l3 (1 : Int32) l1 σ
set_option maxHeartbeats 4000000 in
set_option maxRecDepth 100000 in
theorem X13_gap_42_s_W {σ : gS} {l0 : Nat} {l1 : Int32} {l2 : Int32} {l3 : Int32} {res : (Int32 × gS)} {ls : Array Slot} (hC : gC E D A p R s m args meth c cX13_gap 4 RX13 "gap" 5 112) (hQ : gQI E D A p l e R s m args below meth c Q cX13_gap FieldType.int res) {r_9 : Nat → Int32 → Int32 → gS → Option (Int32 × gS)} (h_9 : ∀ {l0 : Nat} {l1 : Int32} {l2 : Int32} {σ : gS} {H : Heap} {locs : List Loc} {cells slots : Nat} {ls : Array Slot}, r_9 l0 l1 l2 σ = some res → gW E D A s σ H locs → lv_has ls 4 [(0, .ref l0), (1, .int l1), (2, .int l2)] → W p l e R s m args below meth c H locs cells slots Q (F0 m 9 ls [])) {r_42 : Nat → Int32 → Int32 → Int32 → gS → Option (Int32 × gS)} (h_42 : ∀ {l0 : Nat} {l1 : Int32} {l2 : Int32} {l3 : Int32} {σ : gS} {H : Heap} {locs : List Loc} {cells slots : Nat} {ls : Array Slot}, r_42 l0 l1 l2 l3 σ = some res → gW E D A s σ H locs → lv_has ls 4 [(0, .ref l0), (1, .int l1), (2, .int l2), (3, .int l3)] → W p l e R s m args below meth c H locs cells slots Q (F0 m 42 ls [])) (hf : X13_gap_42_s E r_9 r_42 l0 l1 l2 l3 σ = some res) (hw : gW E D A s σ H locs) (hl : lv_has ls 4 [(0, .ref l0), (1, .int l1), (2, .int l2), (3, .int l3)]) : W p l e R s m args below meth c H locs cells slots Q (F0 m 42 ls []) := by
  have hC0 := hC
  obtain ⟨hx, hb, hml, hown, hts, -⟩ := hC0
  unfold X13_gap_42_s at hf
  refine lv_iload_n hx hb dX13_gap_42 rfl (lv_at hl 3 rfl) ?_
  refine lv_aload_n hx hb dX13_gap_43 rfl (lv_at hl 0 rfl) ?_
  obtain ⟨x1, h2, hf⟩ := ob_some hf
  refine rR_fl_X13_35 hC hw h2 dX13_gap_44 ?_
  refine lv_iconst (v := 0) hx hb dX13_gap_47 (by decide) ?_
  obtain ⟨x3, h4, hf⟩ := ob_some hf
  refine gg_aldI hC hw h4 dX13_gap_48 ?_
  refine lv_icmp_ge (tgt := 86) hx hb dX13_gap_49 (by decide) (fun c15 => ?_) (fun c15 => ?_)
  · replace hf := (if_pos c15).symm.trans hf
    refine lv_iinc (v := (l2 + 1)) (lv' := [(2, .int (l2 + 1)), (0, .ref l0), (1, .int l1), (3, .int l3)]) hx hb dX13_gap_86 hl (k := 2) rfl rfl (by decide) rfl (fun ls hl => ?_)
    refine lv_goto (tgt := 9) hx hb dX13_gap_89 (by decide) ?_
    exact h_9 hf hw (lv_sub hl [1, 2, 0] rfl)
  · replace hf := (if_neg c15).symm.trans hf
    refine lv_iload_n hx hb dX13_gap_52 rfl (lv_at hl 1 rfl) ?_
    refine lv_aload_n hx hb dX13_gap_53 rfl (lv_at hl 0 rfl) ?_
    refine lv_iload_n hx hb dX13_gap_54 rfl (lv_at hl 3 rfl) ?_
    refine lv_aload_n hx hb dX13_gap_55 rfl (lv_at hl 0 rfl) ?_
    refine lv_iload_n hx hb dX13_gap_56 rfl (lv_at hl 3 rfl) ?_
    refine lv_iload_n hx hb dX13_gap_57 rfl (lv_at hl 2 rfl) ?_
    obtain ⟨_, h7, hf⟩ := ob_some hf
    obtain ⟨x5, h6, hf⟩ := ob_some hf
    refine gg_cVI (As := [.int l3, .int l2]) hC hw (X13_codeAt_M l E D A h6) h7 rfl g_ml_X13_133 hd_X13_codeAt (Nat.le_of_ble_eq_true rfl) (Nat.le_of_ble_eq_true rfl) hl.1 rfl (Nat.le_of_ble_eq_true rfl) dX13_gap_58 (fun H locs cells slots hw => ?_)
    obtain ⟨_, h10, hf⟩ := ob_some hf
    obtain ⟨x8, h9, hf⟩ := ob_some hf
    refine gg_cVI (As := [.int l3, .int x5]) hC hw (X13_valueOf_M l E D A h9) h10 rfl g_ml_X13_139 hd_X13_valueOf (Nat.le_of_ble_eq_true rfl) (Nat.le_of_ble_eq_true rfl) hl.1 rfl (Nat.le_of_ble_eq_true rfl) dX13_gap_61 (fun H locs cells slots hw => ?_)
    refine lv_aload_n hx hb dX13_gap_64 rfl (lv_at hl 0 rfl) ?_
    refine lv_iload_n hx hb dX13_gap_65 rfl (lv_at hl 3 rfl) ?_
    refine lv_iload_n hx hb dX13_gap_66 rfl (lv_at hl 2 rfl) ?_
    obtain ⟨_, h13, hf⟩ := ob_some hf
    obtain ⟨x11, h12, hf⟩ := ob_some hf
    refine gg_cVI (As := [.int l3, .int l2]) hC hw (X13_at_M l E D A h12) h13 rfl g_ml_X13_118 hd_X13_at (Nat.le_of_ble_eq_true rfl) (Nat.le_of_ble_eq_true rfl) hl.1 rfl (Nat.le_of_ble_eq_true rfl) dX13_gap_67 (fun H locs cells slots hw => ?_)
    refine lv_icmp_ne (tgt := 77) hx hb dX13_gap_70 (by decide) (fun c14 => ?_) (fun c14 => ?_)
    · replace hf := (if_neg c14).symm.trans hf
      refine lv_iconst (v := 1) hx hb dX13_gap_77 (by decide) ?_
      exact X13_gap_78_W hC hQ h_9 h_42 hf hw (lv_sub hl [0, 2, 3] rfl)
    · replace hf := (if_pos c14).symm.trans hf
      refine lv_iconst (v := 0) hx hb dX13_gap_73 (by decide) ?_
      refine lv_goto (tgt := 78) hx hb dX13_gap_74 (by decide) ?_
      exact X13_gap_78_W hC hQ h_9 h_42 hf hw (lv_sub hl [0, 2, 3] rfl)
def X13_gap_42 (E : gE) (r_9 : Nat → Int32 → Int32 → gS → Option (Int32 × gS)) : Nat → Nat → Int32 → Int32 → Int32 → gS → Option (Int32 × gS)
  | 0 => fun _ _ _ _ _ => none
  | n + 1 => X13_gap_42_s E r_9 (X13_gap_42 E r_9 n)
theorem X13_gap_42_W {res : (Int32 × gS)} (hC : gC E D A p R s m args meth c cX13_gap 4 RX13 "gap" 5 112) (hQ : gQI E D A p l e R s m args below meth c Q cX13_gap FieldType.int res) {r_9 : Nat → Int32 → Int32 → gS → Option (Int32 × gS)} (h_9 : ∀ {l0 : Nat} {l1 : Int32} {l2 : Int32} {σ : gS} {H : Heap} {locs : List Loc} {cells slots : Nat} {ls : Array Slot}, r_9 l0 l1 l2 σ = some res → gW E D A s σ H locs → lv_has ls 4 [(0, .ref l0), (1, .int l1), (2, .int l2)] → W p l e R s m args below meth c H locs cells slots Q (F0 m 9 ls [])) : ∀ (n : Nat), ∀ {l0 : Nat} {l1 : Int32} {l2 : Int32} {l3 : Int32} {σ : gS} {H : Heap} {locs : List Loc} {cells slots : Nat} {ls : Array Slot}, X13_gap_42 E r_9 n l0 l1 l2 l3 σ = some res → gW E D A s σ H locs → lv_has ls 4 [(0, .ref l0), (1, .int l1), (2, .int l2), (3, .int l3)] → W p l e R s m args below meth c H locs cells slots Q (F0 m 42 ls []) := by
  intro n
  induction n with
  | zero =>
    intros
    rename_i hf _ _
    exact absurd hf (fun h => by cases (show (none : Option (Int32 × gS)) = some res from h))
  | succ n ih =>
    intros
    rename_i hf hw hl
    exact X13_gap_42_s_W hC hQ h_9 ih hf hw hl

def X13_gap_38 (E : gE) (r_9 : Nat → Int32 → Int32 → gS → Option (Int32 × gS)) (l0 : Nat) (l2 : Int32) (s0 : Int32) (s1 : Int32) (σ : gS) : Option (Int32 × gS) :=
  X13_gap_42 E r_9 (gN E) l0 (s1 + s0) l2 (0 : Int32) σ
set_option maxHeartbeats 4000000 in
set_option maxRecDepth 100000 in
theorem X13_gap_38_W {σ : gS} {l0 : Nat} {l2 : Int32} {s0 : Int32} {s1 : Int32} {res : (Int32 × gS)} {ls : Array Slot} (hC : gC E D A p R s m args meth c cX13_gap 4 RX13 "gap" 5 112) (hQ : gQI E D A p l e R s m args below meth c Q cX13_gap FieldType.int res) {r_9 : Nat → Int32 → Int32 → gS → Option (Int32 × gS)} (h_9 : ∀ {l0 : Nat} {l1 : Int32} {l2 : Int32} {σ : gS} {H : Heap} {locs : List Loc} {cells slots : Nat} {ls : Array Slot}, r_9 l0 l1 l2 σ = some res → gW E D A s σ H locs → lv_has ls 4 [(0, .ref l0), (1, .int l1), (2, .int l2)] → W p l e R s m args below meth c H locs cells slots Q (F0 m 9 ls [])) (hf : X13_gap_38 E r_9 l0 l2 s0 s1 σ = some res) (hw : gW E D A s σ H locs) (hl : lv_has ls 4 [(0, .ref l0), (2, .int l2)]) : W p l e R s m args below meth c H locs cells slots Q (F0 m 38 ls [.int s0, .int s1]) := by
  have hC0 := hC
  obtain ⟨hx, hb, hml, hown, hts, -⟩ := hC0
  unfold X13_gap_38 at hf
  refine lv_iadd hx hb dX13_gap_38 ?_
  refine lv_istore_n (lv' := [(1, .int (s1 + s0)), (0, .ref l0), (2, .int l2)]) hx hb dX13_gap_39 rfl hl (by decide) rfl (fun ls hl => ?_)
  refine lv_iconst (v := 0) hx hb dX13_gap_40 (by decide) ?_
  refine lv_istore_n (lv' := [(3, .int (0 : Int32)), (1, .int (s1 + s0)), (0, .ref l0), (2, .int l2)]) hx hb dX13_gap_41 rfl hl (by decide) rfl (fun ls hl => ?_)
  exact X13_gap_42_W hC hQ h_9 (gN E) hf hw (lv_sub hl [2, 1, 3, 0] rfl)

def X13_gap_9_s (E : gE) (r_9 : Nat → Int32 → Int32 → gS → Option (Int32 × gS)) (l0 : Nat) (l1 : Int32) (l2 : Int32) (σ : gS) : Option (Int32 × gS) :=
  ob (gfR σ l0 11 8) fun x16 =>
  ob (graI E 0 σ x16 (1 : Int32)) fun x18 =>
  if x18 ≤ l2 then
    some (l1, σ)
  else
    ob (gcl σ l0 11) fun _ =>
    ob (X13_selects_f E σ l0 l2) fun x20 =>
    ob (gcl σ l0 11) fun _ =>
    ob (X13_selectsByCodes_f E σ l0 l2) fun x23 =>
    if x20 = x23 then
      X13_gap_38 E r_9 l0 l2 (0 : Int32) l1 σ
    else
      X13_gap_38 E r_9 l0 l2 (1 : Int32) l1 σ
set_option maxHeartbeats 4000000 in
set_option maxRecDepth 100000 in
theorem X13_gap_9_s_W {σ : gS} {l0 : Nat} {l1 : Int32} {l2 : Int32} {res : (Int32 × gS)} {ls : Array Slot} (hC : gC E D A p R s m args meth c cX13_gap 4 RX13 "gap" 5 112) (hQ : gQI E D A p l e R s m args below meth c Q cX13_gap FieldType.int res) {r_9 : Nat → Int32 → Int32 → gS → Option (Int32 × gS)} (h_9 : ∀ {l0 : Nat} {l1 : Int32} {l2 : Int32} {σ : gS} {H : Heap} {locs : List Loc} {cells slots : Nat} {ls : Array Slot}, r_9 l0 l1 l2 σ = some res → gW E D A s σ H locs → lv_has ls 4 [(0, .ref l0), (1, .int l1), (2, .int l2)] → W p l e R s m args below meth c H locs cells slots Q (F0 m 9 ls [])) (hf : X13_gap_9_s E r_9 l0 l1 l2 σ = some res) (hw : gW E D A s σ H locs) (hl : lv_has ls 4 [(0, .ref l0), (1, .int l1), (2, .int l2)]) : W p l e R s m args below meth c H locs cells slots Q (F0 m 9 ls []) := by
  have hC0 := hC
  obtain ⟨hx, hb, hml, hown, hts, -⟩ := hC0
  unfold X13_gap_9_s at hf
  refine lv_iload_n hx hb dX13_gap_9 rfl (lv_at hl 2 rfl) ?_
  refine lv_aload_n hx hb dX13_gap_10 rfl (lv_at hl 0 rfl) ?_
  obtain ⟨x16, h17, hf⟩ := ob_some hf
  refine rR_fl_X13_35 hC hw h17 dX13_gap_11 ?_
  refine lv_iconst (v := 1) hx hb dX13_gap_14 (by decide) ?_
  obtain ⟨x18, h19, hf⟩ := ob_some hf
  refine gg_aldI hC hw h19 dX13_gap_15 ?_
  refine lv_icmp_ge (tgt := 92) hx hb dX13_gap_16 (by decide) (fun c27 => ?_) (fun c27 => ?_)
  · replace hf := (if_pos c27).symm.trans hf
    refine lv_iload_n hx hb dX13_gap_92 rfl (lv_at hl 1 rfl) ?_
    cases hf
    exact hQ _ _ _ _ _ _ dX13_gap_93 rfl hw
  · replace hf := (if_neg c27).symm.trans hf
    refine lv_iload_n hx hb dX13_gap_19 rfl (lv_at hl 1 rfl) ?_
    refine lv_aload_n hx hb dX13_gap_20 rfl (lv_at hl 0 rfl) ?_
    refine lv_iload_n hx hb dX13_gap_21 rfl (lv_at hl 2 rfl) ?_
    obtain ⟨_, h22, hf⟩ := ob_some hf
    obtain ⟨x20, h21, hf⟩ := ob_some hf
    refine gg_cVI (As := [.int l2]) hC hw (X13_selects_M l E D A h21) h22 rfl g_ml_X13_183 hd_X13_selects (Nat.le_of_ble_eq_true rfl) (Nat.le_of_ble_eq_true rfl) hl.1 rfl (Nat.le_of_ble_eq_true rfl) dX13_gap_22 (fun H locs cells slots hw => ?_)
    refine lv_aload_n hx hb dX13_gap_25 rfl (lv_at hl 0 rfl) ?_
    refine lv_iload_n hx hb dX13_gap_26 rfl (lv_at hl 2 rfl) ?_
    obtain ⟨_, h25, hf⟩ := ob_some hf
    obtain ⟨x23, h24, hf⟩ := ob_some hf
    refine gg_cVI (As := [.int l2]) hC hw (X13_selectsByCodes_M l E D A h24) h25 rfl g_ml_X13_225 hd_X13_selectsByCodes (Nat.le_of_ble_eq_true rfl) (Nat.le_of_ble_eq_true rfl) hl.1 rfl (Nat.le_of_ble_eq_true rfl) dX13_gap_27 (fun H locs cells slots hw => ?_)
    refine lv_icmp_ne (tgt := 37) hx hb dX13_gap_30 (by decide) (fun c26 => ?_) (fun c26 => ?_)
    · replace hf := (if_neg c26).symm.trans hf
      refine lv_iconst (v := 1) hx hb dX13_gap_37 (by decide) ?_
      exact X13_gap_38_W hC hQ h_9 hf hw (lv_sub hl [0, 2] rfl)
    · replace hf := (if_pos c26).symm.trans hf
      refine lv_iconst (v := 0) hx hb dX13_gap_33 (by decide) ?_
      refine lv_goto (tgt := 38) hx hb dX13_gap_34 (by decide) ?_
      exact X13_gap_38_W hC hQ h_9 hf hw (lv_sub hl [0, 2] rfl)
def X13_gap_9 (E : gE) : Nat → Nat → Int32 → Int32 → gS → Option (Int32 × gS)
  | 0 => fun _ _ _ _ => none
  | n + 1 => X13_gap_9_s E (X13_gap_9 E n)
theorem X13_gap_9_W {res : (Int32 × gS)} (hC : gC E D A p R s m args meth c cX13_gap 4 RX13 "gap" 5 112) (hQ : gQI E D A p l e R s m args below meth c Q cX13_gap FieldType.int res) : ∀ (n : Nat), ∀ {l0 : Nat} {l1 : Int32} {l2 : Int32} {σ : gS} {H : Heap} {locs : List Loc} {cells slots : Nat} {ls : Array Slot}, X13_gap_9 E n l0 l1 l2 σ = some res → gW E D A s σ H locs → lv_has ls 4 [(0, .ref l0), (1, .int l1), (2, .int l2)] → W p l e R s m args below meth c H locs cells slots Q (F0 m 9 ls []) := by
  intro n
  induction n with
  | zero =>
    intros
    rename_i hf _ _
    exact absurd hf (fun h => by cases (show (none : Option (Int32 × gS)) = some res from h))
  | succ n ih =>
    intros
    rename_i hf hw hl
    exact X13_gap_9_s_W hC hQ ih hf hw hl

def X13_gap (E : gE) (l0 : Nat) (σ : gS) : Option (Int32 × gS) :=
  ob (gpf E σ l0 11 10 (.int (0 : Int32))) fun σ28 =>
  X13_gap_9 E (gN E) l0 (0 : Int32) (0 : Int32) σ28
set_option maxHeartbeats 4000000 in
set_option maxRecDepth 100000 in
theorem X13_gap_W {σ : gS} {l0 : Nat} {res : (Int32 × gS)} {ls : Array Slot} (hC : gC E D A p R s m args meth c cX13_gap 4 RX13 "gap" 5 112) (hQ : gQI E D A p l e R s m args below meth c Q cX13_gap FieldType.int res) (hf : X13_gap E l0 σ = some res) (hw : gW E D A s σ H locs) (hl : lv_has ls 4 [(0, .ref l0)]) : W p l e R s m args below meth c H locs cells slots Q (F0 m 0 ls []) := by
  have hC0 := hC
  obtain ⟨hx, hb, hml, hown, hts, -⟩ := hC0
  unfold X13_gap at hf
  refine lv_aload_n hx hb dX13_gap_0 rfl (lv_at hl 0 rfl) ?_
  refine lv_iconst (v := 0) hx hb dX13_gap_1 (by decide) ?_
  obtain ⟨σ28, h29, hf⟩ := ob_some hf
  refine p_fl_X13_85 hC hw h29 rfl rfl dX13_gap_2 (fun H locs hw => ?_)
  refine lv_iconst (v := 0) hx hb dX13_gap_5 (by decide) ?_
  refine lv_istore_n (lv' := [(1, .int (0 : Int32)), (0, .ref l0)]) hx hb dX13_gap_6 rfl hl (by decide) rfl (fun ls hl => ?_)
  refine lv_iconst (v := 0) hx hb dX13_gap_7 (by decide) ?_
  refine lv_istore_n (lv' := [(2, .int (0 : Int32)), (1, .int (0 : Int32)), (0, .ref l0)]) hx hb dX13_gap_8 rfl hl (by decide) rfl (fun ls hl => ?_)
  exact X13_gap_9_W hC hQ (gN E) hf hw (lv_sub hl [2, 1, 0] rfl)

def X13_gap_f (E : gE) (l0 : Nat) (σ : gS) : Option (Int32 × gS) := X13_gap E l0 σ
set_option maxRecDepth 100000 in
theorem X13_gap_M (l : Launch) (E : gE) (D : va_G) (A : Nat → Prop) {l0 : Nat} {σ : gS} {res : (Int32 × gS)} (hf : X13_gap_f E l0 σ = some res) : gCI l E D A yX13_gap cX13_gap 4 5 112 (some FieldType.int) [.ref l0] σ res := by
  refine gg_entI (own := RX13) (nm := "gap") (ty := FieldType.int) (by decide +kernel) rfl rfl (Nat.le_of_ble_eq_true rfl) rfl ?_
  intro p e R s m args below meth c Q ls hC hw hQ hl
  have hl : lv_has ls 4 [(0, .ref l0)] := hl
  exact X13_gap_W hC hQ hf hw hl

def X13_putRow_2_s (E : gE) (r_2 : Nat → Int32 → gS → Option gS) (l0 : Nat) (l1 : Int32) (σ : gS) : Option gS :=
  ob (gfR σ l0 11 8) fun x1 =>
  ob (graI E 0 σ x1 (0 : Int32)) fun x3 =>
  if x3 ≤ l1 then
    ob (gfR σ l0 11 8) fun x5 =>
    ob (graI E 0 σ x5 (1 : Int32)) fun x7 =>
    ob (gwaI E σ x5 (1 : Int32) (x7 + (1 : Int32))) fun σ9 =>
    some σ9
  else
    ob (gfR σ l0 11 8) fun x11 =>
    ob (gfR σ l0 11 8) fun x13 =>
    ob (graI E 0 σ x13 (1 : Int32)) fun x15 =>
    ob (X13_placeOf_f E σ l1 x15) fun x17 =>
    ob (gfR σ l0 11 6) fun x19 =>
    ob (graI E 0 σ x19 l1) fun x21 =>
    ob (gwaI E σ x11 x17 x21) fun σ23 =>
    ob (gfR σ23 l0 11 6) fun x25 =>
    ob (graI E 0 σ23 x25 l1) fun x27 =>
    ob (gcl σ23 l0 11) fun _ =>
    ob (X13_learn_f E l0 l1 x27 σ23) fun x29 =>
    r_2 l0 (l1 + 1) x29
set_option maxHeartbeats 4000000 in
set_option maxRecDepth 100000 in
theorem X13_putRow_2_s_W {σ : gS} {l0 : Nat} {l1 : Int32} {σz : gS} {ls : Array Slot} (hC : gC E D A p R s m args meth c cX13_putRow 2 RX13 "putRow" 1 23) (hQ : gQV E D A p l e R s m args below meth c Q cX13_putRow σz) {r_2 : Nat → Int32 → gS → Option gS} (h_2 : ∀ {l0 : Nat} {l1 : Int32} {σ : gS} {H : Heap} {locs : List Loc} {cells slots : Nat} {ls : Array Slot}, r_2 l0 l1 σ = some σz → gW E D A s σ H locs → lv_has ls 2 [(0, .ref l0), (1, .int l1)] → W p l e R s m args below meth c H locs cells slots Q (F0 m 2 ls [])) (hf : X13_putRow_2_s E r_2 l0 l1 σ = some σz) (hw : gW E D A s σ H locs) (hl : lv_has ls 2 [(0, .ref l0), (1, .int l1)]) : W p l e R s m args below meth c H locs cells slots Q (F0 m 2 ls []) := by
  have hC0 := hC
  obtain ⟨hx, hb, hml, hown, hts, -⟩ := hC0
  unfold X13_putRow_2_s at hf
  refine lv_iload_n hx hb dX13_putRow_2 rfl (lv_at hl 1 rfl) ?_
  refine lv_aload_n hx hb dX13_putRow_3 rfl (lv_at hl 0 rfl) ?_
  obtain ⟨x1, h2, hf⟩ := ob_some hf
  refine rR_fl_X13_35 hC hw h2 dX13_putRow_4 ?_
  refine lv_iconst (v := 0) hx hb dX13_putRow_7 (by decide) ?_
  obtain ⟨x3, h4, hf⟩ := ob_some hf
  refine gg_aldI hC hw h4 dX13_putRow_8 ?_
  refine lv_icmp_ge (tgt := 50) hx hb dX13_putRow_9 (by decide) (fun c32 => ?_) (fun c32 => ?_)
  · replace hf := (if_pos c32).symm.trans hf
    refine lv_aload_n hx hb dX13_putRow_50 rfl (lv_at hl 0 rfl) ?_
    obtain ⟨x5, h6, hf⟩ := ob_some hf
    refine rR_fl_X13_35 hC hw h6 dX13_putRow_51 ?_
    refine lv_iconst (v := 1) hx hb dX13_putRow_54 (by decide) ?_
    refine lv_dup2_11 hx hb dX13_putRow_55 rfl rfl ?_
    obtain ⟨x7, h8, hf⟩ := ob_some hf
    refine gg_aldI hC hw h8 dX13_putRow_56 ?_
    refine lv_iconst (v := 1) hx hb dX13_putRow_57 (by decide) ?_
    refine lv_iadd hx hb dX13_putRow_58 ?_
    obtain ⟨σ9, h10, hf⟩ := ob_some hf
    refine gg_astI hC hw h10 dX13_putRow_59 (fun H locs hw => ?_)
    cases hf
    exact hQ _ _ _ _ _ _ dX13_putRow_60 hw
  · replace hf := (if_neg c32).symm.trans hf
    refine lv_aload_n hx hb dX13_putRow_12 rfl (lv_at hl 0 rfl) ?_
    obtain ⟨x11, h12, hf⟩ := ob_some hf
    refine rR_fl_X13_35 hC hw h12 dX13_putRow_13 ?_
    refine lv_iload_n hx hb dX13_putRow_16 rfl (lv_at hl 1 rfl) ?_
    refine lv_aload_n hx hb dX13_putRow_17 rfl (lv_at hl 0 rfl) ?_
    obtain ⟨x13, h14, hf⟩ := ob_some hf
    refine rR_fl_X13_35 hC hw h14 dX13_putRow_18 ?_
    refine lv_iconst (v := 1) hx hb dX13_putRow_21 (by decide) ?_
    obtain ⟨x15, h16, hf⟩ := ob_some hf
    refine gg_aldI hC hw h16 dX13_putRow_22 ?_
    obtain ⟨x17, h18, hf⟩ := ob_some hf
    refine gg_cSI (As := [.int l1, .int x15]) hC hw (X13_placeOf_M l E D A h18) g_ml_X13_96 hd_X13_placeOf.2 (Nat.le_of_ble_eq_true rfl) (Nat.le_of_ble_eq_true rfl) hl.1 rfl (Nat.le_of_ble_eq_true rfl) dX13_putRow_23 (fun H locs cells slots hw => ?_)
    refine lv_aload_n hx hb dX13_putRow_26 rfl (lv_at hl 0 rfl) ?_
    obtain ⟨x19, h20, hf⟩ := ob_some hf
    refine rR_fl_X13_29 hC hw h20 dX13_putRow_27 ?_
    refine lv_iload_n hx hb dX13_putRow_30 rfl (lv_at hl 1 rfl) ?_
    obtain ⟨x21, h22, hf⟩ := ob_some hf
    refine gg_aldI hC hw h22 dX13_putRow_31 ?_
    obtain ⟨σ23, h24, hf⟩ := ob_some hf
    refine gg_astI hC hw h24 dX13_putRow_32 (fun H locs hw => ?_)
    refine lv_aload_n hx hb dX13_putRow_33 rfl (lv_at hl 0 rfl) ?_
    refine lv_iload_n hx hb dX13_putRow_34 rfl (lv_at hl 1 rfl) ?_
    refine lv_aload_n hx hb dX13_putRow_35 rfl (lv_at hl 0 rfl) ?_
    obtain ⟨x25, h26, hf⟩ := ob_some hf
    refine rR_fl_X13_29 hC hw h26 dX13_putRow_36 ?_
    refine lv_iload_n hx hb dX13_putRow_39 rfl (lv_at hl 1 rfl) ?_
    obtain ⟨x27, h28, hf⟩ := ob_some hf
    refine gg_aldI hC hw h28 dX13_putRow_40 ?_
    obtain ⟨_, h31, hf⟩ := ob_some hf
    obtain ⟨x29, h30, hf⟩ := ob_some hf
    refine gg_cVV (As := [.int l1, .int x27]) hC hw (X13_learn_M l E D A h30) h31 rfl g_ml_X13_228 hd_X13_learn (Nat.le_of_ble_eq_true rfl) (Nat.le_of_ble_eq_true rfl) hl.1 rfl (Nat.le_of_ble_eq_true rfl) dX13_putRow_41 (fun H locs cells slots hw => ?_)
    refine lv_iinc (v := (l1 + 1)) (lv' := [(1, .int (l1 + 1)), (0, .ref l0)]) hx hb dX13_putRow_44 hl (k := 1) rfl rfl (by decide) rfl (fun ls hl => ?_)
    refine lv_goto (tgt := 2) hx hb dX13_putRow_47 (by decide) ?_
    exact h_2 hf hw (lv_sub hl [1, 0] rfl)
def X13_putRow_2 (E : gE) : Nat → Nat → Int32 → gS → Option gS
  | 0 => fun _ _ _ => none
  | n + 1 => X13_putRow_2_s E (X13_putRow_2 E n)
theorem X13_putRow_2_W {σz : gS} (hC : gC E D A p R s m args meth c cX13_putRow 2 RX13 "putRow" 1 23) (hQ : gQV E D A p l e R s m args below meth c Q cX13_putRow σz) : ∀ (n : Nat), ∀ {l0 : Nat} {l1 : Int32} {σ : gS} {H : Heap} {locs : List Loc} {cells slots : Nat} {ls : Array Slot}, X13_putRow_2 E n l0 l1 σ = some σz → gW E D A s σ H locs → lv_has ls 2 [(0, .ref l0), (1, .int l1)] → W p l e R s m args below meth c H locs cells slots Q (F0 m 2 ls []) := by
  intro n
  induction n with
  | zero =>
    intros
    rename_i hf _ _
    exact absurd hf (fun h => by cases (show (none : Option gS) = some σz from h))
  | succ n ih =>
    intros
    rename_i hf hw hl
    exact X13_putRow_2_s_W hC hQ ih hf hw hl

def X13_putRow (E : gE) (l0 : Nat) (σ : gS) : Option gS :=
  X13_putRow_2 E (gN E) l0 (0 : Int32) σ
set_option maxHeartbeats 4000000 in
set_option maxRecDepth 100000 in
theorem X13_putRow_W {σ : gS} {l0 : Nat} {σz : gS} {ls : Array Slot} (hC : gC E D A p R s m args meth c cX13_putRow 2 RX13 "putRow" 1 23) (hQ : gQV E D A p l e R s m args below meth c Q cX13_putRow σz) (hf : X13_putRow E l0 σ = some σz) (hw : gW E D A s σ H locs) (hl : lv_has ls 2 [(0, .ref l0)]) : W p l e R s m args below meth c H locs cells slots Q (F0 m 0 ls []) := by
  have hC0 := hC
  obtain ⟨hx, hb, hml, hown, hts, -⟩ := hC0
  unfold X13_putRow at hf
  refine lv_iconst (v := 0) hx hb dX13_putRow_0 (by decide) ?_
  refine lv_istore_n (lv' := [(1, .int (0 : Int32)), (0, .ref l0)]) hx hb dX13_putRow_1 rfl hl (by decide) rfl (fun ls hl => ?_)
  exact X13_putRow_2_W hC hQ (gN E) hf hw (lv_sub hl [1, 0] rfl)

def X13_putRow_f (E : gE) (l0 : Nat) (σ : gS) : Option gS := X13_putRow E l0 σ
set_option maxRecDepth 100000 in
theorem X13_putRow_M (l : Launch) (E : gE) (D : va_G) (A : Nat → Prop) {l0 : Nat} {σ : gS} {σz : gS} (hf : X13_putRow_f E l0 σ = some σz) : gCV l E D A yX13_putRow cX13_putRow 2 1 23 none [.ref l0] σ σz := by
  refine gg_entV (own := RX13) (nm := "putRow") (by decide +kernel) rfl rfl (Nat.le_of_ble_eq_true rfl) rfl ?_
  intro p e R s m args below meth c Q ls hC hw hQ hl
  have hl : lv_has ls 2 [(0, .ref l0)] := hl
  exact X13_putRow_W hC hQ hf hw hl

def X13_doRow (E : gE) (l0 : Nat) (σ : gS) : Option (Int32 × gS) :=
  ob (gfR σ l0 11 8) fun x1 =>
  ob (graI E 0 σ x1 (1 : Int32)) fun x3 =>
  if x3 = (60 : Int32) then
    some ((2 : Int32), σ)
  else
    ob (gcl σ l0 11) fun _ =>
    ob (X13_putRow_f E l0 σ) fun x5 =>
    ob (gfR x5 l0 11 8) fun x8 =>
    ob (graI E 0 x5 x8 (1 : Int32)) fun x10 =>
    ob (gpf E x5 l0 11 12 (.int (x10 - (1 : Int32)))) fun σ12 =>
    some ((0 : Int32), σ12)
set_option maxHeartbeats 4000000 in
set_option maxRecDepth 100000 in
theorem X13_doRow_W {σ : gS} {l0 : Nat} {res : (Int32 × gS)} {ls : Array Slot} (hC : gC E D A p R s m args meth c cX13_doRow 1 RX13 "doRow" 2 44) (hQ : gQI E D A p l e R s m args below meth c Q cX13_doRow FieldType.int res) (hf : X13_doRow E l0 σ = some res) (hw : gW E D A s σ H locs) (hl : lv_has ls 1 [(0, .ref l0)]) : W p l e R s m args below meth c H locs cells slots Q (F0 m 0 ls []) := by
  have hC0 := hC
  obtain ⟨hx, hb, hml, hown, hts, -⟩ := hC0
  unfold X13_doRow at hf
  refine lv_aload_n hx hb dX13_doRow_0 rfl (lv_at hl 0 rfl) ?_
  obtain ⟨x1, h2, hf⟩ := ob_some hf
  refine rR_fl_X13_35 hC hw h2 dX13_doRow_1 ?_
  refine lv_iconst (v := 1) hx hb dX13_doRow_4 (by decide) ?_
  obtain ⟨x3, h4, hf⟩ := ob_some hf
  refine gg_aldI hC hw h4 dX13_doRow_5 ?_
  refine lv_bipush (v := 60) hx hb dX13_doRow_6 (by decide) ?_
  refine lv_icmp_ne (tgt := 13) hx hb dX13_doRow_8 (by decide) (fun c14 => ?_) (fun c14 => ?_)
  · replace hf := (if_neg c14).symm.trans hf
    refine lv_aload_n hx hb dX13_doRow_13 rfl (lv_at hl 0 rfl) ?_
    obtain ⟨_, h7, hf⟩ := ob_some hf
    obtain ⟨x5, h6, hf⟩ := ob_some hf
    refine gg_cVV (As := []) hC hw (X13_putRow_M l E D A h6) h7 rfl g_ml_X13_82 hd_X13_putRow (Nat.le_of_ble_eq_true rfl) (Nat.le_of_ble_eq_true rfl) hl.1 rfl (Nat.le_of_ble_eq_true rfl) dX13_doRow_14 (fun H locs cells slots hw => ?_)
    refine lv_aload_n hx hb dX13_doRow_17 rfl (lv_at hl 0 rfl) ?_
    refine lv_aload_n hx hb dX13_doRow_18 rfl (lv_at hl 0 rfl) ?_
    obtain ⟨x8, h9, hf⟩ := ob_some hf
    refine rR_fl_X13_35 hC hw h9 dX13_doRow_19 ?_
    refine lv_iconst (v := 1) hx hb dX13_doRow_22 (by decide) ?_
    obtain ⟨x10, h11, hf⟩ := ob_some hf
    refine gg_aldI hC hw h11 dX13_doRow_23 ?_
    refine lv_iconst (v := 1) hx hb dX13_doRow_24 (by decide) ?_
    refine lv_isub hx hb dX13_doRow_25 ?_
    obtain ⟨σ12, h13, hf⟩ := ob_some hf
    refine p_fl_X13_231 hC hw h13 rfl rfl dX13_doRow_26 (fun H locs hw => ?_)
    refine lv_iconst (v := 0) hx hb dX13_doRow_29 (by decide) ?_
    cases hf
    exact hQ _ _ _ _ _ _ dX13_doRow_30 rfl hw
  · replace hf := (if_pos c14).symm.trans hf
    refine lv_iconst (v := 2) hx hb dX13_doRow_11 (by decide) ?_
    cases hf
    exact hQ _ _ _ _ _ _ dX13_doRow_12 rfl hw

def X13_doRow_f (E : gE) (l0 : Nat) (σ : gS) : Option (Int32 × gS) := X13_doRow E l0 σ
set_option maxRecDepth 100000 in
theorem X13_doRow_M (l : Launch) (E : gE) (D : va_G) (A : Nat → Prop) {l0 : Nat} {σ : gS} {res : (Int32 × gS)} (hf : X13_doRow_f E l0 σ = some res) : gCI l E D A yX13_doRow cX13_doRow 1 2 44 (some FieldType.int) [.ref l0] σ res := by
  refine gg_entI (own := RX13) (nm := "doRow") (ty := FieldType.int) (by decide +kernel) rfl rfl (Nat.le_of_ble_eq_true rfl) rfl ?_
  intro p e R s m args below meth c Q ls hC hw hQ hl
  have hl : lv_has ls 1 [(0, .ref l0)] := hl
  exact X13_doRow_W hC hQ hf hw hl

def X13_takeOut_16_s (E : gE) (r_16 : Nat → Int32 → gS → Option gS) (l0 : Nat) (l2 : Int32) (σ : gS) : Option gS :=
  ob (gfR σ l0 11 8) fun x1 =>
  ob (graI E 0 σ x1 (1 : Int32)) fun x3 =>
  ob (X13_placeOf_f E σ (0 : Int32) x3) fun x5 =>
  if x5 ≤ l2 then
    some σ
  else
    ob (gfR σ l0 11 8) fun x7 =>
    ob (gfR σ l0 11 8) fun x9 =>
    ob (graI E 0 σ x9 (l2 + (6 : Int32))) fun x11 =>
    ob (gwaI E σ x7 l2 x11) fun σ13 =>
    r_16 l0 (l2 + 1) σ13
set_option maxHeartbeats 4000000 in
set_option maxRecDepth 100000 in
theorem X13_takeOut_16_s_W {σ : gS} {l0 : Nat} {l2 : Int32} {σz : gS} {ls : Array Slot} (hC : gC E D A p R s m args meth c cX13_takeOut 3 RX13 "takeOut" 1 21) (hQ : gQV E D A p l e R s m args below meth c Q cX13_takeOut σz) {r_16 : Nat → Int32 → gS → Option gS} (h_16 : ∀ {l0 : Nat} {l2 : Int32} {σ : gS} {H : Heap} {locs : List Loc} {cells slots : Nat} {ls : Array Slot}, r_16 l0 l2 σ = some σz → gW E D A s σ H locs → lv_has ls 3 [(0, .ref l0), (2, .int l2)] → W p l e R s m args below meth c H locs cells slots Q (F0 m 16 ls [])) (hf : X13_takeOut_16_s E r_16 l0 l2 σ = some σz) (hw : gW E D A s σ H locs) (hl : lv_has ls 3 [(0, .ref l0), (2, .int l2)]) : W p l e R s m args below meth c H locs cells slots Q (F0 m 16 ls []) := by
  have hC0 := hC
  obtain ⟨hx, hb, hml, hown, hts, -⟩ := hC0
  unfold X13_takeOut_16_s at hf
  refine lv_iload_n hx hb dX13_takeOut_16 rfl (lv_at hl 1 rfl) ?_
  refine lv_iconst (v := 0) hx hb dX13_takeOut_17 (by decide) ?_
  refine lv_aload_n hx hb dX13_takeOut_18 rfl (lv_at hl 0 rfl) ?_
  obtain ⟨x1, h2, hf⟩ := ob_some hf
  refine rR_fl_X13_35 hC hw h2 dX13_takeOut_19 ?_
  refine lv_iconst (v := 1) hx hb dX13_takeOut_22 (by decide) ?_
  obtain ⟨x3, h4, hf⟩ := ob_some hf
  refine gg_aldI hC hw h4 dX13_takeOut_23 ?_
  obtain ⟨x5, h6, hf⟩ := ob_some hf
  refine gg_cSI (As := [.int (0 : Int32), .int x3]) hC hw (X13_placeOf_M l E D A h6) g_ml_X13_96 hd_X13_placeOf.2 (Nat.le_of_ble_eq_true rfl) (Nat.le_of_ble_eq_true rfl) hl.1 rfl (Nat.le_of_ble_eq_true rfl) dX13_takeOut_24 (fun H locs cells slots hw => ?_)
  refine lv_icmp_ge (tgt := 51) hx hb dX13_takeOut_27 (by decide) (fun c15 => ?_) (fun c15 => ?_)
  · replace hf := (if_pos c15).symm.trans hf
    cases hf
    exact hQ _ _ _ _ _ _ dX13_takeOut_51 hw
  · replace hf := (if_neg c15).symm.trans hf
    refine lv_aload_n hx hb dX13_takeOut_30 rfl (lv_at hl 0 rfl) ?_
    obtain ⟨x7, h8, hf⟩ := ob_some hf
    refine rR_fl_X13_35 hC hw h8 dX13_takeOut_31 ?_
    refine lv_iload_n hx hb dX13_takeOut_34 rfl (lv_at hl 1 rfl) ?_
    refine lv_aload_n hx hb dX13_takeOut_35 rfl (lv_at hl 0 rfl) ?_
    obtain ⟨x9, h10, hf⟩ := ob_some hf
    refine rR_fl_X13_35 hC hw h10 dX13_takeOut_36 ?_
    refine lv_iload_n hx hb dX13_takeOut_39 rfl (lv_at hl 1 rfl) ?_
    refine lv_bipush (v := 6) hx hb dX13_takeOut_40 (by decide) ?_
    refine lv_iadd hx hb dX13_takeOut_42 ?_
    obtain ⟨x11, h12, hf⟩ := ob_some hf
    refine gg_aldI hC hw h12 dX13_takeOut_43 ?_
    obtain ⟨σ13, h14, hf⟩ := ob_some hf
    refine gg_astI hC hw h14 dX13_takeOut_44 (fun H locs hw => ?_)
    refine lv_iinc (v := (l2 + 1)) (lv' := [(2, .int (l2 + 1)), (0, .ref l0)]) hx hb dX13_takeOut_45 hl (k := 1) rfl rfl (by decide) rfl (fun ls hl => ?_)
    refine lv_goto (tgt := 16) hx hb dX13_takeOut_48 (by decide) ?_
    exact h_16 hf hw (lv_sub hl [1, 0] rfl)
def X13_takeOut_16 (E : gE) : Nat → Nat → Int32 → gS → Option gS
  | 0 => fun _ _ _ => none
  | n + 1 => X13_takeOut_16_s E (X13_takeOut_16 E n)
theorem X13_takeOut_16_W {σz : gS} (hC : gC E D A p R s m args meth c cX13_takeOut 3 RX13 "takeOut" 1 21) (hQ : gQV E D A p l e R s m args below meth c Q cX13_takeOut σz) : ∀ (n : Nat), ∀ {l0 : Nat} {l2 : Int32} {σ : gS} {H : Heap} {locs : List Loc} {cells slots : Nat} {ls : Array Slot}, X13_takeOut_16 E n l0 l2 σ = some σz → gW E D A s σ H locs → lv_has ls 3 [(0, .ref l0), (2, .int l2)] → W p l e R s m args below meth c H locs cells slots Q (F0 m 16 ls []) := by
  intro n
  induction n with
  | zero =>
    intros
    rename_i hf _ _
    exact absurd hf (fun h => by cases (show (none : Option gS) = some σz from h))
  | succ n ih =>
    intros
    rename_i hf hw hl
    exact X13_takeOut_16_s_W hC hQ ih hf hw hl

def X13_takeOut (E : gE) (l0 : Nat) (l1 : Int32) (σ : gS) : Option gS :=
  ob (gfR σ l0 11 8) fun x16 =>
  ob (graI E 0 σ x16 (1 : Int32)) fun x18 =>
  ob (gwaI E σ x16 (1 : Int32) (x18 - (1 : Int32))) fun σ20 =>
  ob (X13_placeOf_f E σ20 (0 : Int32) l1) fun x22 =>
  X13_takeOut_16 E (gN E) l0 x22 σ20
set_option maxHeartbeats 4000000 in
set_option maxRecDepth 100000 in
theorem X13_takeOut_W {σ : gS} {l0 : Nat} {l1 : Int32} {σz : gS} {ls : Array Slot} (hC : gC E D A p R s m args meth c cX13_takeOut 3 RX13 "takeOut" 1 21) (hQ : gQV E D A p l e R s m args below meth c Q cX13_takeOut σz) (hf : X13_takeOut E l0 l1 σ = some σz) (hw : gW E D A s σ H locs) (hl : lv_has ls 3 [(0, .ref l0), (1, .int l1)]) : W p l e R s m args below meth c H locs cells slots Q (F0 m 0 ls []) := by
  have hC0 := hC
  obtain ⟨hx, hb, hml, hown, hts, -⟩ := hC0
  unfold X13_takeOut at hf
  refine lv_aload_n hx hb dX13_takeOut_0 rfl (lv_at hl 0 rfl) ?_
  obtain ⟨x16, h17, hf⟩ := ob_some hf
  refine rR_fl_X13_35 hC hw h17 dX13_takeOut_1 ?_
  refine lv_iconst (v := 1) hx hb dX13_takeOut_4 (by decide) ?_
  refine lv_dup2_11 hx hb dX13_takeOut_5 rfl rfl ?_
  obtain ⟨x18, h19, hf⟩ := ob_some hf
  refine gg_aldI hC hw h19 dX13_takeOut_6 ?_
  refine lv_iconst (v := 1) hx hb dX13_takeOut_7 (by decide) ?_
  refine lv_isub hx hb dX13_takeOut_8 ?_
  obtain ⟨σ20, h21, hf⟩ := ob_some hf
  refine gg_astI hC hw h21 dX13_takeOut_9 (fun H locs hw => ?_)
  refine lv_iconst (v := 0) hx hb dX13_takeOut_10 (by decide) ?_
  refine lv_iload_n hx hb dX13_takeOut_11 rfl (lv_at hl 1 rfl) ?_
  obtain ⟨x22, h23, hf⟩ := ob_some hf
  refine gg_cSI (As := [.int (0 : Int32), .int l1]) hC hw (X13_placeOf_M l E D A h23) g_ml_X13_96 hd_X13_placeOf.2 (Nat.le_of_ble_eq_true rfl) (Nat.le_of_ble_eq_true rfl) hl.1 rfl (Nat.le_of_ble_eq_true rfl) dX13_takeOut_12 (fun H locs cells slots hw => ?_)
  refine lv_istore_n (lv' := [(2, .int x22), (0, .ref l0), (1, .int l1)]) hx hb dX13_takeOut_15 rfl hl (by decide) rfl (fun ls hl => ?_)
  exact X13_takeOut_16_W hC hQ (gN E) hf hw (lv_sub hl [1, 0] rfl)

def X13_takeOut_f (E : gE) (l0 : Nat) (l1 : Int32) (σ : gS) : Option gS := X13_takeOut E l0 l1 σ
set_option maxRecDepth 100000 in
theorem X13_takeOut_M (l : Launch) (E : gE) (D : va_G) (A : Nat → Prop) {l0 : Nat} {l1 : Int32} {σ : gS} {σz : gS} (hf : X13_takeOut_f E l0 l1 σ = some σz) : gCV l E D A yX13_takeOut cX13_takeOut 3 1 21 none [.ref l0, .int l1] σ σz := by
  refine gg_entV (own := RX13) (nm := "takeOut") (by decide +kernel) rfl rfl (Nat.le_of_ble_eq_true rfl) rfl ?_
  intro p e R s m args below meth c Q ls hC hw hQ hl
  have hl : lv_has ls 3 [(0, .ref l0), (1, .int l1)] := hl
  exact X13_takeOut_W hC hQ hf hw hl

def X13_doSet (E : gE) (l0 : Nat) (l1 : Int32) (l2 : Int32) (l3 : Int32) (σ : gS) : Option (Int32 × gS) :=
  ob (gcl σ l0 11) fun _ =>
  ob (X13_isCell_f E σ l0 l1 l2) fun x1 =>
  if x1 = 0 then
    some ((1 : Int32), σ)
  else
    ob (gcl σ l0 11) fun _ =>
    ob (X13_at_f E σ l0 l1 l2) fun x4 =>
    ob (gpf E σ l0 11 12 (.int x4)) fun σ7 =>
    ob (gfR σ7 l0 11 8) fun x9 =>
    ob (X13_placeOf_f E σ7 l1 l2) fun x11 =>
    ob (gwaI E σ7 x9 x11 l3) fun σ13 =>
    ob (gcl σ13 l0 11) fun _ =>
    ob (X13_learn_f E l0 l1 l3 σ13) fun x15 =>
    some ((0 : Int32), x15)
set_option maxHeartbeats 4000000 in
set_option maxRecDepth 100000 in
theorem X13_doSet_W {σ : gS} {l0 : Nat} {l1 : Int32} {l2 : Int32} {l3 : Int32} {res : (Int32 × gS)} {ls : Array Slot} (hC : gC E D A p R s m args meth c cX13_doSet 4 RX13 "doSet" 3 65) (hQ : gQI E D A p l e R s m args below meth c Q cX13_doSet FieldType.int res) (hf : X13_doSet E l0 l1 l2 l3 σ = some res) (hw : gW E D A s σ H locs) (hl : lv_has ls 4 [(0, .ref l0), (1, .int l1), (2, .int l2), (3, .int l3)]) : W p l e R s m args below meth c H locs cells slots Q (F0 m 0 ls []) := by
  have hC0 := hC
  obtain ⟨hx, hb, hml, hown, hts, -⟩ := hC0
  unfold X13_doSet at hf
  refine lv_aload_n hx hb dX13_doSet_0 rfl (lv_at hl 0 rfl) ?_
  refine lv_iload_n hx hb dX13_doSet_1 rfl (lv_at hl 1 rfl) ?_
  refine lv_iload_n hx hb dX13_doSet_2 rfl (lv_at hl 2 rfl) ?_
  obtain ⟨_, h3, hf⟩ := ob_some hf
  obtain ⟨x1, h2, hf⟩ := ob_some hf
  refine gg_cVI (As := [.int l1, .int l2]) hC hw (X13_isCell_M l E D A h2) h3 rfl g_ml_X13_130 hd_X13_isCell (Nat.le_of_ble_eq_true rfl) (Nat.le_of_ble_eq_true rfl) hl.1 rfl (Nat.le_of_ble_eq_true rfl) dX13_doSet_3 (fun H locs cells slots hw => ?_)
  refine lv_if_ne (tgt := 11) hx hb dX13_doSet_6 (by decide) (fun c18 => ?_) (fun c18 => ?_)
  · replace hf := (if_neg c18).symm.trans hf
    refine lv_aload_n hx hb dX13_doSet_11 rfl (lv_at hl 0 rfl) ?_
    refine lv_aload_n hx hb dX13_doSet_12 rfl (lv_at hl 0 rfl) ?_
    refine lv_iload_n hx hb dX13_doSet_13 rfl (lv_at hl 1 rfl) ?_
    refine lv_iload_n hx hb dX13_doSet_14 rfl (lv_at hl 2 rfl) ?_
    obtain ⟨_, h6, hf⟩ := ob_some hf
    obtain ⟨x4, h5, hf⟩ := ob_some hf
    refine gg_cVI (As := [.int l1, .int l2]) hC hw (X13_at_M l E D A h5) h6 rfl g_ml_X13_118 hd_X13_at (Nat.le_of_ble_eq_true rfl) (Nat.le_of_ble_eq_true rfl) hl.1 rfl (Nat.le_of_ble_eq_true rfl) dX13_doSet_15 (fun H locs cells slots hw => ?_)
    obtain ⟨σ7, h8, hf⟩ := ob_some hf
    refine p_fl_X13_231 hC hw h8 rfl rfl dX13_doSet_18 (fun H locs hw => ?_)
    refine lv_aload_n hx hb dX13_doSet_21 rfl (lv_at hl 0 rfl) ?_
    obtain ⟨x9, h10, hf⟩ := ob_some hf
    refine rR_fl_X13_35 hC hw h10 dX13_doSet_22 ?_
    refine lv_iload_n hx hb dX13_doSet_25 rfl (lv_at hl 1 rfl) ?_
    refine lv_iload_n hx hb dX13_doSet_26 rfl (lv_at hl 2 rfl) ?_
    obtain ⟨x11, h12, hf⟩ := ob_some hf
    refine gg_cSI (As := [.int l1, .int l2]) hC hw (X13_placeOf_M l E D A h12) g_ml_X13_96 hd_X13_placeOf.2 (Nat.le_of_ble_eq_true rfl) (Nat.le_of_ble_eq_true rfl) hl.1 rfl (Nat.le_of_ble_eq_true rfl) dX13_doSet_27 (fun H locs cells slots hw => ?_)
    refine lv_iload_n hx hb dX13_doSet_30 rfl (lv_at hl 3 rfl) ?_
    obtain ⟨σ13, h14, hf⟩ := ob_some hf
    refine gg_astI hC hw h14 dX13_doSet_31 (fun H locs hw => ?_)
    refine lv_aload_n hx hb dX13_doSet_32 rfl (lv_at hl 0 rfl) ?_
    refine lv_iload_n hx hb dX13_doSet_33 rfl (lv_at hl 1 rfl) ?_
    refine lv_iload_n hx hb dX13_doSet_34 rfl (lv_at hl 3 rfl) ?_
    obtain ⟨_, h17, hf⟩ := ob_some hf
    obtain ⟨x15, h16, hf⟩ := ob_some hf
    refine gg_cVV (As := [.int l1, .int l3]) hC hw (X13_learn_M l E D A h16) h17 rfl g_ml_X13_228 hd_X13_learn (Nat.le_of_ble_eq_true rfl) (Nat.le_of_ble_eq_true rfl) hl.1 rfl (Nat.le_of_ble_eq_true rfl) dX13_doSet_35 (fun H locs cells slots hw => ?_)
    refine lv_iconst (v := 0) hx hb dX13_doSet_38 (by decide) ?_
    cases hf
    exact hQ _ _ _ _ _ _ dX13_doSet_39 rfl hw
  · replace hf := (if_pos c18).symm.trans hf
    refine lv_iconst (v := 1) hx hb dX13_doSet_9 (by decide) ?_
    cases hf
    exact hQ _ _ _ _ _ _ dX13_doSet_10 rfl hw

def X13_doSet_f (E : gE) (l0 : Nat) (l1 : Int32) (l2 : Int32) (l3 : Int32) (σ : gS) : Option (Int32 × gS) := X13_doSet E l0 l1 l2 l3 σ
set_option maxRecDepth 100000 in
theorem X13_doSet_M (l : Launch) (E : gE) (D : va_G) (A : Nat → Prop) {l0 : Nat} {l1 : Int32} {l2 : Int32} {l3 : Int32} {σ : gS} {res : (Int32 × gS)} (hf : X13_doSet_f E l0 l1 l2 l3 σ = some res) : gCI l E D A yX13_doSet cX13_doSet 4 3 65 (some FieldType.int) [.ref l0, .int l1, .int l2, .int l3] σ res := by
  refine gg_entI (own := RX13) (nm := "doSet") (ty := FieldType.int) (by decide +kernel) rfl rfl (Nat.le_of_ble_eq_true rfl) rfl ?_
  intro p e R s m args below meth c Q ls hC hw hQ hl
  have hl : lv_has ls 4 [(0, .ref l0), (1, .int l1), (2, .int l2), (3, .int l3)] := hl
  exact X13_doSet_W hC hQ hf hw hl

def X13_doSort_60_s (E : gE) (r_8 : Nat → Int32 → Int32 → gS → Option (Int32 × gS)) (r_60 : Nat → Int32 → Int32 → Int32 → gS → Option (Int32 × gS)) (l0 : Nat) (l1 : Int32) (l3 : Int32) (l4 : Int32) (σ : gS) : Option (Int32 × gS) :=
  ob (gfR σ l0 11 8) fun x1 =>
  ob (graI E 0 σ x1 (1 : Int32)) fun x3 =>
  if x3 ≤ l4 then
    r_8 l0 l1 (l3 + 1) σ
  else
    ob (gfR σ l0 11 8) fun x5 =>
    ob (X13_placeOf_f E σ l3 l4) fun x7 =>
    ob (gfR σ l0 11 7) fun x9 =>
    ob (graI E 0 σ x9 l4) fun x11 =>
    ob (gwaI E σ x5 x7 x11) fun σ13 =>
    r_60 l0 l1 l3 (l4 + 1) σ13
set_option maxHeartbeats 4000000 in
set_option maxRecDepth 100000 in
theorem X13_doSort_60_s_W {σ : gS} {l0 : Nat} {l1 : Int32} {l3 : Int32} {l4 : Int32} {res : (Int32 × gS)} {ls : Array Slot} (hC : gC E D A p R s m args meth c cX13_doSort 5 RX13 "doSort" 3 67) (hQ : gQI E D A p l e R s m args below meth c Q cX13_doSort FieldType.int res) {r_8 : Nat → Int32 → Int32 → gS → Option (Int32 × gS)} (h_8 : ∀ {l0 : Nat} {l1 : Int32} {l3 : Int32} {σ : gS} {H : Heap} {locs : List Loc} {cells slots : Nat} {ls : Array Slot}, r_8 l0 l1 l3 σ = some res → gW E D A s σ H locs → lv_has ls 5 [(0, .ref l0), (1, .int l1), (3, .int l3)] → W p l e R s m args below meth c H locs cells slots Q (F0 m 8 ls [])) {r_60 : Nat → Int32 → Int32 → Int32 → gS → Option (Int32 × gS)} (h_60 : ∀ {l0 : Nat} {l1 : Int32} {l3 : Int32} {l4 : Int32} {σ : gS} {H : Heap} {locs : List Loc} {cells slots : Nat} {ls : Array Slot}, r_60 l0 l1 l3 l4 σ = some res → gW E D A s σ H locs → lv_has ls 5 [(0, .ref l0), (1, .int l1), (3, .int l3), (4, .int l4)] → W p l e R s m args below meth c H locs cells slots Q (F0 m 60 ls [])) (hf : X13_doSort_60_s E r_8 r_60 l0 l1 l3 l4 σ = some res) (hw : gW E D A s σ H locs) (hl : lv_has ls 5 [(0, .ref l0), (1, .int l1), (3, .int l3), (4, .int l4)]) : W p l e R s m args below meth c H locs cells slots Q (F0 m 60 ls []) := by
  have hC0 := hC
  obtain ⟨hx, hb, hml, hown, hts, -⟩ := hC0
  unfold X13_doSort_60_s at hf
  refine lv_iload hx hb dX13_doSort_60 (lv_at hl 3 rfl) ?_
  refine lv_aload_n hx hb dX13_doSort_62 rfl (lv_at hl 0 rfl) ?_
  obtain ⟨x1, h2, hf⟩ := ob_some hf
  refine rR_fl_X13_35 hC hw h2 dX13_doSort_63 ?_
  refine lv_iconst (v := 1) hx hb dX13_doSort_66 (by decide) ?_
  obtain ⟨x3, h4, hf⟩ := ob_some hf
  refine gg_aldI hC hw h4 dX13_doSort_67 ?_
  refine lv_icmp_ge (tgt := 95) hx hb dX13_doSort_68 (by decide) (fun c15 => ?_) (fun c15 => ?_)
  · replace hf := (if_pos c15).symm.trans hf
    refine lv_iinc (v := (l3 + 1)) (lv' := [(3, .int (l3 + 1)), (0, .ref l0), (1, .int l1), (4, .int l4)]) hx hb dX13_doSort_95 hl (k := 2) rfl rfl (by decide) rfl (fun ls hl => ?_)
    refine lv_goto (tgt := 8) hx hb dX13_doSort_98 (by decide) ?_
    exact h_8 hf hw (lv_sub hl [1, 2, 0] rfl)
  · replace hf := (if_neg c15).symm.trans hf
    refine lv_aload_n hx hb dX13_doSort_71 rfl (lv_at hl 0 rfl) ?_
    obtain ⟨x5, h6, hf⟩ := ob_some hf
    refine rR_fl_X13_35 hC hw h6 dX13_doSort_72 ?_
    refine lv_iload_n hx hb dX13_doSort_75 rfl (lv_at hl 2 rfl) ?_
    refine lv_iload hx hb dX13_doSort_76 (lv_at hl 3 rfl) ?_
    obtain ⟨x7, h8, hf⟩ := ob_some hf
    refine gg_cSI (As := [.int l3, .int l4]) hC hw (X13_placeOf_M l E D A h8) g_ml_X13_96 hd_X13_placeOf.2 (Nat.le_of_ble_eq_true rfl) (Nat.le_of_ble_eq_true rfl) hl.1 rfl (Nat.le_of_ble_eq_true rfl) dX13_doSort_78 (fun H locs cells slots hw => ?_)
    refine lv_aload_n hx hb dX13_doSort_81 rfl (lv_at hl 0 rfl) ?_
    obtain ⟨x9, h10, hf⟩ := ob_some hf
    refine rR_fl_X13_32 hC hw h10 dX13_doSort_82 ?_
    refine lv_iload hx hb dX13_doSort_85 (lv_at hl 3 rfl) ?_
    obtain ⟨x11, h12, hf⟩ := ob_some hf
    refine gg_aldI hC hw h12 dX13_doSort_87 ?_
    obtain ⟨σ13, h14, hf⟩ := ob_some hf
    refine gg_astI hC hw h14 dX13_doSort_88 (fun H locs hw => ?_)
    refine lv_iinc (v := (l4 + 1)) (lv' := [(4, .int (l4 + 1)), (0, .ref l0), (1, .int l1), (3, .int l3)]) hx hb dX13_doSort_89 hl (k := 3) rfl rfl (by decide) rfl (fun ls hl => ?_)
    refine lv_goto (tgt := 60) hx hb dX13_doSort_92 (by decide) ?_
    exact h_60 hf hw (lv_sub hl [1, 2, 3, 0] rfl)
def X13_doSort_60 (E : gE) (r_8 : Nat → Int32 → Int32 → gS → Option (Int32 × gS)) : Nat → Nat → Int32 → Int32 → Int32 → gS → Option (Int32 × gS)
  | 0 => fun _ _ _ _ _ => none
  | n + 1 => X13_doSort_60_s E r_8 (X13_doSort_60 E r_8 n)
theorem X13_doSort_60_W {res : (Int32 × gS)} (hC : gC E D A p R s m args meth c cX13_doSort 5 RX13 "doSort" 3 67) (hQ : gQI E D A p l e R s m args below meth c Q cX13_doSort FieldType.int res) {r_8 : Nat → Int32 → Int32 → gS → Option (Int32 × gS)} (h_8 : ∀ {l0 : Nat} {l1 : Int32} {l3 : Int32} {σ : gS} {H : Heap} {locs : List Loc} {cells slots : Nat} {ls : Array Slot}, r_8 l0 l1 l3 σ = some res → gW E D A s σ H locs → lv_has ls 5 [(0, .ref l0), (1, .int l1), (3, .int l3)] → W p l e R s m args below meth c H locs cells slots Q (F0 m 8 ls [])) : ∀ (n : Nat), ∀ {l0 : Nat} {l1 : Int32} {l3 : Int32} {l4 : Int32} {σ : gS} {H : Heap} {locs : List Loc} {cells slots : Nat} {ls : Array Slot}, X13_doSort_60 E r_8 n l0 l1 l3 l4 σ = some res → gW E D A s σ H locs → lv_has ls 5 [(0, .ref l0), (1, .int l1), (3, .int l3), (4, .int l4)] → W p l e R s m args below meth c H locs cells slots Q (F0 m 60 ls []) := by
  intro n
  induction n with
  | zero =>
    intros
    rename_i hf _ _
    exact absurd hf (fun h => by cases (show (none : Option (Int32 × gS)) = some res from h))
  | succ n ih =>
    intros
    rename_i hf hw hl
    exact X13_doSort_60_s_W hC hQ h_8 ih hf hw hl

def X13_doSort_21_s (E : gE) (r_8 : Nat → Int32 → Int32 → gS → Option (Int32 × gS)) (r_21 : Nat → Int32 → Int32 → Int32 → gS → Option (Int32 × gS)) (l0 : Nat) (l1 : Int32) (l3 : Int32) (l4 : Int32) (σ : gS) : Option (Int32 × gS) :=
  ob (gfR σ l0 11 8) fun x16 =>
  ob (graI E 0 σ x16 (1 : Int32)) fun x18 =>
  if x18 ≤ l4 then
    X13_doSort_60 E r_8 (gN E) l0 l1 l3 (0 : Int32) σ
  else
    ob (gfR σ l0 11 7) fun x20 =>
    ob (gfR σ l0 11 5) fun x22 =>
    ob (graI E 0 σ x22 l4) fun x24 =>
    ob (gcl σ l0 11) fun _ =>
    ob (X13_at_f E σ l0 l3 x24) fun x26 =>
    ob (gwaI E σ x20 l4 x26) fun σ29 =>
    r_21 l0 l1 l3 (l4 + 1) σ29
set_option maxHeartbeats 4000000 in
set_option maxRecDepth 100000 in
theorem X13_doSort_21_s_W {σ : gS} {l0 : Nat} {l1 : Int32} {l3 : Int32} {l4 : Int32} {res : (Int32 × gS)} {ls : Array Slot} (hC : gC E D A p R s m args meth c cX13_doSort 5 RX13 "doSort" 3 67) (hQ : gQI E D A p l e R s m args below meth c Q cX13_doSort FieldType.int res) {r_8 : Nat → Int32 → Int32 → gS → Option (Int32 × gS)} (h_8 : ∀ {l0 : Nat} {l1 : Int32} {l3 : Int32} {σ : gS} {H : Heap} {locs : List Loc} {cells slots : Nat} {ls : Array Slot}, r_8 l0 l1 l3 σ = some res → gW E D A s σ H locs → lv_has ls 5 [(0, .ref l0), (1, .int l1), (3, .int l3)] → W p l e R s m args below meth c H locs cells slots Q (F0 m 8 ls [])) {r_21 : Nat → Int32 → Int32 → Int32 → gS → Option (Int32 × gS)} (h_21 : ∀ {l0 : Nat} {l1 : Int32} {l3 : Int32} {l4 : Int32} {σ : gS} {H : Heap} {locs : List Loc} {cells slots : Nat} {ls : Array Slot}, r_21 l0 l1 l3 l4 σ = some res → gW E D A s σ H locs → lv_has ls 5 [(0, .ref l0), (1, .int l1), (3, .int l3), (4, .int l4)] → W p l e R s m args below meth c H locs cells slots Q (F0 m 21 ls [])) (hf : X13_doSort_21_s E r_8 r_21 l0 l1 l3 l4 σ = some res) (hw : gW E D A s σ H locs) (hl : lv_has ls 5 [(0, .ref l0), (1, .int l1), (3, .int l3), (4, .int l4)]) : W p l e R s m args below meth c H locs cells slots Q (F0 m 21 ls []) := by
  have hC0 := hC
  obtain ⟨hx, hb, hml, hown, hts, -⟩ := hC0
  unfold X13_doSort_21_s at hf
  refine lv_iload hx hb dX13_doSort_21 (lv_at hl 3 rfl) ?_
  refine lv_aload_n hx hb dX13_doSort_23 rfl (lv_at hl 0 rfl) ?_
  obtain ⟨x16, h17, hf⟩ := ob_some hf
  refine rR_fl_X13_35 hC hw h17 dX13_doSort_24 ?_
  refine lv_iconst (v := 1) hx hb dX13_doSort_27 (by decide) ?_
  obtain ⟨x18, h19, hf⟩ := ob_some hf
  refine gg_aldI hC hw h19 dX13_doSort_28 ?_
  refine lv_icmp_ge (tgt := 57) hx hb dX13_doSort_29 (by decide) (fun c31 => ?_) (fun c31 => ?_)
  · replace hf := (if_pos c31).symm.trans hf
    refine lv_iconst (v := 0) hx hb dX13_doSort_57 (by decide) ?_
    refine lv_istore (lv' := [(4, .int (0 : Int32)), (0, .ref l0), (1, .int l1), (3, .int l3)]) hx hb dX13_doSort_58 hl (by decide) rfl (fun ls hl => ?_)
    exact X13_doSort_60_W hC hQ h_8 (gN E) hf hw (lv_sub hl [1, 2, 3, 0] rfl)
  · replace hf := (if_neg c31).symm.trans hf
    refine lv_aload_n hx hb dX13_doSort_32 rfl (lv_at hl 0 rfl) ?_
    obtain ⟨x20, h21, hf⟩ := ob_some hf
    refine rR_fl_X13_32 hC hw h21 dX13_doSort_33 ?_
    refine lv_iload hx hb dX13_doSort_36 (lv_at hl 3 rfl) ?_
    refine lv_aload_n hx hb dX13_doSort_38 rfl (lv_at hl 0 rfl) ?_
    refine lv_iload_n hx hb dX13_doSort_39 rfl (lv_at hl 2 rfl) ?_
    refine lv_aload_n hx hb dX13_doSort_40 rfl (lv_at hl 0 rfl) ?_
    obtain ⟨x22, h23, hf⟩ := ob_some hf
    refine rR_fl_X13_26 hC hw h23 dX13_doSort_41 ?_
    refine lv_iload hx hb dX13_doSort_44 (lv_at hl 3 rfl) ?_
    obtain ⟨x24, h25, hf⟩ := ob_some hf
    refine gg_aldI hC hw h25 dX13_doSort_46 ?_
    obtain ⟨_, h28, hf⟩ := ob_some hf
    obtain ⟨x26, h27, hf⟩ := ob_some hf
    refine gg_cVI (As := [.int l3, .int x24]) hC hw (X13_at_M l E D A h27) h28 rfl g_ml_X13_118 hd_X13_at (Nat.le_of_ble_eq_true rfl) (Nat.le_of_ble_eq_true rfl) hl.1 rfl (Nat.le_of_ble_eq_true rfl) dX13_doSort_47 (fun H locs cells slots hw => ?_)
    obtain ⟨σ29, h30, hf⟩ := ob_some hf
    refine gg_astI hC hw h30 dX13_doSort_50 (fun H locs hw => ?_)
    refine lv_iinc (v := (l4 + 1)) (lv' := [(4, .int (l4 + 1)), (0, .ref l0), (1, .int l1), (3, .int l3)]) hx hb dX13_doSort_51 hl (k := 3) rfl rfl (by decide) rfl (fun ls hl => ?_)
    refine lv_goto (tgt := 21) hx hb dX13_doSort_54 (by decide) ?_
    exact h_21 hf hw (lv_sub hl [1, 2, 3, 0] rfl)
def X13_doSort_21 (E : gE) (r_8 : Nat → Int32 → Int32 → gS → Option (Int32 × gS)) : Nat → Nat → Int32 → Int32 → Int32 → gS → Option (Int32 × gS)
  | 0 => fun _ _ _ _ _ => none
  | n + 1 => X13_doSort_21_s E r_8 (X13_doSort_21 E r_8 n)
theorem X13_doSort_21_W {res : (Int32 × gS)} (hC : gC E D A p R s m args meth c cX13_doSort 5 RX13 "doSort" 3 67) (hQ : gQI E D A p l e R s m args below meth c Q cX13_doSort FieldType.int res) {r_8 : Nat → Int32 → Int32 → gS → Option (Int32 × gS)} (h_8 : ∀ {l0 : Nat} {l1 : Int32} {l3 : Int32} {σ : gS} {H : Heap} {locs : List Loc} {cells slots : Nat} {ls : Array Slot}, r_8 l0 l1 l3 σ = some res → gW E D A s σ H locs → lv_has ls 5 [(0, .ref l0), (1, .int l1), (3, .int l3)] → W p l e R s m args below meth c H locs cells slots Q (F0 m 8 ls [])) : ∀ (n : Nat), ∀ {l0 : Nat} {l1 : Int32} {l3 : Int32} {l4 : Int32} {σ : gS} {H : Heap} {locs : List Loc} {cells slots : Nat} {ls : Array Slot}, X13_doSort_21 E r_8 n l0 l1 l3 l4 σ = some res → gW E D A s σ H locs → lv_has ls 5 [(0, .ref l0), (1, .int l1), (3, .int l3), (4, .int l4)] → W p l e R s m args below meth c H locs cells slots Q (F0 m 21 ls []) := by
  intro n
  induction n with
  | zero =>
    intros
    rename_i hf _ _
    exact absurd hf (fun h => by cases (show (none : Option (Int32 × gS)) = some res from h))
  | succ n ih =>
    intros
    rename_i hf hw hl
    exact X13_doSort_21_s_W hC hQ h_8 ih hf hw hl

def X13_doSort_8_s (E : gE) (r_8 : Nat → Int32 → Int32 → gS → Option (Int32 × gS)) (l0 : Nat) (l1 : Int32) (l3 : Int32) (σ : gS) : Option (Int32 × gS) :=
  ob (gfR σ l0 11 8) fun x32 =>
  ob (graI E 0 σ x32 (0 : Int32)) fun x34 =>
  if x34 ≤ l3 then
    ob (gcl σ l0 11) fun _ =>
    ob (X13_countRuns_f E σ l0 l1) fun x36 =>
    ob (gpf E σ l0 11 12 (.int x36)) fun σ39 =>
    some ((0 : Int32), σ39)
  else
    X13_doSort_21 E r_8 (gN E) l0 l1 l3 (0 : Int32) σ
set_option maxHeartbeats 4000000 in
set_option maxRecDepth 100000 in
theorem X13_doSort_8_s_W {σ : gS} {l0 : Nat} {l1 : Int32} {l3 : Int32} {res : (Int32 × gS)} {ls : Array Slot} (hC : gC E D A p R s m args meth c cX13_doSort 5 RX13 "doSort" 3 67) (hQ : gQI E D A p l e R s m args below meth c Q cX13_doSort FieldType.int res) {r_8 : Nat → Int32 → Int32 → gS → Option (Int32 × gS)} (h_8 : ∀ {l0 : Nat} {l1 : Int32} {l3 : Int32} {σ : gS} {H : Heap} {locs : List Loc} {cells slots : Nat} {ls : Array Slot}, r_8 l0 l1 l3 σ = some res → gW E D A s σ H locs → lv_has ls 5 [(0, .ref l0), (1, .int l1), (3, .int l3)] → W p l e R s m args below meth c H locs cells slots Q (F0 m 8 ls [])) (hf : X13_doSort_8_s E r_8 l0 l1 l3 σ = some res) (hw : gW E D A s σ H locs) (hl : lv_has ls 5 [(0, .ref l0), (1, .int l1), (3, .int l3)]) : W p l e R s m args below meth c H locs cells slots Q (F0 m 8 ls []) := by
  have hC0 := hC
  obtain ⟨hx, hb, hml, hown, hts, -⟩ := hC0
  unfold X13_doSort_8_s at hf
  refine lv_iload_n hx hb dX13_doSort_8 rfl (lv_at hl 2 rfl) ?_
  refine lv_aload_n hx hb dX13_doSort_9 rfl (lv_at hl 0 rfl) ?_
  obtain ⟨x32, h33, hf⟩ := ob_some hf
  refine rR_fl_X13_35 hC hw h33 dX13_doSort_10 ?_
  refine lv_iconst (v := 0) hx hb dX13_doSort_13 (by decide) ?_
  obtain ⟨x34, h35, hf⟩ := ob_some hf
  refine gg_aldI hC hw h35 dX13_doSort_14 ?_
  refine lv_icmp_ge (tgt := 101) hx hb dX13_doSort_15 (by decide) (fun c41 => ?_) (fun c41 => ?_)
  · replace hf := (if_pos c41).symm.trans hf
    refine lv_aload_n hx hb dX13_doSort_101 rfl (lv_at hl 0 rfl) ?_
    refine lv_aload_n hx hb dX13_doSort_102 rfl (lv_at hl 0 rfl) ?_
    refine lv_iload_n hx hb dX13_doSort_103 rfl (lv_at hl 1 rfl) ?_
    obtain ⟨_, h38, hf⟩ := ob_some hf
    obtain ⟨x36, h37, hf⟩ := ob_some hf
    refine gg_cVI (As := [.int l1]) hC hw (X13_countRuns_M l E D A h37) h38 rfl g_ml_X13_168 hd_X13_countRuns (Nat.le_of_ble_eq_true rfl) (Nat.le_of_ble_eq_true rfl) hl.1 rfl (Nat.le_of_ble_eq_true rfl) dX13_doSort_104 (fun H locs cells slots hw => ?_)
    obtain ⟨σ39, h40, hf⟩ := ob_some hf
    refine p_fl_X13_231 hC hw h40 rfl rfl dX13_doSort_107 (fun H locs hw => ?_)
    refine lv_iconst (v := 0) hx hb dX13_doSort_110 (by decide) ?_
    cases hf
    exact hQ _ _ _ _ _ _ dX13_doSort_111 rfl hw
  · replace hf := (if_neg c41).symm.trans hf
    refine lv_iconst (v := 0) hx hb dX13_doSort_18 (by decide) ?_
    refine lv_istore (lv' := [(4, .int (0 : Int32)), (0, .ref l0), (1, .int l1), (3, .int l3)]) hx hb dX13_doSort_19 hl (by decide) rfl (fun ls hl => ?_)
    exact X13_doSort_21_W hC hQ h_8 (gN E) hf hw (lv_sub hl [1, 2, 3, 0] rfl)
def X13_doSort_8 (E : gE) : Nat → Nat → Int32 → Int32 → gS → Option (Int32 × gS)
  | 0 => fun _ _ _ _ => none
  | n + 1 => X13_doSort_8_s E (X13_doSort_8 E n)
theorem X13_doSort_8_W {res : (Int32 × gS)} (hC : gC E D A p R s m args meth c cX13_doSort 5 RX13 "doSort" 3 67) (hQ : gQI E D A p l e R s m args below meth c Q cX13_doSort FieldType.int res) : ∀ (n : Nat), ∀ {l0 : Nat} {l1 : Int32} {l3 : Int32} {σ : gS} {H : Heap} {locs : List Loc} {cells slots : Nat} {ls : Array Slot}, X13_doSort_8 E n l0 l1 l3 σ = some res → gW E D A s σ H locs → lv_has ls 5 [(0, .ref l0), (1, .int l1), (3, .int l3)] → W p l e R s m args below meth c H locs cells slots Q (F0 m 8 ls []) := by
  intro n
  induction n with
  | zero =>
    intros
    rename_i hf _ _
    exact absurd hf (fun h => by cases (show (none : Option (Int32 × gS)) = some res from h))
  | succ n ih =>
    intros
    rename_i hf hw hl
    exact X13_doSort_8_s_W hC hQ ih hf hw hl

def X13_doSort (E : gE) (l0 : Nat) (l1 : Int32) (l2 : Int32) (σ : gS) : Option (Int32 × gS) :=
  ob (gcl σ l0 11) fun _ =>
  ob (X13_putInOrder_f E l0 l1 l2 σ) fun x42 =>
  X13_doSort_8 E (gN E) l0 l1 (0 : Int32) x42
set_option maxHeartbeats 4000000 in
set_option maxRecDepth 100000 in
theorem X13_doSort_W {σ : gS} {l0 : Nat} {l1 : Int32} {l2 : Int32} {res : (Int32 × gS)} {ls : Array Slot} (hC : gC E D A p R s m args meth c cX13_doSort 5 RX13 "doSort" 3 67) (hQ : gQI E D A p l e R s m args below meth c Q cX13_doSort FieldType.int res) (hf : X13_doSort E l0 l1 l2 σ = some res) (hw : gW E D A s σ H locs) (hl : lv_has ls 5 [(0, .ref l0), (1, .int l1), (2, .int l2)]) : W p l e R s m args below meth c H locs cells slots Q (F0 m 0 ls []) := by
  have hC0 := hC
  obtain ⟨hx, hb, hml, hown, hts, -⟩ := hC0
  unfold X13_doSort at hf
  refine lv_aload_n hx hb dX13_doSort_0 rfl (lv_at hl 0 rfl) ?_
  refine lv_iload_n hx hb dX13_doSort_1 rfl (lv_at hl 1 rfl) ?_
  refine lv_iload_n hx hb dX13_doSort_2 rfl (lv_at hl 2 rfl) ?_
  obtain ⟨_, h44, hf⟩ := ob_some hf
  obtain ⟨x42, h43, hf⟩ := ob_some hf
  refine gg_cVV (As := [.int l1, .int l2]) hC hw (X13_putInOrder_M l E D A h43) h44 rfl g_ml_X13_215 hd_X13_putInOrder (Nat.le_of_ble_eq_true rfl) (Nat.le_of_ble_eq_true rfl) hl.1 rfl (Nat.le_of_ble_eq_true rfl) dX13_doSort_3 (fun H locs cells slots hw => ?_)
  refine lv_iconst (v := 0) hx hb dX13_doSort_6 (by decide) ?_
  refine lv_istore_n (lv' := [(3, .int (0 : Int32)), (0, .ref l0), (1, .int l1), (2, .int l2)]) hx hb dX13_doSort_7 rfl hl (by decide) rfl (fun ls hl => ?_)
  exact X13_doSort_8_W hC hQ (gN E) hf hw (lv_sub hl [1, 2, 0] rfl)

def X13_doSort_f (E : gE) (l0 : Nat) (l1 : Int32) (l2 : Int32) (σ : gS) : Option (Int32 × gS) := X13_doSort E l0 l1 l2 σ
set_option maxRecDepth 100000 in
theorem X13_doSort_M (l : Launch) (E : gE) (D : va_G) (A : Nat → Prop) {l0 : Nat} {l1 : Int32} {l2 : Int32} {σ : gS} {res : (Int32 × gS)} (hf : X13_doSort_f E l0 l1 l2 σ = some res) : gCI l E D A yX13_doSort cX13_doSort 5 3 67 (some FieldType.int) [.ref l0, .int l1, .int l2] σ res := by
  refine gg_entI (own := RX13) (nm := "doSort") (ty := FieldType.int) (by decide +kernel) rfl rfl (Nat.le_of_ble_eq_true rfl) rfl ?_
  intro p e R s m args below meth c Q ls hC hw hQ hl
  have hl : lv_has ls 5 [(0, .ref l0), (1, .int l1), (2, .int l2)] := hl
  exact X13_doSort_W hC hQ hf hw hl

def X13_doCondition (E : gE) (l0 : Nat) (l1 : Int32) (l2 : Int32) (l3 : Int32) (σ : gS) : Option (Int32 × gS) :=
  ob (gfR σ l0 11 8) fun x1 =>
  ob (graI E 0 σ x1 (2 : Int32)) fun x3 =>
  if x3 = (8 : Int32) then
    some ((3 : Int32), σ)
  else
    ob (gfR σ l0 11 8) fun x5 =>
    ob (graI E 0 σ x5 (2 : Int32)) fun x7 =>
    ob (gfR σ l0 11 8) fun x9 =>
    ob (gwaI E σ x9 (((3 : Int32) + ((3 : Int32) * x7)) + (0 : Int32)) l1) fun σ11 =>
    ob (gfR σ11 l0 11 8) fun x13 =>
    ob (gwaI E σ11 x13 (((3 : Int32) + ((3 : Int32) * x7)) + (1 : Int32)) l2) fun σ15 =>
    ob (gfR σ15 l0 11 8) fun x17 =>
    ob (gwaI E σ15 x17 (((3 : Int32) + ((3 : Int32) * x7)) + (2 : Int32)) l3) fun σ19 =>
    ob (gfR σ19 l0 11 8) fun x21 =>
    ob (graI E 0 σ19 x21 (2 : Int32)) fun x23 =>
    ob (gwaI E σ19 x21 (2 : Int32) (x23 + (1 : Int32))) fun σ25 =>
    ob (gcl σ25 l0 11) fun _ =>
    ob (X13_countSelected_f E σ25 l0) fun x27 =>
    ob (gpf E σ25 l0 11 12 (.int x27)) fun σ30 =>
    some ((0 : Int32), σ30)
set_option maxHeartbeats 4000000 in
set_option maxRecDepth 100000 in
theorem X13_doCondition_W {σ : gS} {l0 : Nat} {l1 : Int32} {l2 : Int32} {l3 : Int32} {res : (Int32 × gS)} {ls : Array Slot} (hC : gC E D A p R s m args meth c cX13_doCondition 5 RX13 "doCondition" 6 133) (hQ : gQI E D A p l e R s m args below meth c Q cX13_doCondition FieldType.int res) (hf : X13_doCondition E l0 l1 l2 l3 σ = some res) (hw : gW E D A s σ H locs) (hl : lv_has ls 5 [(0, .ref l0), (1, .int l1), (2, .int l2), (3, .int l3)]) : W p l e R s m args below meth c H locs cells slots Q (F0 m 0 ls []) := by
  have hC0 := hC
  obtain ⟨hx, hb, hml, hown, hts, -⟩ := hC0
  unfold X13_doCondition at hf
  refine lv_aload_n hx hb dX13_doCondition_0 rfl (lv_at hl 0 rfl) ?_
  obtain ⟨x1, h2, hf⟩ := ob_some hf
  refine rR_fl_X13_35 hC hw h2 dX13_doCondition_1 ?_
  refine lv_iconst (v := 2) hx hb dX13_doCondition_4 (by decide) ?_
  obtain ⟨x3, h4, hf⟩ := ob_some hf
  refine gg_aldI hC hw h4 dX13_doCondition_5 ?_
  refine lv_bipush (v := 8) hx hb dX13_doCondition_6 (by decide) ?_
  refine lv_icmp_ne (tgt := 13) hx hb dX13_doCondition_8 (by decide) (fun c32 => ?_) (fun c32 => ?_)
  · replace hf := (if_neg c32).symm.trans hf
    refine lv_iconst (v := 3) hx hb dX13_doCondition_13 (by decide) ?_
    refine lv_iconst (v := 3) hx hb dX13_doCondition_14 (by decide) ?_
    refine lv_aload_n hx hb dX13_doCondition_15 rfl (lv_at hl 0 rfl) ?_
    obtain ⟨x5, h6, hf⟩ := ob_some hf
    refine rR_fl_X13_35 hC hw h6 dX13_doCondition_16 ?_
    refine lv_iconst (v := 2) hx hb dX13_doCondition_19 (by decide) ?_
    obtain ⟨x7, h8, hf⟩ := ob_some hf
    refine gg_aldI hC hw h8 dX13_doCondition_20 ?_
    refine lv_imul hx hb dX13_doCondition_21 ?_
    refine lv_iadd hx hb dX13_doCondition_22 ?_
    refine lv_istore (lv' := [(4, .int ((3 : Int32) + ((3 : Int32) * x7))), (0, .ref l0), (1, .int l1), (2, .int l2), (3, .int l3)]) hx hb dX13_doCondition_23 hl (by decide) rfl (fun ls hl => ?_)
    refine lv_aload_n hx hb dX13_doCondition_25 rfl (lv_at hl 1 rfl) ?_
    obtain ⟨x9, h10, hf⟩ := ob_some hf
    refine rR_fl_X13_35 hC hw h10 dX13_doCondition_26 ?_
    refine lv_iload hx hb dX13_doCondition_29 (lv_at hl 0 rfl) ?_
    refine lv_iconst (v := 0) hx hb dX13_doCondition_31 (by decide) ?_
    refine lv_iadd hx hb dX13_doCondition_32 ?_
    refine lv_iload_n hx hb dX13_doCondition_33 rfl (lv_at hl 2 rfl) ?_
    obtain ⟨σ11, h12, hf⟩ := ob_some hf
    refine gg_astI hC hw h12 dX13_doCondition_34 (fun H locs hw => ?_)
    refine lv_aload_n hx hb dX13_doCondition_35 rfl (lv_at hl 1 rfl) ?_
    obtain ⟨x13, h14, hf⟩ := ob_some hf
    refine rR_fl_X13_35 hC hw h14 dX13_doCondition_36 ?_
    refine lv_iload hx hb dX13_doCondition_39 (lv_at hl 0 rfl) ?_
    refine lv_iconst (v := 1) hx hb dX13_doCondition_41 (by decide) ?_
    refine lv_iadd hx hb dX13_doCondition_42 ?_
    refine lv_iload_n hx hb dX13_doCondition_43 rfl (lv_at hl 3 rfl) ?_
    obtain ⟨σ15, h16, hf⟩ := ob_some hf
    refine gg_astI hC hw h16 dX13_doCondition_44 (fun H locs hw => ?_)
    refine lv_aload_n hx hb dX13_doCondition_45 rfl (lv_at hl 1 rfl) ?_
    obtain ⟨x17, h18, hf⟩ := ob_some hf
    refine rR_fl_X13_35 hC hw h18 dX13_doCondition_46 ?_
    refine lv_iload hx hb dX13_doCondition_49 (lv_at hl 0 rfl) ?_
    refine lv_iconst (v := 2) hx hb dX13_doCondition_51 (by decide) ?_
    refine lv_iadd hx hb dX13_doCondition_52 ?_
    refine lv_iload_n hx hb dX13_doCondition_53 rfl (lv_at hl 4 rfl) ?_
    obtain ⟨σ19, h20, hf⟩ := ob_some hf
    refine gg_astI hC hw h20 dX13_doCondition_54 (fun H locs hw => ?_)
    refine lv_aload_n hx hb dX13_doCondition_55 rfl (lv_at hl 1 rfl) ?_
    obtain ⟨x21, h22, hf⟩ := ob_some hf
    refine rR_fl_X13_35 hC hw h22 dX13_doCondition_56 ?_
    refine lv_iconst (v := 2) hx hb dX13_doCondition_59 (by decide) ?_
    refine lv_dup2_11 hx hb dX13_doCondition_60 rfl rfl ?_
    obtain ⟨x23, h24, hf⟩ := ob_some hf
    refine gg_aldI hC hw h24 dX13_doCondition_61 ?_
    refine lv_iconst (v := 1) hx hb dX13_doCondition_62 (by decide) ?_
    refine lv_iadd hx hb dX13_doCondition_63 ?_
    obtain ⟨σ25, h26, hf⟩ := ob_some hf
    refine gg_astI hC hw h26 dX13_doCondition_64 (fun H locs hw => ?_)
    refine lv_aload_n hx hb dX13_doCondition_65 rfl (lv_at hl 1 rfl) ?_
    refine lv_aload_n hx hb dX13_doCondition_66 rfl (lv_at hl 1 rfl) ?_
    obtain ⟨_, h29, hf⟩ := ob_some hf
    obtain ⟨x27, h28, hf⟩ := ob_some hf
    refine gg_cVI (As := []) hC hw (X13_countSelected_M l E D A h28) h29 rfl g_ml_X13_198 hd_X13_countSelected (Nat.le_of_ble_eq_true rfl) (Nat.le_of_ble_eq_true rfl) hl.1 rfl (Nat.le_of_ble_eq_true rfl) dX13_doCondition_67 (fun H locs cells slots hw => ?_)
    obtain ⟨σ30, h31, hf⟩ := ob_some hf
    refine p_fl_X13_231 hC hw h31 rfl rfl dX13_doCondition_70 (fun H locs hw => ?_)
    refine lv_iconst (v := 0) hx hb dX13_doCondition_73 (by decide) ?_
    cases hf
    exact hQ _ _ _ _ _ _ dX13_doCondition_74 rfl hw
  · replace hf := (if_pos c32).symm.trans hf
    refine lv_iconst (v := 3) hx hb dX13_doCondition_11 (by decide) ?_
    cases hf
    exact hQ _ _ _ _ _ _ dX13_doCondition_12 rfl hw

def X13_doCondition_f (E : gE) (l0 : Nat) (l1 : Int32) (l2 : Int32) (l3 : Int32) (σ : gS) : Option (Int32 × gS) := X13_doCondition E l0 l1 l2 l3 σ
set_option maxRecDepth 100000 in
theorem X13_doCondition_M (l : Launch) (E : gE) (D : va_G) (A : Nat → Prop) {l0 : Nat} {l1 : Int32} {l2 : Int32} {l3 : Int32} {σ : gS} {res : (Int32 × gS)} (hf : X13_doCondition_f E l0 l1 l2 l3 σ = some res) : gCI l E D A yX13_doCondition cX13_doCondition 5 6 133 (some FieldType.int) [.ref l0, .int l1, .int l2, .int l3] σ res := by
  refine gg_entI (own := RX13) (nm := "doCondition") (ty := FieldType.int) (by decide +kernel) rfl rfl (Nat.le_of_ble_eq_true rfl) rfl ?_
  intro p e R s m args below meth c Q ls hC hw hQ hl
  have hl : lv_has ls 5 [(0, .ref l0), (1, .int l1), (2, .int l2), (3, .int l3)] := hl
  exact X13_doCondition_W hC hQ hf hw hl

def X13_doDrop_26_s (E : gE) (r_26 : Nat → Int32 → gS → Option (Int32 × gS)) (l0 : Nat) (l2 : Int32) (σ : gS) : Option (Int32 × gS) :=
  ob (gfR σ l0 11 8) fun x1 =>
  ob (graI E 0 σ x1 (2 : Int32)) fun x3 =>
  if ((3 : Int32) + ((3 : Int32) * x3)) ≤ l2 then
    ob (gcl σ l0 11) fun _ =>
    ob (X13_countSelected_f E σ l0) fun x5 =>
    ob (gpf E σ l0 11 12 (.int x5)) fun σ8 =>
    some ((0 : Int32), σ8)
  else
    ob (gfR σ l0 11 8) fun x10 =>
    ob (gfR σ l0 11 8) fun x12 =>
    ob (graI E 0 σ x12 (l2 + (3 : Int32))) fun x14 =>
    ob (gwaI E σ x10 l2 x14) fun σ16 =>
    r_26 l0 (l2 + 1) σ16
set_option maxHeartbeats 4000000 in
set_option maxRecDepth 100000 in
theorem X13_doDrop_26_s_W {σ : gS} {l0 : Nat} {l2 : Int32} {res : (Int32 × gS)} {ls : Array Slot} (hC : gC E D A p R s m args meth c cX13_doDrop 3 RX13 "doDrop" 6 133) (hQ : gQI E D A p l e R s m args below meth c Q cX13_doDrop FieldType.int res) {r_26 : Nat → Int32 → gS → Option (Int32 × gS)} (h_26 : ∀ {l0 : Nat} {l2 : Int32} {σ : gS} {H : Heap} {locs : List Loc} {cells slots : Nat} {ls : Array Slot}, r_26 l0 l2 σ = some res → gW E D A s σ H locs → lv_has ls 3 [(0, .ref l0), (2, .int l2)] → W p l e R s m args below meth c H locs cells slots Q (F0 m 26 ls [])) (hf : X13_doDrop_26_s E r_26 l0 l2 σ = some res) (hw : gW E D A s σ H locs) (hl : lv_has ls 3 [(0, .ref l0), (2, .int l2)]) : W p l e R s m args below meth c H locs cells slots Q (F0 m 26 ls []) := by
  have hC0 := hC
  obtain ⟨hx, hb, hml, hown, hts, -⟩ := hC0
  unfold X13_doDrop_26_s at hf
  refine lv_iload_n hx hb dX13_doDrop_26 rfl (lv_at hl 1 rfl) ?_
  refine lv_iconst (v := 3) hx hb dX13_doDrop_27 (by decide) ?_
  refine lv_iconst (v := 3) hx hb dX13_doDrop_28 (by decide) ?_
  refine lv_aload_n hx hb dX13_doDrop_29 rfl (lv_at hl 0 rfl) ?_
  obtain ⟨x1, h2, hf⟩ := ob_some hf
  refine rR_fl_X13_35 hC hw h2 dX13_doDrop_30 ?_
  refine lv_iconst (v := 2) hx hb dX13_doDrop_33 (by decide) ?_
  obtain ⟨x3, h4, hf⟩ := ob_some hf
  refine gg_aldI hC hw h4 dX13_doDrop_34 ?_
  refine lv_imul hx hb dX13_doDrop_35 ?_
  refine lv_iadd hx hb dX13_doDrop_36 ?_
  refine lv_icmp_ge (tgt := 60) hx hb dX13_doDrop_37 (by decide) (fun c18 => ?_) (fun c18 => ?_)
  · replace hf := (if_pos c18).symm.trans hf
    refine lv_aload_n hx hb dX13_doDrop_60 rfl (lv_at hl 0 rfl) ?_
    refine lv_aload_n hx hb dX13_doDrop_61 rfl (lv_at hl 0 rfl) ?_
    obtain ⟨_, h7, hf⟩ := ob_some hf
    obtain ⟨x5, h6, hf⟩ := ob_some hf
    refine gg_cVI (As := []) hC hw (X13_countSelected_M l E D A h6) h7 rfl g_ml_X13_198 hd_X13_countSelected (Nat.le_of_ble_eq_true rfl) (Nat.le_of_ble_eq_true rfl) hl.1 rfl (Nat.le_of_ble_eq_true rfl) dX13_doDrop_62 (fun H locs cells slots hw => ?_)
    obtain ⟨σ8, h9, hf⟩ := ob_some hf
    refine p_fl_X13_231 hC hw h9 rfl rfl dX13_doDrop_65 (fun H locs hw => ?_)
    refine lv_iconst (v := 0) hx hb dX13_doDrop_68 (by decide) ?_
    cases hf
    exact hQ _ _ _ _ _ _ dX13_doDrop_69 rfl hw
  · replace hf := (if_neg c18).symm.trans hf
    refine lv_aload_n hx hb dX13_doDrop_40 rfl (lv_at hl 0 rfl) ?_
    obtain ⟨x10, h11, hf⟩ := ob_some hf
    refine rR_fl_X13_35 hC hw h11 dX13_doDrop_41 ?_
    refine lv_iload_n hx hb dX13_doDrop_44 rfl (lv_at hl 1 rfl) ?_
    refine lv_aload_n hx hb dX13_doDrop_45 rfl (lv_at hl 0 rfl) ?_
    obtain ⟨x12, h13, hf⟩ := ob_some hf
    refine rR_fl_X13_35 hC hw h13 dX13_doDrop_46 ?_
    refine lv_iload_n hx hb dX13_doDrop_49 rfl (lv_at hl 1 rfl) ?_
    refine lv_iconst (v := 3) hx hb dX13_doDrop_50 (by decide) ?_
    refine lv_iadd hx hb dX13_doDrop_51 ?_
    obtain ⟨x14, h15, hf⟩ := ob_some hf
    refine gg_aldI hC hw h15 dX13_doDrop_52 ?_
    obtain ⟨σ16, h17, hf⟩ := ob_some hf
    refine gg_astI hC hw h17 dX13_doDrop_53 (fun H locs hw => ?_)
    refine lv_iinc (v := (l2 + 1)) (lv' := [(2, .int (l2 + 1)), (0, .ref l0)]) hx hb dX13_doDrop_54 hl (k := 1) rfl rfl (by decide) rfl (fun ls hl => ?_)
    refine lv_goto (tgt := 26) hx hb dX13_doDrop_57 (by decide) ?_
    exact h_26 hf hw (lv_sub hl [1, 0] rfl)
def X13_doDrop_26 (E : gE) : Nat → Nat → Int32 → gS → Option (Int32 × gS)
  | 0 => fun _ _ _ => none
  | n + 1 => X13_doDrop_26_s E (X13_doDrop_26 E n)
theorem X13_doDrop_26_W {res : (Int32 × gS)} (hC : gC E D A p R s m args meth c cX13_doDrop 3 RX13 "doDrop" 6 133) (hQ : gQI E D A p l e R s m args below meth c Q cX13_doDrop FieldType.int res) : ∀ (n : Nat), ∀ {l0 : Nat} {l2 : Int32} {σ : gS} {H : Heap} {locs : List Loc} {cells slots : Nat} {ls : Array Slot}, X13_doDrop_26 E n l0 l2 σ = some res → gW E D A s σ H locs → lv_has ls 3 [(0, .ref l0), (2, .int l2)] → W p l e R s m args below meth c H locs cells slots Q (F0 m 26 ls []) := by
  intro n
  induction n with
  | zero =>
    intros
    rename_i hf _ _
    exact absurd hf (fun h => by cases (show (none : Option (Int32 × gS)) = some res from h))
  | succ n ih =>
    intros
    rename_i hf hw hl
    exact X13_doDrop_26_s_W hC hQ ih hf hw hl

def X13_doDrop (E : gE) (l0 : Nat) (l1 : Int32) (σ : gS) : Option (Int32 × gS) :=
  ob (gcl σ l0 11) fun _ =>
  ob (X13_isCondition_f E σ l0 l1) fun x19 =>
  if x19 = 0 then
    some ((1 : Int32), σ)
  else
    ob (gfR σ l0 11 8) fun x22 =>
    ob (graI E 0 σ x22 (2 : Int32)) fun x24 =>
    ob (gwaI E σ x22 (2 : Int32) (x24 - (1 : Int32))) fun σ26 =>
    X13_doDrop_26 E (gN E) l0 ((3 : Int32) + ((3 : Int32) * l1)) σ26
set_option maxHeartbeats 4000000 in
set_option maxRecDepth 100000 in
theorem X13_doDrop_W {σ : gS} {l0 : Nat} {l1 : Int32} {res : (Int32 × gS)} {ls : Array Slot} (hC : gC E D A p R s m args meth c cX13_doDrop 3 RX13 "doDrop" 6 133) (hQ : gQI E D A p l e R s m args below meth c Q cX13_doDrop FieldType.int res) (hf : X13_doDrop E l0 l1 σ = some res) (hw : gW E D A s σ H locs) (hl : lv_has ls 3 [(0, .ref l0), (1, .int l1)]) : W p l e R s m args below meth c H locs cells slots Q (F0 m 0 ls []) := by
  have hC0 := hC
  obtain ⟨hx, hb, hml, hown, hts, -⟩ := hC0
  unfold X13_doDrop at hf
  refine lv_aload_n hx hb dX13_doDrop_0 rfl (lv_at hl 0 rfl) ?_
  refine lv_iload_n hx hb dX13_doDrop_1 rfl (lv_at hl 1 rfl) ?_
  obtain ⟨_, h21, hf⟩ := ob_some hf
  obtain ⟨x19, h20, hf⟩ := ob_some hf
  refine gg_cVI (As := [.int l1]) hC hw (X13_isCondition_M l E D A h20) h21 rfl g_ml_X13_171 hd_X13_isCondition (Nat.le_of_ble_eq_true rfl) (Nat.le_of_ble_eq_true rfl) hl.1 rfl (Nat.le_of_ble_eq_true rfl) dX13_doDrop_2 (fun H locs cells slots hw => ?_)
  refine lv_if_ne (tgt := 10) hx hb dX13_doDrop_5 (by decide) (fun c28 => ?_) (fun c28 => ?_)
  · replace hf := (if_neg c28).symm.trans hf
    refine lv_aload_n hx hb dX13_doDrop_10 rfl (lv_at hl 0 rfl) ?_
    obtain ⟨x22, h23, hf⟩ := ob_some hf
    refine rR_fl_X13_35 hC hw h23 dX13_doDrop_11 ?_
    refine lv_iconst (v := 2) hx hb dX13_doDrop_14 (by decide) ?_
    refine lv_dup2_11 hx hb dX13_doDrop_15 rfl rfl ?_
    obtain ⟨x24, h25, hf⟩ := ob_some hf
    refine gg_aldI hC hw h25 dX13_doDrop_16 ?_
    refine lv_iconst (v := 1) hx hb dX13_doDrop_17 (by decide) ?_
    refine lv_isub hx hb dX13_doDrop_18 ?_
    obtain ⟨σ26, h27, hf⟩ := ob_some hf
    refine gg_astI hC hw h27 dX13_doDrop_19 (fun H locs hw => ?_)
    refine lv_iconst (v := 3) hx hb dX13_doDrop_20 (by decide) ?_
    refine lv_iconst (v := 3) hx hb dX13_doDrop_21 (by decide) ?_
    refine lv_iload_n hx hb dX13_doDrop_22 rfl (lv_at hl 1 rfl) ?_
    refine lv_imul hx hb dX13_doDrop_23 ?_
    refine lv_iadd hx hb dX13_doDrop_24 ?_
    refine lv_istore_n (lv' := [(2, .int ((3 : Int32) + ((3 : Int32) * l1))), (0, .ref l0), (1, .int l1)]) hx hb dX13_doDrop_25 rfl hl (by decide) rfl (fun ls hl => ?_)
    exact X13_doDrop_26_W hC hQ (gN E) hf hw (lv_sub hl [1, 0] rfl)
  · replace hf := (if_pos c28).symm.trans hf
    refine lv_iconst (v := 1) hx hb dX13_doDrop_8 (by decide) ?_
    cases hf
    exact hQ _ _ _ _ _ _ dX13_doDrop_9 rfl hw

def X13_doDrop_f (E : gE) (l0 : Nat) (l1 : Int32) (σ : gS) : Option (Int32 × gS) := X13_doDrop E l0 l1 σ
set_option maxRecDepth 100000 in
theorem X13_doDrop_M (l : Launch) (E : gE) (D : va_G) (A : Nat → Prop) {l0 : Nat} {l1 : Int32} {σ : gS} {res : (Int32 × gS)} (hf : X13_doDrop_f E l0 l1 σ = some res) : gCI l E D A yX13_doDrop cX13_doDrop 3 6 133 (some FieldType.int) [.ref l0, .int l1] σ res := by
  refine gg_entI (own := RX13) (nm := "doDrop") (ty := FieldType.int) (by decide +kernel) rfl rfl (Nat.le_of_ble_eq_true rfl) rfl ?_
  intro p e R s m args below meth c Q ls hC hw hQ hl
  have hl : lv_has ls 3 [(0, .ref l0), (1, .int l1)] := hl
  exact X13_doDrop_W hC hQ hf hw hl

def X13_doDelete_41 (E : gE) (r_14 : Nat → Int32 → gS → Option (Int32 × gS)) (l0 : Nat) (l1 : Int32) (σ : gS) : Option (Int32 × gS) :=
  r_14 l0 (l1 + -1) σ
set_option maxHeartbeats 4000000 in
set_option maxRecDepth 100000 in
theorem X13_doDelete_41_W {σ : gS} {l0 : Nat} {l1 : Int32} {res : (Int32 × gS)} {ls : Array Slot} (hC : gC E D A p R s m args meth c cX13_doDelete 2 RX13 "doDelete" 5 111) (hQ : gQI E D A p l e R s m args below meth c Q cX13_doDelete FieldType.int res) {r_14 : Nat → Int32 → gS → Option (Int32 × gS)} (h_14 : ∀ {l0 : Nat} {l1 : Int32} {σ : gS} {H : Heap} {locs : List Loc} {cells slots : Nat} {ls : Array Slot}, r_14 l0 l1 σ = some res → gW E D A s σ H locs → lv_has ls 2 [(0, .ref l0), (1, .int l1)] → W p l e R s m args below meth c H locs cells slots Q (F0 m 14 ls [])) (hf : X13_doDelete_41 E r_14 l0 l1 σ = some res) (hw : gW E D A s σ H locs) (hl : lv_has ls 2 [(0, .ref l0), (1, .int l1)]) : W p l e R s m args below meth c H locs cells slots Q (F0 m 41 ls []) := by
  have hC0 := hC
  obtain ⟨hx, hb, hml, hown, hts, -⟩ := hC0
  unfold X13_doDelete_41 at hf
  refine lv_iinc (v := (l1 + -1)) (lv' := [(1, .int (l1 + -1)), (0, .ref l0)]) hx hb dX13_doDelete_41 hl (k := 1) rfl rfl (by decide) rfl (fun ls hl => ?_)
  refine lv_goto (tgt := 14) hx hb dX13_doDelete_44 (by decide) ?_
  exact h_14 hf hw (lv_sub hl [1, 0] rfl)

def X13_doDelete_14_s (E : gE) (r_14 : Nat → Int32 → gS → Option (Int32 × gS)) (l0 : Nat) (l1 : Int32) (σ : gS) : Option (Int32 × gS) :=
  if l1 < 0 then
    some ((0 : Int32), σ)
  else
    ob (gcl σ l0 11) fun _ =>
    ob (X13_selects_f E σ l0 l1) fun x1 =>
    if x1 = 0 then
      X13_doDelete_41 E r_14 l0 l1 σ
    else
      ob (gcl σ l0 11) fun _ =>
      ob (X13_takeOut_f E l0 l1 σ) fun x4 =>
      ob (gfI x4 l0 11 12) fun x7 =>
      ob (gpf E x4 l0 11 12 (.int (x7 + (1 : Int32)))) fun σ9 =>
      X13_doDelete_41 E r_14 l0 l1 σ9
set_option maxHeartbeats 4000000 in
set_option maxRecDepth 100000 in
theorem X13_doDelete_14_s_W {σ : gS} {l0 : Nat} {l1 : Int32} {res : (Int32 × gS)} {ls : Array Slot} (hC : gC E D A p R s m args meth c cX13_doDelete 2 RX13 "doDelete" 5 111) (hQ : gQI E D A p l e R s m args below meth c Q cX13_doDelete FieldType.int res) {r_14 : Nat → Int32 → gS → Option (Int32 × gS)} (h_14 : ∀ {l0 : Nat} {l1 : Int32} {σ : gS} {H : Heap} {locs : List Loc} {cells slots : Nat} {ls : Array Slot}, r_14 l0 l1 σ = some res → gW E D A s σ H locs → lv_has ls 2 [(0, .ref l0), (1, .int l1)] → W p l e R s m args below meth c H locs cells slots Q (F0 m 14 ls [])) (hf : X13_doDelete_14_s E r_14 l0 l1 σ = some res) (hw : gW E D A s σ H locs) (hl : lv_has ls 2 [(0, .ref l0), (1, .int l1)]) : W p l e R s m args below meth c H locs cells slots Q (F0 m 14 ls []) := by
  have hC0 := hC
  obtain ⟨hx, hb, hml, hown, hts, -⟩ := hC0
  unfold X13_doDelete_14_s at hf
  refine lv_iload_n hx hb dX13_doDelete_14 rfl (lv_at hl 1 rfl) ?_
  refine lv_if_lt (tgt := 47) hx hb dX13_doDelete_15 (by decide) (fun c12 => ?_) (fun c12 => ?_)
  · replace hf := (if_pos c12).symm.trans hf
    refine lv_iconst (v := 0) hx hb dX13_doDelete_47 (by decide) ?_
    cases hf
    exact hQ _ _ _ _ _ _ dX13_doDelete_48 rfl hw
  · replace hf := (if_neg c12).symm.trans hf
    refine lv_aload_n hx hb dX13_doDelete_18 rfl (lv_at hl 0 rfl) ?_
    refine lv_iload_n hx hb dX13_doDelete_19 rfl (lv_at hl 1 rfl) ?_
    obtain ⟨_, h3, hf⟩ := ob_some hf
    obtain ⟨x1, h2, hf⟩ := ob_some hf
    refine gg_cVI (As := [.int l1]) hC hw (X13_selects_M l E D A h2) h3 rfl g_ml_X13_183 hd_X13_selects (Nat.le_of_ble_eq_true rfl) (Nat.le_of_ble_eq_true rfl) hl.1 rfl (Nat.le_of_ble_eq_true rfl) dX13_doDelete_20 (fun H locs cells slots hw => ?_)
    refine lv_if_eq (tgt := 41) hx hb dX13_doDelete_23 (by decide) (fun c11 => ?_) (fun c11 => ?_)
    · replace hf := (if_pos c11).symm.trans hf
      exact X13_doDelete_41_W hC hQ h_14 hf hw (lv_sub hl [0, 1] rfl)
    · replace hf := (if_neg c11).symm.trans hf
      refine lv_aload_n hx hb dX13_doDelete_26 rfl (lv_at hl 0 rfl) ?_
      refine lv_iload_n hx hb dX13_doDelete_27 rfl (lv_at hl 1 rfl) ?_
      obtain ⟨_, h6, hf⟩ := ob_some hf
      obtain ⟨x4, h5, hf⟩ := ob_some hf
      refine gg_cVV (As := [.int l1]) hC hw (X13_takeOut_M l E D A h5) h6 rfl g_ml_X13_234 hd_X13_takeOut (Nat.le_of_ble_eq_true rfl) (Nat.le_of_ble_eq_true rfl) hl.1 rfl (Nat.le_of_ble_eq_true rfl) dX13_doDelete_28 (fun H locs cells slots hw => ?_)
      refine lv_aload_n hx hb dX13_doDelete_31 rfl (lv_at hl 0 rfl) ?_
      refine lv_dup hx hb dX13_doDelete_32 rfl ?_
      obtain ⟨x7, h8, hf⟩ := ob_some hf
      refine rI_fl_X13_231 hC hw h8 dX13_doDelete_33 ?_
      refine lv_iconst (v := 1) hx hb dX13_doDelete_36 (by decide) ?_
      refine lv_iadd hx hb dX13_doDelete_37 ?_
      obtain ⟨σ9, h10, hf⟩ := ob_some hf
      refine p_fl_X13_231 hC hw h10 rfl rfl dX13_doDelete_38 (fun H locs hw => ?_)
      exact X13_doDelete_41_W hC hQ h_14 hf hw (lv_sub hl [0, 1] rfl)
def X13_doDelete_14 (E : gE) : Nat → Nat → Int32 → gS → Option (Int32 × gS)
  | 0 => fun _ _ _ => none
  | n + 1 => X13_doDelete_14_s E (X13_doDelete_14 E n)
theorem X13_doDelete_14_W {res : (Int32 × gS)} (hC : gC E D A p R s m args meth c cX13_doDelete 2 RX13 "doDelete" 5 111) (hQ : gQI E D A p l e R s m args below meth c Q cX13_doDelete FieldType.int res) : ∀ (n : Nat), ∀ {l0 : Nat} {l1 : Int32} {σ : gS} {H : Heap} {locs : List Loc} {cells slots : Nat} {ls : Array Slot}, X13_doDelete_14 E n l0 l1 σ = some res → gW E D A s σ H locs → lv_has ls 2 [(0, .ref l0), (1, .int l1)] → W p l e R s m args below meth c H locs cells slots Q (F0 m 14 ls []) := by
  intro n
  induction n with
  | zero =>
    intros
    rename_i hf _ _
    exact absurd hf (fun h => by cases (show (none : Option (Int32 × gS)) = some res from h))
  | succ n ih =>
    intros
    rename_i hf hw hl
    exact X13_doDelete_14_s_W hC hQ ih hf hw hl

def X13_doDelete (E : gE) (l0 : Nat) (σ : gS) : Option (Int32 × gS) :=
  ob (gpf E σ l0 11 12 (.int (0 : Int32))) fun σ13 =>
  ob (gfR σ13 l0 11 8) fun x15 =>
  ob (graI E 0 σ13 x15 (1 : Int32)) fun x17 =>
  X13_doDelete_14 E (gN E) l0 (x17 - (1 : Int32)) σ13
set_option maxHeartbeats 4000000 in
set_option maxRecDepth 100000 in
theorem X13_doDelete_W {σ : gS} {l0 : Nat} {res : (Int32 × gS)} {ls : Array Slot} (hC : gC E D A p R s m args meth c cX13_doDelete 2 RX13 "doDelete" 5 111) (hQ : gQI E D A p l e R s m args below meth c Q cX13_doDelete FieldType.int res) (hf : X13_doDelete E l0 σ = some res) (hw : gW E D A s σ H locs) (hl : lv_has ls 2 [(0, .ref l0)]) : W p l e R s m args below meth c H locs cells slots Q (F0 m 0 ls []) := by
  have hC0 := hC
  obtain ⟨hx, hb, hml, hown, hts, -⟩ := hC0
  unfold X13_doDelete at hf
  refine lv_aload_n hx hb dX13_doDelete_0 rfl (lv_at hl 0 rfl) ?_
  refine lv_iconst (v := 0) hx hb dX13_doDelete_1 (by decide) ?_
  obtain ⟨σ13, h14, hf⟩ := ob_some hf
  refine p_fl_X13_231 hC hw h14 rfl rfl dX13_doDelete_2 (fun H locs hw => ?_)
  refine lv_aload_n hx hb dX13_doDelete_5 rfl (lv_at hl 0 rfl) ?_
  obtain ⟨x15, h16, hf⟩ := ob_some hf
  refine rR_fl_X13_35 hC hw h16 dX13_doDelete_6 ?_
  refine lv_iconst (v := 1) hx hb dX13_doDelete_9 (by decide) ?_
  obtain ⟨x17, h18, hf⟩ := ob_some hf
  refine gg_aldI hC hw h18 dX13_doDelete_10 ?_
  refine lv_iconst (v := 1) hx hb dX13_doDelete_11 (by decide) ?_
  refine lv_isub hx hb dX13_doDelete_12 ?_
  refine lv_istore_n (lv' := [(1, .int (x17 - (1 : Int32))), (0, .ref l0)]) hx hb dX13_doDelete_13 rfl hl (by decide) rfl (fun ls hl => ?_)
  exact X13_doDelete_14_W hC hQ (gN E) hf hw (lv_sub hl [1, 0] rfl)

def X13_doDelete_f (E : gE) (l0 : Nat) (σ : gS) : Option (Int32 × gS) := X13_doDelete E l0 σ
set_option maxRecDepth 100000 in
theorem X13_doDelete_M (l : Launch) (E : gE) (D : va_G) (A : Nat → Prop) {l0 : Nat} {σ : gS} {res : (Int32 × gS)} (hf : X13_doDelete_f E l0 σ = some res) : gCI l E D A yX13_doDelete cX13_doDelete 2 5 111 (some FieldType.int) [.ref l0] σ res := by
  refine gg_entI (own := RX13) (nm := "doDelete") (ty := FieldType.int) (by decide +kernel) rfl rfl (Nat.le_of_ble_eq_true rfl) rfl ?_
  intro p e R s m args below meth c Q ls hC hw hQ hl
  have hl : lv_has ls 2 [(0, .ref l0)] := hl
  exact X13_doDelete_W hC hQ hf hw hl

def X13_copy (E : gE) (l0 : Nat) (l1 : Int32) (l2 : Nat) (l3 : Int32) (σ : gS) : Option gS :=
  ob (gcopy E σ l0 ((4137 : Int32) * l1) l2 ((4137 : Int32) * l3) (4137 : Int32)) fun x1 =>
  some x1
set_option maxHeartbeats 4000000 in
set_option maxRecDepth 100000 in
theorem X13_copy_W {σ : gS} {l0 : Nat} {l1 : Int32} {l2 : Nat} {l3 : Int32} {σz : gS} {ls : Array Slot} (hC : gC E D A p R s m args meth c cX13_copy 4 RX13 "copy" 3 80) (hQ : gQV E D A p l e R s m args below meth c Q cX13_copy σz) (hf : X13_copy E l0 l1 l2 l3 σ = some σz) (hw : gW E D A s σ H locs) (hl : lv_has ls 4 [(0, .ref l0), (1, .int l1), (2, .ref l2), (3, .int l3)]) : W p l e R s m args below meth c H locs cells slots Q (F0 m 0 ls []) := by
  have hC0 := hC
  obtain ⟨hx, hb, hml, hown, hts, -⟩ := hC0
  unfold X13_copy at hf
  refine lv_aload_n hx hb dX13_copy_0 rfl (lv_at hl 0 rfl) ?_
  refine lv_sipush (v := 4137) hx hb dX13_copy_1 (by decide) ?_
  refine lv_iload_n hx hb dX13_copy_4 rfl (lv_at hl 1 rfl) ?_
  refine lv_imul hx hb dX13_copy_5 ?_
  refine lv_aload_n hx hb dX13_copy_6 rfl (lv_at hl 2 rfl) ?_
  refine lv_sipush (v := 4137) hx hb dX13_copy_7 (by decide) ?_
  refine lv_iload_n hx hb dX13_copy_10 rfl (lv_at hl 3 rfl) ?_
  refine lv_imul hx hb dX13_copy_11 ?_
  refine lv_sipush (v := 4137) hx hb dX13_copy_12 (by decide) ?_
  obtain ⟨x1, h2, hf⟩ := ob_some hf
  refine gg_copy hC hw h2 ml_X13_237 hl.1 rfl (Nat.le_of_ble_eq_true rfl) (Nat.le_of_ble_eq_true rfl) (Nat.le_of_ble_eq_true rfl) dX13_copy_15 (fun H locs hw => ?_)
  cases hf
  exact hQ _ _ _ _ _ _ dX13_copy_18 hw

def X13_copy_f (E : gE) (l0 : Nat) (l1 : Int32) (l2 : Nat) (l3 : Int32) (σ : gS) : Option gS := X13_copy E l0 l1 l2 l3 σ
set_option maxRecDepth 100000 in
theorem X13_copy_M (l : Launch) (E : gE) (D : va_G) (A : Nat → Prop) {l0 : Nat} {l1 : Int32} {l2 : Nat} {l3 : Int32} {σ : gS} {σz : gS} (hf : X13_copy_f E l0 l1 l2 l3 σ = some σz) : gCV l E D A yX13_copy cX13_copy 4 3 80 none [.ref l0, .int l1, .ref l2, .int l3] σ σz := by
  refine gg_entV (own := RX13) (nm := "copy") (by decide +kernel) rfl rfl (Nat.le_of_ble_eq_true rfl) rfl ?_
  intro p e R s m args below meth c Q ls hC hw hQ hl
  have hl : lv_has ls 4 [(0, .ref l0), (1, .int l1), (2, .ref l2), (3, .int l3)] := hl
  exact X13_copy_W hC hQ hf hw hl

def X13_keep (E : gE) (l0 : Nat) (σ : gS) : Option gS :=
  ob (gfR σ l0 11 0) fun x1 =>
  ob (gfR σ l0 11 2) fun x3 =>
  ob (X13_copy_f E x1 (0 : Int32) x3 (0 : Int32) σ) fun x5 =>
  some x5
set_option maxHeartbeats 4000000 in
set_option maxRecDepth 100000 in
theorem X13_keep_W {σ : gS} {l0 : Nat} {σz : gS} {ls : Array Slot} (hC : gC E D A p R s m args meth c cX13_keep 1 RX13 "keep" 4 103) (hQ : gQV E D A p l e R s m args below meth c Q cX13_keep σz) (hf : X13_keep E l0 σ = some σz) (hw : gW E D A s σ H locs) (hl : lv_has ls 1 [(0, .ref l0)]) : W p l e R s m args below meth c H locs cells slots Q (F0 m 0 ls []) := by
  have hC0 := hC
  obtain ⟨hx, hb, hml, hown, hts, -⟩ := hC0
  unfold X13_keep at hf
  refine lv_aload_n hx hb dX13_keep_0 rfl (lv_at hl 0 rfl) ?_
  obtain ⟨x1, h2, hf⟩ := ob_some hf
  refine rR_fl_X13_9 hC hw h2 dX13_keep_1 ?_
  refine lv_iconst (v := 0) hx hb dX13_keep_4 (by decide) ?_
  refine lv_aload_n hx hb dX13_keep_5 rfl (lv_at hl 0 rfl) ?_
  obtain ⟨x3, h4, hf⟩ := ob_some hf
  refine rR_fl_X13_16 hC hw h4 dX13_keep_6 ?_
  refine lv_iconst (v := 0) hx hb dX13_keep_9 (by decide) ?_
  obtain ⟨x5, h6, hf⟩ := ob_some hf
  refine gg_cSV (As := [.ref x1, .int (0 : Int32), .ref x3, .int (0 : Int32)]) hC hw (X13_copy_M l E D A h6) g_ml_X13_243 hd_X13_copy.2 (Nat.le_of_ble_eq_true rfl) (Nat.le_of_ble_eq_true rfl) hl.1 rfl (Nat.le_of_ble_eq_true rfl) dX13_keep_10 (fun H locs cells slots hw => ?_)
  cases hf
  exact hQ _ _ _ _ _ _ dX13_keep_13 hw

def X13_keep_f (E : gE) (l0 : Nat) (σ : gS) : Option gS := X13_keep E l0 σ
set_option maxRecDepth 100000 in
theorem X13_keep_M (l : Launch) (E : gE) (D : va_G) (A : Nat → Prop) {l0 : Nat} {σ : gS} {σz : gS} (hf : X13_keep_f E l0 σ = some σz) : gCV l E D A yX13_keep cX13_keep 1 4 103 none [.ref l0] σ σz := by
  refine gg_entV (own := RX13) (nm := "keep") (by decide +kernel) rfl rfl (Nat.le_of_ble_eq_true rfl) rfl ?_
  intro p e R s m args below meth c Q ls hC hw hQ hl
  have hl : lv_has ls 1 [(0, .ref l0)] := hl
  exact X13_keep_W hC hQ hf hw hl

def X13_record_48 (E : gE) (l0 : Nat) (σ : gS) : Option gS :=
  ob (gfR σ l0 11 2) fun x1 =>
  ob (gfR σ l0 11 4) fun x3 =>
  ob (gfI σ l0 11 9) fun x5 =>
  ob (X13_copy_f E x1 (0 : Int32) x3 x5 σ) fun x7 =>
  ob (gfI x7 l0 11 9) fun x9 =>
  ob (gpf E x7 l0 11 9 (.int (x9 + (1 : Int32)))) fun σ11 =>
  some σ11
set_option maxHeartbeats 4000000 in
set_option maxRecDepth 100000 in
theorem X13_record_48_W {σ : gS} {l0 : Nat} {σz : gS} {ls : Array Slot} (hC : gC E D A p R s m args meth c cX13_record 2 RX13 "record" 4 103) (hQ : gQV E D A p l e R s m args below meth c Q cX13_record σz) (hf : X13_record_48 E l0 σ = some σz) (hw : gW E D A s σ H locs) (hl : lv_has ls 2 [(0, .ref l0)]) : W p l e R s m args below meth c H locs cells slots Q (F0 m 48 ls []) := by
  have hC0 := hC
  obtain ⟨hx, hb, hml, hown, hts, -⟩ := hC0
  unfold X13_record_48 at hf
  refine lv_aload_n hx hb dX13_record_48 rfl (lv_at hl 0 rfl) ?_
  obtain ⟨x1, h2, hf⟩ := ob_some hf
  refine rR_fl_X13_16 hC hw h2 dX13_record_49 ?_
  refine lv_iconst (v := 0) hx hb dX13_record_52 (by decide) ?_
  refine lv_aload_n hx hb dX13_record_53 rfl (lv_at hl 0 rfl) ?_
  obtain ⟨x3, h4, hf⟩ := ob_some hf
  refine rR_fl_X13_23 hC hw h4 dX13_record_54 ?_
  refine lv_aload_n hx hb dX13_record_57 rfl (lv_at hl 0 rfl) ?_
  obtain ⟨x5, h6, hf⟩ := ob_some hf
  refine rI_fl_X13_247 hC hw h6 dX13_record_58 ?_
  obtain ⟨x7, h8, hf⟩ := ob_some hf
  refine gg_cSV (As := [.ref x1, .int (0 : Int32), .ref x3, .int x5]) hC hw (X13_copy_M l E D A h8) g_ml_X13_243 hd_X13_copy.2 (Nat.le_of_ble_eq_true rfl) (Nat.le_of_ble_eq_true rfl) hl.1 rfl (Nat.le_of_ble_eq_true rfl) dX13_record_61 (fun H locs cells slots hw => ?_)
  refine lv_aload_n hx hb dX13_record_64 rfl (lv_at hl 0 rfl) ?_
  refine lv_dup hx hb dX13_record_65 rfl ?_
  obtain ⟨x9, h10, hf⟩ := ob_some hf
  refine rI_fl_X13_247 hC hw h10 dX13_record_66 ?_
  refine lv_iconst (v := 1) hx hb dX13_record_69 (by decide) ?_
  refine lv_iadd hx hb dX13_record_70 ?_
  obtain ⟨σ11, h12, hf⟩ := ob_some hf
  refine p_fl_X13_247 hC hw h12 rfl rfl dX13_record_71 (fun H locs hw => ?_)
  cases hf
  exact hQ _ _ _ _ _ _ dX13_record_74 hw

def X13_record_11_s (E : gE) (r_11 : Nat → Int32 → gS → Option gS) (l0 : Nat) (l1 : Int32) (σ : gS) : Option gS :=
  if (8 : Int32) ≤ l1 then
    ob (gfI σ l0 11 9) fun x13 =>
    ob (gpf E σ l0 11 9 (.int (x13 - (1 : Int32)))) fun σ15 =>
    X13_record_48 E l0 σ15
  else
    ob (gfR σ l0 11 4) fun x17 =>
    ob (gfR σ l0 11 4) fun x19 =>
    ob (X13_copy_f E x17 l1 x19 (l1 - (1 : Int32)) σ) fun x21 =>
    r_11 l0 (l1 + 1) x21
set_option maxHeartbeats 4000000 in
set_option maxRecDepth 100000 in
theorem X13_record_11_s_W {σ : gS} {l0 : Nat} {l1 : Int32} {σz : gS} {ls : Array Slot} (hC : gC E D A p R s m args meth c cX13_record 2 RX13 "record" 4 103) (hQ : gQV E D A p l e R s m args below meth c Q cX13_record σz) {r_11 : Nat → Int32 → gS → Option gS} (h_11 : ∀ {l0 : Nat} {l1 : Int32} {σ : gS} {H : Heap} {locs : List Loc} {cells slots : Nat} {ls : Array Slot}, r_11 l0 l1 σ = some σz → gW E D A s σ H locs → lv_has ls 2 [(0, .ref l0), (1, .int l1)] → W p l e R s m args below meth c H locs cells slots Q (F0 m 11 ls [])) (hf : X13_record_11_s E r_11 l0 l1 σ = some σz) (hw : gW E D A s σ H locs) (hl : lv_has ls 2 [(0, .ref l0), (1, .int l1)]) : W p l e R s m args below meth c H locs cells slots Q (F0 m 11 ls []) := by
  have hC0 := hC
  obtain ⟨hx, hb, hml, hown, hts, -⟩ := hC0
  unfold X13_record_11_s at hf
  refine lv_iload_n hx hb dX13_record_11 rfl (lv_at hl 1 rfl) ?_
  refine lv_bipush (v := 8) hx hb dX13_record_12 (by decide) ?_
  refine lv_icmp_ge (tgt := 38) hx hb dX13_record_14 (by decide) (fun c23 => ?_) (fun c23 => ?_)
  · replace hf := (if_pos c23).symm.trans hf
    refine lv_aload_n hx hb dX13_record_38 rfl (lv_at hl 0 rfl) ?_
    refine lv_dup hx hb dX13_record_39 rfl ?_
    obtain ⟨x13, h14, hf⟩ := ob_some hf
    refine rI_fl_X13_247 hC hw h14 dX13_record_40 ?_
    refine lv_iconst (v := 1) hx hb dX13_record_43 (by decide) ?_
    refine lv_isub hx hb dX13_record_44 ?_
    obtain ⟨σ15, h16, hf⟩ := ob_some hf
    refine p_fl_X13_247 hC hw h16 rfl rfl dX13_record_45 (fun H locs hw => ?_)
    exact X13_record_48_W hC hQ hf hw (lv_sub hl [0] rfl)
  · replace hf := (if_neg c23).symm.trans hf
    refine lv_aload_n hx hb dX13_record_17 rfl (lv_at hl 0 rfl) ?_
    obtain ⟨x17, h18, hf⟩ := ob_some hf
    refine rR_fl_X13_23 hC hw h18 dX13_record_18 ?_
    refine lv_iload_n hx hb dX13_record_21 rfl (lv_at hl 1 rfl) ?_
    refine lv_aload_n hx hb dX13_record_22 rfl (lv_at hl 0 rfl) ?_
    obtain ⟨x19, h20, hf⟩ := ob_some hf
    refine rR_fl_X13_23 hC hw h20 dX13_record_23 ?_
    refine lv_iload_n hx hb dX13_record_26 rfl (lv_at hl 1 rfl) ?_
    refine lv_iconst (v := 1) hx hb dX13_record_27 (by decide) ?_
    refine lv_isub hx hb dX13_record_28 ?_
    obtain ⟨x21, h22, hf⟩ := ob_some hf
    refine gg_cSV (As := [.ref x17, .int l1, .ref x19, .int (l1 - (1 : Int32))]) hC hw (X13_copy_M l E D A h22) g_ml_X13_243 hd_X13_copy.2 (Nat.le_of_ble_eq_true rfl) (Nat.le_of_ble_eq_true rfl) hl.1 rfl (Nat.le_of_ble_eq_true rfl) dX13_record_29 (fun H locs cells slots hw => ?_)
    refine lv_iinc (v := (l1 + 1)) (lv' := [(1, .int (l1 + 1)), (0, .ref l0)]) hx hb dX13_record_32 hl (k := 1) rfl rfl (by decide) rfl (fun ls hl => ?_)
    refine lv_goto (tgt := 11) hx hb dX13_record_35 (by decide) ?_
    exact h_11 hf hw (lv_sub hl [1, 0] rfl)
def X13_record_11 (E : gE) : Nat → Nat → Int32 → gS → Option gS
  | 0 => fun _ _ _ => none
  | n + 1 => X13_record_11_s E (X13_record_11 E n)
theorem X13_record_11_W {σz : gS} (hC : gC E D A p R s m args meth c cX13_record 2 RX13 "record" 4 103) (hQ : gQV E D A p l e R s m args below meth c Q cX13_record σz) : ∀ (n : Nat), ∀ {l0 : Nat} {l1 : Int32} {σ : gS} {H : Heap} {locs : List Loc} {cells slots : Nat} {ls : Array Slot}, X13_record_11 E n l0 l1 σ = some σz → gW E D A s σ H locs → lv_has ls 2 [(0, .ref l0), (1, .int l1)] → W p l e R s m args below meth c H locs cells slots Q (F0 m 11 ls []) := by
  intro n
  induction n with
  | zero =>
    intros
    rename_i hf _ _
    exact absurd hf (fun h => by cases (show (none : Option gS) = some σz from h))
  | succ n ih =>
    intros
    rename_i hf hw hl
    exact X13_record_11_s_W hC hQ ih hf hw hl

def X13_record (E : gE) (l0 : Nat) (σ : gS) : Option gS :=
  ob (gfI σ l0 11 9) fun x24 =>
  if x24 = (8 : Int32) then
    X13_record_11 E (gN E) l0 (1 : Int32) σ
  else
    X13_record_48 E l0 σ
set_option maxHeartbeats 4000000 in
set_option maxRecDepth 100000 in
theorem X13_record_W {σ : gS} {l0 : Nat} {σz : gS} {ls : Array Slot} (hC : gC E D A p R s m args meth c cX13_record 2 RX13 "record" 4 103) (hQ : gQV E D A p l e R s m args below meth c Q cX13_record σz) (hf : X13_record E l0 σ = some σz) (hw : gW E D A s σ H locs) (hl : lv_has ls 2 [(0, .ref l0)]) : W p l e R s m args below meth c H locs cells slots Q (F0 m 0 ls []) := by
  have hC0 := hC
  obtain ⟨hx, hb, hml, hown, hts, -⟩ := hC0
  unfold X13_record at hf
  refine lv_aload_n hx hb dX13_record_0 rfl (lv_at hl 0 rfl) ?_
  obtain ⟨x24, h25, hf⟩ := ob_some hf
  refine rI_fl_X13_247 hC hw h25 dX13_record_1 ?_
  refine lv_bipush (v := 8) hx hb dX13_record_4 (by decide) ?_
  refine lv_icmp_ne (tgt := 48) hx hb dX13_record_6 (by decide) (fun c26 => ?_) (fun c26 => ?_)
  · replace hf := (if_neg c26).symm.trans hf
    exact X13_record_48_W hC hQ hf hw (lv_sub hl [0] rfl)
  · replace hf := (if_pos c26).symm.trans hf
    refine lv_iconst (v := 1) hx hb dX13_record_9 (by decide) ?_
    refine lv_istore_n (lv' := [(1, .int (1 : Int32)), (0, .ref l0)]) hx hb dX13_record_10 rfl hl (by decide) rfl (fun ls hl => ?_)
    exact X13_record_11_W hC hQ (gN E) hf hw (lv_sub hl [1, 0] rfl)

def X13_record_f (E : gE) (l0 : Nat) (σ : gS) : Option gS := X13_record E l0 σ
set_option maxRecDepth 100000 in
theorem X13_record_M (l : Launch) (E : gE) (D : va_G) (A : Nat → Prop) {l0 : Nat} {σ : gS} {σz : gS} (hf : X13_record_f E l0 σ = some σz) : gCV l E D A yX13_record cX13_record 2 4 103 none [.ref l0] σ σz := by
  refine gg_entV (own := RX13) (nm := "record") (by decide +kernel) rfl rfl (Nat.le_of_ble_eq_true rfl) rfl ?_
  intro p e R s m args below meth c Q ls hC hw hQ hl
  have hl : lv_has ls 2 [(0, .ref l0)] := hl
  exact X13_record_W hC hQ hf hw hl

def X13_ends (E : gE) (l0 : Nat) (l1 : Int32) (σ : gS) : Option (Int32 × gS) :=
  ob (gpf E σ l0 11 10 (.int l1)) fun σ1 =>
  if l1 = 0 then
    ob (gcl σ1 l0 11) fun _ =>
    ob (X13_record_f E l0 σ1) fun x3 =>
    ob (gfI x3 l0 11 12) fun x6 =>
    some (x6, x3)
  else
    some ((0 : Int32), σ1)
set_option maxHeartbeats 4000000 in
set_option maxRecDepth 100000 in
theorem X13_ends_W {σ : gS} {l0 : Nat} {l1 : Int32} {res : (Int32 × gS)} {ls : Array Slot} (hC : gC E D A p R s m args meth c cX13_ends 2 RX13 "ends" 5 124) (hQ : gQI E D A p l e R s m args below meth c Q cX13_ends FieldType.int res) (hf : X13_ends E l0 l1 σ = some res) (hw : gW E D A s σ H locs) (hl : lv_has ls 2 [(0, .ref l0), (1, .int l1)]) : W p l e R s m args below meth c H locs cells slots Q (F0 m 0 ls []) := by
  have hC0 := hC
  obtain ⟨hx, hb, hml, hown, hts, -⟩ := hC0
  unfold X13_ends at hf
  refine lv_aload_n hx hb dX13_ends_0 rfl (lv_at hl 0 rfl) ?_
  refine lv_iload_n hx hb dX13_ends_1 rfl (lv_at hl 1 rfl) ?_
  obtain ⟨σ1, h2, hf⟩ := ob_some hf
  refine p_fl_X13_85 hC hw h2 rfl rfl dX13_ends_2 (fun H locs hw => ?_)
  refine lv_iload_n hx hb dX13_ends_5 rfl (lv_at hl 1 rfl) ?_
  refine lv_if_eq (tgt := 11) hx hb dX13_ends_6 (by decide) (fun c8 => ?_) (fun c8 => ?_)
  · replace hf := (if_pos c8).symm.trans hf
    refine lv_aload_n hx hb dX13_ends_11 rfl (lv_at hl 0 rfl) ?_
    obtain ⟨_, h5, hf⟩ := ob_some hf
    obtain ⟨x3, h4, hf⟩ := ob_some hf
    refine gg_cVV (As := []) hC hw (X13_record_M l E D A h4) h5 rfl g_ml_X13_250 hd_X13_record (Nat.le_of_ble_eq_true rfl) (Nat.le_of_ble_eq_true rfl) hl.1 rfl (Nat.le_of_ble_eq_true rfl) dX13_ends_12 (fun H locs cells slots hw => ?_)
    refine lv_aload_n hx hb dX13_ends_15 rfl (lv_at hl 0 rfl) ?_
    obtain ⟨x6, h7, hf⟩ := ob_some hf
    refine rI_fl_X13_231 hC hw h7 dX13_ends_16 ?_
    cases hf
    exact hQ _ _ _ _ _ _ dX13_ends_19 rfl hw
  · replace hf := (if_neg c8).symm.trans hf
    refine lv_iconst (v := 0) hx hb dX13_ends_9 (by decide) ?_
    cases hf
    exact hQ _ _ _ _ _ _ dX13_ends_10 rfl hw

def X13_ends_f (E : gE) (l0 : Nat) (l1 : Int32) (σ : gS) : Option (Int32 × gS) := X13_ends E l0 l1 σ
set_option maxRecDepth 100000 in
theorem X13_ends_M (l : Launch) (E : gE) (D : va_G) (A : Nat → Prop) {l0 : Nat} {l1 : Int32} {σ : gS} {res : (Int32 × gS)} (hf : X13_ends_f E l0 l1 σ = some res) : gCI l E D A yX13_ends cX13_ends 2 5 124 (some FieldType.int) [.ref l0, .int l1] σ res := by
  refine gg_entI (own := RX13) (nm := "ends") (ty := FieldType.int) (by decide +kernel) rfl rfl (Nat.le_of_ble_eq_true rfl) rfl ?_
  intro p e R s m args below meth c Q ls hC hw hQ hl
  have hl : lv_has ls 2 [(0, .ref l0), (1, .int l1)] := hl
  exact X13_ends_W hC hQ hf hw hl

def X13_removeRow (E : gE) (l0 : Nat) (l1 : Int32) (σ : gS) : Option (Int32 × gS) :=
  ob (gcl σ l0 11) fun _ =>
  ob (X13_isRow_f E σ l0 l1) fun x1 =>
  ob (gcl σ l0 11) fun _ =>
  ob (X13_lacks_f E l0 x1 σ) fun x4 =>
  if x4.1 = 0 then
    ob (gcl x4.2 l0 11) fun _ =>
    ob (X13_keep_f E l0 x4.2) fun x7 =>
    ob (gcl x7 l0 11) fun _ =>
    ob (X13_takeOut_f E l0 l1 x7) fun x10 =>
    ob (gfR x10 l0 11 8) fun x13 =>
    ob (graI E 0 x10 x13 (1 : Int32)) fun x15 =>
    ob (gpf E x10 l0 11 12 (.int x15)) fun σ17 =>
    ob (gcl σ17 l0 11) fun _ =>
    ob (X13_ends_f E l0 (0 : Int32) σ17) fun x19 =>
    some (x19.1, x19.2)
  else
    some ((0 : Int32), x4.2)
set_option maxHeartbeats 4000000 in
set_option maxRecDepth 100000 in
theorem X13_removeRow_W {σ : gS} {l0 : Nat} {l1 : Int32} {res : (Int32 × gS)} {ls : Array Slot} (hC : gC E D A p R s m args meth c cX13_removeRow 2 RX13 "removeRow" 6 145) (hQ : gQI E D A p l e R s m args below meth c Q cX13_removeRow FieldType.int res) (hf : X13_removeRow E l0 l1 σ = some res) (hw : gW E D A s σ H locs) (hl : lv_has ls 2 [(0, .ref l0), (1, .int l1)]) : W p l e R s m args below meth c H locs cells slots Q (F0 m 0 ls []) := by
  have hC0 := hC
  obtain ⟨hx, hb, hml, hown, hts, -⟩ := hC0
  unfold X13_removeRow at hf
  refine lv_aload_n hx hb dX13_removeRow_0 rfl (lv_at hl 0 rfl) ?_
  refine lv_aload_n hx hb dX13_removeRow_1 rfl (lv_at hl 0 rfl) ?_
  refine lv_iload_n hx hb dX13_removeRow_2 rfl (lv_at hl 1 rfl) ?_
  obtain ⟨_, h3, hf⟩ := ob_some hf
  obtain ⟨x1, h2, hf⟩ := ob_some hf
  refine gg_cVI (As := [.int l1]) hC hw (X13_isRow_M l E D A h2) h3 rfl g_ml_X13_127 hd_X13_isRow (Nat.le_of_ble_eq_true rfl) (Nat.le_of_ble_eq_true rfl) hl.1 rfl (Nat.le_of_ble_eq_true rfl) dX13_removeRow_3 (fun H locs cells slots hw => ?_)
  obtain ⟨_, h6, hf⟩ := ob_some hf
  obtain ⟨x4, h5, hf⟩ := ob_some hf
  refine gg_cVI (As := [.int x1]) hC hw (X13_lacks_M l E D A h5) h6 rfl g_ml_X13_88 hd_X13_lacks (Nat.le_of_ble_eq_true rfl) (Nat.le_of_ble_eq_true rfl) hl.1 rfl (Nat.le_of_ble_eq_true rfl) dX13_removeRow_6 (fun H locs cells slots hw => ?_)
  refine lv_if_eq (tgt := 14) hx hb dX13_removeRow_9 (by decide) (fun c22 => ?_) (fun c22 => ?_)
  · replace hf := (if_pos c22).symm.trans hf
    refine lv_aload_n hx hb dX13_removeRow_14 rfl (lv_at hl 0 rfl) ?_
    obtain ⟨_, h9, hf⟩ := ob_some hf
    obtain ⟨x7, h8, hf⟩ := ob_some hf
    refine gg_cVV (As := []) hC hw (X13_keep_M l E D A h8) h9 rfl g_ml_X13_253 hd_X13_keep (Nat.le_of_ble_eq_true rfl) (Nat.le_of_ble_eq_true rfl) hl.1 rfl (Nat.le_of_ble_eq_true rfl) dX13_removeRow_15 (fun H locs cells slots hw => ?_)
    refine lv_aload_n hx hb dX13_removeRow_18 rfl (lv_at hl 0 rfl) ?_
    refine lv_iload_n hx hb dX13_removeRow_19 rfl (lv_at hl 1 rfl) ?_
    obtain ⟨_, h12, hf⟩ := ob_some hf
    obtain ⟨x10, h11, hf⟩ := ob_some hf
    refine gg_cVV (As := [.int l1]) hC hw (X13_takeOut_M l E D A h11) h12 rfl g_ml_X13_234 hd_X13_takeOut (Nat.le_of_ble_eq_true rfl) (Nat.le_of_ble_eq_true rfl) hl.1 rfl (Nat.le_of_ble_eq_true rfl) dX13_removeRow_20 (fun H locs cells slots hw => ?_)
    refine lv_aload_n hx hb dX13_removeRow_23 rfl (lv_at hl 0 rfl) ?_
    refine lv_aload_n hx hb dX13_removeRow_24 rfl (lv_at hl 0 rfl) ?_
    obtain ⟨x13, h14, hf⟩ := ob_some hf
    refine rR_fl_X13_35 hC hw h14 dX13_removeRow_25 ?_
    refine lv_iconst (v := 1) hx hb dX13_removeRow_28 (by decide) ?_
    obtain ⟨x15, h16, hf⟩ := ob_some hf
    refine gg_aldI hC hw h16 dX13_removeRow_29 ?_
    obtain ⟨σ17, h18, hf⟩ := ob_some hf
    refine p_fl_X13_231 hC hw h18 rfl rfl dX13_removeRow_30 (fun H locs hw => ?_)
    refine lv_aload_n hx hb dX13_removeRow_33 rfl (lv_at hl 0 rfl) ?_
    refine lv_iconst (v := 0) hx hb dX13_removeRow_34 (by decide) ?_
    obtain ⟨_, h21, hf⟩ := ob_some hf
    obtain ⟨x19, h20, hf⟩ := ob_some hf
    refine gg_cVI (As := [.int (0 : Int32)]) hC hw (X13_ends_M l E D A h20) h21 rfl g_ml_X13_256 hd_X13_ends (Nat.le_of_ble_eq_true rfl) (Nat.le_of_ble_eq_true rfl) hl.1 rfl (Nat.le_of_ble_eq_true rfl) dX13_removeRow_35 (fun H locs cells slots hw => ?_)
    cases hf
    exact hQ _ _ _ _ _ _ dX13_removeRow_38 rfl hw
  · replace hf := (if_neg c22).symm.trans hf
    refine lv_iconst (v := 0) hx hb dX13_removeRow_12 (by decide) ?_
    cases hf
    exact hQ _ _ _ _ _ _ dX13_removeRow_13 rfl hw

def X13_removeRow_f (E : gE) (l0 : Nat) (l1 : Int32) (σ : gS) : Option (Int32 × gS) := X13_removeRow E l0 l1 σ
set_option maxRecDepth 100000 in
theorem X13_removeRow_M (l : Launch) (E : gE) (D : va_G) (A : Nat → Prop) {l0 : Nat} {l1 : Int32} {σ : gS} {res : (Int32 × gS)} (hf : X13_removeRow_f E l0 l1 σ = some res) : gCI l E D A yX13_removeRow cX13_removeRow 2 6 145 (some FieldType.int) [.ref l0, .int l1] σ res := by
  refine gg_entI (own := RX13) (nm := "removeRow") (ty := FieldType.int) (by decide +kernel) rfl rfl (Nat.le_of_ble_eq_true rfl) rfl ?_
  intro p e R s m args below meth c Q ls hC hw hQ hl
  have hl : lv_has ls 2 [(0, .ref l0), (1, .int l1)] := hl
  exact X13_removeRow_W hC hQ hf hw hl

def X13_setValue (E : gE) (l0 : Nat) (l1 : Int32) (l2 : Int32) (l3 : Int32) (σ : gS) : Option (Int32 × gS) :=
  ob (gcl σ l0 11) fun _ =>
  ob (X13_isCell_f E σ l0 l1 l2) fun x1 =>
  ob (X13_isValue_f E σ l3) fun x4 =>
  ob (gcl σ l0 11) fun _ =>
  ob (X13_lacksBoth_f E l0 x1 x4 σ) fun x6 =>
  if x6.1 = 0 then
    ob (gcl x6.2 l0 11) fun _ =>
    ob (X13_keep_f E l0 x6.2) fun x9 =>
    ob (gcl x9 l0 11) fun _ =>
    ob (X13_doSet_f E l0 l1 l2 l3 x9) fun x12 =>
    ob (gcl x12.2 l0 11) fun _ =>
    ob (X13_ends_f E l0 x12.1 x12.2) fun x15 =>
    some (x15.1, x15.2)
  else
    some ((0 : Int32), x6.2)
set_option maxHeartbeats 4000000 in
set_option maxRecDepth 100000 in
theorem X13_setValue_W {σ : gS} {l0 : Nat} {l1 : Int32} {l2 : Int32} {l3 : Int32} {res : (Int32 × gS)} {ls : Array Slot} (hC : gC E D A p R s m args meth c cX13_setValue 4 RX13 "setValue" 6 145) (hQ : gQI E D A p l e R s m args below meth c Q cX13_setValue FieldType.int res) (hf : X13_setValue E l0 l1 l2 l3 σ = some res) (hw : gW E D A s σ H locs) (hl : lv_has ls 4 [(0, .ref l0), (1, .int l1), (2, .int l2), (3, .int l3)]) : W p l e R s m args below meth c H locs cells slots Q (F0 m 0 ls []) := by
  have hC0 := hC
  obtain ⟨hx, hb, hml, hown, hts, -⟩ := hC0
  unfold X13_setValue at hf
  refine lv_aload_n hx hb dX13_setValue_0 rfl (lv_at hl 0 rfl) ?_
  refine lv_aload_n hx hb dX13_setValue_1 rfl (lv_at hl 0 rfl) ?_
  refine lv_iload_n hx hb dX13_setValue_2 rfl (lv_at hl 1 rfl) ?_
  refine lv_iload_n hx hb dX13_setValue_3 rfl (lv_at hl 2 rfl) ?_
  obtain ⟨_, h3, hf⟩ := ob_some hf
  obtain ⟨x1, h2, hf⟩ := ob_some hf
  refine gg_cVI (As := [.int l1, .int l2]) hC hw (X13_isCell_M l E D A h2) h3 rfl g_ml_X13_130 hd_X13_isCell (Nat.le_of_ble_eq_true rfl) (Nat.le_of_ble_eq_true rfl) hl.1 rfl (Nat.le_of_ble_eq_true rfl) dX13_setValue_4 (fun H locs cells slots hw => ?_)
  refine lv_iload_n hx hb dX13_setValue_7 rfl (lv_at hl 3 rfl) ?_
  obtain ⟨x4, h5, hf⟩ := ob_some hf
  refine gg_cSI (As := [.int l3]) hC hw (X13_isValue_M l E D A h5) g_ml_X13_104 hd_X13_isValue.2 (Nat.le_of_ble_eq_true rfl) (Nat.le_of_ble_eq_true rfl) hl.1 rfl (Nat.le_of_ble_eq_true rfl) dX13_setValue_8 (fun H locs cells slots hw => ?_)
  obtain ⟨_, h8, hf⟩ := ob_some hf
  obtain ⟨x6, h7, hf⟩ := ob_some hf
  refine gg_cVI (As := [.int x1, .int x4]) hC hw (X13_lacksBoth_M l E D A h7) h8 rfl g_ml_X13_205 hd_X13_lacksBoth (Nat.le_of_ble_eq_true rfl) (Nat.le_of_ble_eq_true rfl) hl.1 rfl (Nat.le_of_ble_eq_true rfl) dX13_setValue_11 (fun H locs cells slots hw => ?_)
  refine lv_if_eq (tgt := 19) hx hb dX13_setValue_14 (by decide) (fun c18 => ?_) (fun c18 => ?_)
  · replace hf := (if_pos c18).symm.trans hf
    refine lv_aload_n hx hb dX13_setValue_19 rfl (lv_at hl 0 rfl) ?_
    obtain ⟨_, h11, hf⟩ := ob_some hf
    obtain ⟨x9, h10, hf⟩ := ob_some hf
    refine gg_cVV (As := []) hC hw (X13_keep_M l E D A h10) h11 rfl g_ml_X13_253 hd_X13_keep (Nat.le_of_ble_eq_true rfl) (Nat.le_of_ble_eq_true rfl) hl.1 rfl (Nat.le_of_ble_eq_true rfl) dX13_setValue_20 (fun H locs cells slots hw => ?_)
    refine lv_aload_n hx hb dX13_setValue_23 rfl (lv_at hl 0 rfl) ?_
    refine lv_aload_n hx hb dX13_setValue_24 rfl (lv_at hl 0 rfl) ?_
    refine lv_iload_n hx hb dX13_setValue_25 rfl (lv_at hl 1 rfl) ?_
    refine lv_iload_n hx hb dX13_setValue_26 rfl (lv_at hl 2 rfl) ?_
    refine lv_iload_n hx hb dX13_setValue_27 rfl (lv_at hl 3 rfl) ?_
    obtain ⟨_, h14, hf⟩ := ob_some hf
    obtain ⟨x12, h13, hf⟩ := ob_some hf
    refine gg_cVI (As := [.int l1, .int l2, .int l3]) hC hw (X13_doSet_M l E D A h13) h14 rfl g_ml_X13_259 hd_X13_doSet (Nat.le_of_ble_eq_true rfl) (Nat.le_of_ble_eq_true rfl) hl.1 rfl (Nat.le_of_ble_eq_true rfl) dX13_setValue_28 (fun H locs cells slots hw => ?_)
    obtain ⟨_, h17, hf⟩ := ob_some hf
    obtain ⟨x15, h16, hf⟩ := ob_some hf
    refine gg_cVI (As := [.int x12.1]) hC hw (X13_ends_M l E D A h16) h17 rfl g_ml_X13_256 hd_X13_ends (Nat.le_of_ble_eq_true rfl) (Nat.le_of_ble_eq_true rfl) hl.1 rfl (Nat.le_of_ble_eq_true rfl) dX13_setValue_31 (fun H locs cells slots hw => ?_)
    cases hf
    exact hQ _ _ _ _ _ _ dX13_setValue_34 rfl hw
  · replace hf := (if_neg c18).symm.trans hf
    refine lv_iconst (v := 0) hx hb dX13_setValue_17 (by decide) ?_
    cases hf
    exact hQ _ _ _ _ _ _ dX13_setValue_18 rfl hw

def X13_setValue_f (E : gE) (l0 : Nat) (l1 : Int32) (l2 : Int32) (l3 : Int32) (σ : gS) : Option (Int32 × gS) := X13_setValue E l0 l1 l2 l3 σ
set_option maxRecDepth 100000 in
theorem X13_setValue_M (l : Launch) (E : gE) (D : va_G) (A : Nat → Prop) {l0 : Nat} {l1 : Int32} {l2 : Int32} {l3 : Int32} {σ : gS} {res : (Int32 × gS)} (hf : X13_setValue_f E l0 l1 l2 l3 σ = some res) : gCI l E D A yX13_setValue cX13_setValue 4 6 145 (some FieldType.int) [.ref l0, .int l1, .int l2, .int l3] σ res := by
  refine gg_entI (own := RX13) (nm := "setValue") (ty := FieldType.int) (by decide +kernel) rfl rfl (Nat.le_of_ble_eq_true rfl) rfl ?_
  intro p e R s m args below meth c Q ls hC hw hQ hl
  have hl : lv_has ls 4 [(0, .ref l0), (1, .int l1), (2, .int l2), (3, .int l3)] := hl
  exact X13_setValue_W hC hQ hf hw hl

def X13_sort_30 (E : gE) (s0 : Int32) (s1 : Int32) (s2 : Nat) (s3 : Nat) (σ : gS) : Option (Int32 × gS) :=
  ob (gcl σ s2 11) fun _ =>
  ob (X13_doSort_f E s2 s1 s0 σ) fun x1 =>
  ob (gcl x1.2 s3 11) fun _ =>
  ob (X13_ends_f E s3 x1.1 x1.2) fun x4 =>
  some (x4.1, x4.2)
set_option maxHeartbeats 4000000 in
set_option maxRecDepth 100000 in
theorem X13_sort_30_W {σ : gS} {s0 : Int32} {s1 : Int32} {s2 : Nat} {s3 : Nat} {res : (Int32 × gS)} {ls : Array Slot} (hC : gC E D A p R s m args meth c cX13_sort 3 RX13 "sort" 6 145) (hQ : gQI E D A p l e R s m args below meth c Q cX13_sort FieldType.int res) (hf : X13_sort_30 E s0 s1 s2 s3 σ = some res) (hw : gW E D A s σ H locs) (hl : lv_has ls 3 []) : W p l e R s m args below meth c H locs cells slots Q (F0 m 30 ls [.int s0, .int s1, .ref s2, .ref s3]) := by
  have hC0 := hC
  obtain ⟨hx, hb, hml, hown, hts, -⟩ := hC0
  unfold X13_sort_30 at hf
  obtain ⟨_, h3, hf⟩ := ob_some hf
  obtain ⟨x1, h2, hf⟩ := ob_some hf
  refine gg_cVI (As := [.int s1, .int s0]) hC hw (X13_doSort_M l E D A h2) h3 rfl g_ml_X13_263 hd_X13_doSort (Nat.le_of_ble_eq_true rfl) (Nat.le_of_ble_eq_true rfl) hl.1 rfl (Nat.le_of_ble_eq_true rfl) dX13_sort_30 (fun H locs cells slots hw => ?_)
  obtain ⟨_, h6, hf⟩ := ob_some hf
  obtain ⟨x4, h5, hf⟩ := ob_some hf
  refine gg_cVI (As := [.int x1.1]) hC hw (X13_ends_M l E D A h5) h6 rfl g_ml_X13_256 hd_X13_ends (Nat.le_of_ble_eq_true rfl) (Nat.le_of_ble_eq_true rfl) hl.1 rfl (Nat.le_of_ble_eq_true rfl) dX13_sort_33 (fun H locs cells slots hw => ?_)
  cases hf
  exact hQ _ _ _ _ _ _ dX13_sort_36 rfl hw

def X13_sort (E : gE) (l0 : Nat) (l1 : Int32) (l2 : Int32) (σ : gS) : Option (Int32 × gS) :=
  ob (gcl σ l0 11) fun _ =>
  ob (X13_isColumn_f E σ l0 l1) fun x7 =>
  ob (gcl σ l0 11) fun _ =>
  ob (X13_lacks_f E l0 x7 σ) fun x10 =>
  if x10.1 = 0 then
    ob (gcl x10.2 l0 11) fun _ =>
    ob (X13_keep_f E l0 x10.2) fun x13 =>
    if l2 = 0 then
      X13_sort_30 E (-1 : Int32) l1 l0 l0 x13
    else
      X13_sort_30 E (1 : Int32) l1 l0 l0 x13
  else
    some ((0 : Int32), x10.2)
set_option maxHeartbeats 4000000 in
set_option maxRecDepth 100000 in
theorem X13_sort_W {σ : gS} {l0 : Nat} {l1 : Int32} {l2 : Int32} {res : (Int32 × gS)} {ls : Array Slot} (hC : gC E D A p R s m args meth c cX13_sort 3 RX13 "sort" 6 145) (hQ : gQI E D A p l e R s m args below meth c Q cX13_sort FieldType.int res) (hf : X13_sort E l0 l1 l2 σ = some res) (hw : gW E D A s σ H locs) (hl : lv_has ls 3 [(0, .ref l0), (1, .int l1), (2, .int l2)]) : W p l e R s m args below meth c H locs cells slots Q (F0 m 0 ls []) := by
  have hC0 := hC
  obtain ⟨hx, hb, hml, hown, hts, -⟩ := hC0
  unfold X13_sort at hf
  refine lv_aload_n hx hb dX13_sort_0 rfl (lv_at hl 0 rfl) ?_
  refine lv_aload_n hx hb dX13_sort_1 rfl (lv_at hl 0 rfl) ?_
  refine lv_iload_n hx hb dX13_sort_2 rfl (lv_at hl 1 rfl) ?_
  obtain ⟨_, h9, hf⟩ := ob_some hf
  obtain ⟨x7, h8, hf⟩ := ob_some hf
  refine gg_cVI (As := [.int l1]) hC hw (X13_isColumn_M l E D A h8) h9 rfl g_ml_X13_112 hd_X13_isColumn (Nat.le_of_ble_eq_true rfl) (Nat.le_of_ble_eq_true rfl) hl.1 rfl (Nat.le_of_ble_eq_true rfl) dX13_sort_3 (fun H locs cells slots hw => ?_)
  obtain ⟨_, h12, hf⟩ := ob_some hf
  obtain ⟨x10, h11, hf⟩ := ob_some hf
  refine gg_cVI (As := [.int x7]) hC hw (X13_lacks_M l E D A h11) h12 rfl g_ml_X13_88 hd_X13_lacks (Nat.le_of_ble_eq_true rfl) (Nat.le_of_ble_eq_true rfl) hl.1 rfl (Nat.le_of_ble_eq_true rfl) dX13_sort_6 (fun H locs cells slots hw => ?_)
  refine lv_if_eq (tgt := 14) hx hb dX13_sort_9 (by decide) (fun c17 => ?_) (fun c17 => ?_)
  · replace hf := (if_pos c17).symm.trans hf
    refine lv_aload_n hx hb dX13_sort_14 rfl (lv_at hl 0 rfl) ?_
    obtain ⟨_, h15, hf⟩ := ob_some hf
    obtain ⟨x13, h14, hf⟩ := ob_some hf
    refine gg_cVV (As := []) hC hw (X13_keep_M l E D A h14) h15 rfl g_ml_X13_253 hd_X13_keep (Nat.le_of_ble_eq_true rfl) (Nat.le_of_ble_eq_true rfl) hl.1 rfl (Nat.le_of_ble_eq_true rfl) dX13_sort_15 (fun H locs cells slots hw => ?_)
    refine lv_aload_n hx hb dX13_sort_18 rfl (lv_at hl 0 rfl) ?_
    refine lv_aload_n hx hb dX13_sort_19 rfl (lv_at hl 0 rfl) ?_
    refine lv_iload_n hx hb dX13_sort_20 rfl (lv_at hl 1 rfl) ?_
    refine lv_iload_n hx hb dX13_sort_21 rfl (lv_at hl 2 rfl) ?_
    refine lv_if_eq (tgt := 29) hx hb dX13_sort_22 (by decide) (fun c16 => ?_) (fun c16 => ?_)
    · replace hf := (if_pos c16).symm.trans hf
      refine lv_iconst (v := -1) hx hb dX13_sort_29 (by decide) ?_
      exact X13_sort_30_W hC hQ hf hw (lv_sub hl [] rfl)
    · replace hf := (if_neg c16).symm.trans hf
      refine lv_iconst (v := 1) hx hb dX13_sort_25 (by decide) ?_
      refine lv_goto (tgt := 30) hx hb dX13_sort_26 (by decide) ?_
      exact X13_sort_30_W hC hQ hf hw (lv_sub hl [] rfl)
  · replace hf := (if_neg c17).symm.trans hf
    refine lv_iconst (v := 0) hx hb dX13_sort_12 (by decide) ?_
    cases hf
    exact hQ _ _ _ _ _ _ dX13_sort_13 rfl hw

def X13_sort_f (E : gE) (l0 : Nat) (l1 : Int32) (l2 : Int32) (σ : gS) : Option (Int32 × gS) := X13_sort E l0 l1 l2 σ
set_option maxRecDepth 100000 in
theorem X13_sort_M (l : Launch) (E : gE) (D : va_G) (A : Nat → Prop) {l0 : Nat} {l1 : Int32} {l2 : Int32} {σ : gS} {res : (Int32 × gS)} (hf : X13_sort_f E l0 l1 l2 σ = some res) : gCI l E D A yX13_sort cX13_sort 3 6 145 (some FieldType.int) [.ref l0, .int l1, .int l2] σ res := by
  refine gg_entI (own := RX13) (nm := "sort") (ty := FieldType.int) (by decide +kernel) rfl rfl (Nat.le_of_ble_eq_true rfl) rfl ?_
  intro p e R s m args below meth c Q ls hC hw hQ hl
  have hl : lv_has ls 3 [(0, .ref l0), (1, .int l1), (2, .int l2)] := hl
  exact X13_sort_W hC hQ hf hw hl

def X13_addCondition (E : gE) (l0 : Nat) (l1 : Int32) (l2 : Int32) (l3 : Int32) (σ : gS) : Option (Int32 × gS) :=
  ob (gcl σ l0 11) fun _ =>
  ob (X13_isColumn_f E σ l0 l1) fun x1 =>
  ob (X13_isValue_f E σ l2) fun x4 =>
  ob (gcl σ l0 11) fun _ =>
  ob (X13_lacksBoth_f E l0 x1 x4 σ) fun x6 =>
  if x6.1 = 0 then
    ob (gcl x6.2 l0 11) fun _ =>
    ob (X13_keep_f E l0 x6.2) fun x9 =>
    ob (gcl x9 l0 11) fun _ =>
    ob (X13_doCondition_f E l0 l1 l2 l3 x9) fun x12 =>
    ob (gcl x12.2 l0 11) fun _ =>
    ob (X13_ends_f E l0 x12.1 x12.2) fun x15 =>
    some (x15.1, x15.2)
  else
    some ((0 : Int32), x6.2)
set_option maxHeartbeats 4000000 in
set_option maxRecDepth 100000 in
theorem X13_addCondition_W {σ : gS} {l0 : Nat} {l1 : Int32} {l2 : Int32} {l3 : Int32} {res : (Int32 × gS)} {ls : Array Slot} (hC : gC E D A p R s m args meth c cX13_addCondition 4 RX13 "addCondition" 7 157) (hQ : gQI E D A p l e R s m args below meth c Q cX13_addCondition FieldType.int res) (hf : X13_addCondition E l0 l1 l2 l3 σ = some res) (hw : gW E D A s σ H locs) (hl : lv_has ls 4 [(0, .ref l0), (1, .int l1), (2, .int l2), (3, .int l3)]) : W p l e R s m args below meth c H locs cells slots Q (F0 m 0 ls []) := by
  have hC0 := hC
  obtain ⟨hx, hb, hml, hown, hts, -⟩ := hC0
  unfold X13_addCondition at hf
  refine lv_aload_n hx hb dX13_addCondition_0 rfl (lv_at hl 0 rfl) ?_
  refine lv_aload_n hx hb dX13_addCondition_1 rfl (lv_at hl 0 rfl) ?_
  refine lv_iload_n hx hb dX13_addCondition_2 rfl (lv_at hl 1 rfl) ?_
  obtain ⟨_, h3, hf⟩ := ob_some hf
  obtain ⟨x1, h2, hf⟩ := ob_some hf
  refine gg_cVI (As := [.int l1]) hC hw (X13_isColumn_M l E D A h2) h3 rfl g_ml_X13_112 hd_X13_isColumn (Nat.le_of_ble_eq_true rfl) (Nat.le_of_ble_eq_true rfl) hl.1 rfl (Nat.le_of_ble_eq_true rfl) dX13_addCondition_3 (fun H locs cells slots hw => ?_)
  refine lv_iload_n hx hb dX13_addCondition_6 rfl (lv_at hl 2 rfl) ?_
  obtain ⟨x4, h5, hf⟩ := ob_some hf
  refine gg_cSI (As := [.int l2]) hC hw (X13_isValue_M l E D A h5) g_ml_X13_104 hd_X13_isValue.2 (Nat.le_of_ble_eq_true rfl) (Nat.le_of_ble_eq_true rfl) hl.1 rfl (Nat.le_of_ble_eq_true rfl) dX13_addCondition_7 (fun H locs cells slots hw => ?_)
  obtain ⟨_, h8, hf⟩ := ob_some hf
  obtain ⟨x6, h7, hf⟩ := ob_some hf
  refine gg_cVI (As := [.int x1, .int x4]) hC hw (X13_lacksBoth_M l E D A h7) h8 rfl g_ml_X13_205 hd_X13_lacksBoth (Nat.le_of_ble_eq_true rfl) (Nat.le_of_ble_eq_true rfl) hl.1 rfl (Nat.le_of_ble_eq_true rfl) dX13_addCondition_10 (fun H locs cells slots hw => ?_)
  refine lv_if_eq (tgt := 18) hx hb dX13_addCondition_13 (by decide) (fun c18 => ?_) (fun c18 => ?_)
  · replace hf := (if_pos c18).symm.trans hf
    refine lv_aload_n hx hb dX13_addCondition_18 rfl (lv_at hl 0 rfl) ?_
    obtain ⟨_, h11, hf⟩ := ob_some hf
    obtain ⟨x9, h10, hf⟩ := ob_some hf
    refine gg_cVV (As := []) hC hw (X13_keep_M l E D A h10) h11 rfl g_ml_X13_253 hd_X13_keep (Nat.le_of_ble_eq_true rfl) (Nat.le_of_ble_eq_true rfl) hl.1 rfl (Nat.le_of_ble_eq_true rfl) dX13_addCondition_19 (fun H locs cells slots hw => ?_)
    refine lv_aload_n hx hb dX13_addCondition_22 rfl (lv_at hl 0 rfl) ?_
    refine lv_aload_n hx hb dX13_addCondition_23 rfl (lv_at hl 0 rfl) ?_
    refine lv_iload_n hx hb dX13_addCondition_24 rfl (lv_at hl 1 rfl) ?_
    refine lv_iload_n hx hb dX13_addCondition_25 rfl (lv_at hl 2 rfl) ?_
    refine lv_iload_n hx hb dX13_addCondition_26 rfl (lv_at hl 3 rfl) ?_
    obtain ⟨_, h14, hf⟩ := ob_some hf
    obtain ⟨x12, h13, hf⟩ := ob_some hf
    refine gg_cVI (As := [.int l1, .int l2, .int l3]) hC hw (X13_doCondition_M l E D A h13) h14 rfl g_ml_X13_266 hd_X13_doCondition (Nat.le_of_ble_eq_true rfl) (Nat.le_of_ble_eq_true rfl) hl.1 rfl (Nat.le_of_ble_eq_true rfl) dX13_addCondition_27 (fun H locs cells slots hw => ?_)
    obtain ⟨_, h17, hf⟩ := ob_some hf
    obtain ⟨x15, h16, hf⟩ := ob_some hf
    refine gg_cVI (As := [.int x12.1]) hC hw (X13_ends_M l E D A h16) h17 rfl g_ml_X13_256 hd_X13_ends (Nat.le_of_ble_eq_true rfl) (Nat.le_of_ble_eq_true rfl) hl.1 rfl (Nat.le_of_ble_eq_true rfl) dX13_addCondition_30 (fun H locs cells slots hw => ?_)
    cases hf
    exact hQ _ _ _ _ _ _ dX13_addCondition_33 rfl hw
  · replace hf := (if_neg c18).symm.trans hf
    refine lv_iconst (v := 0) hx hb dX13_addCondition_16 (by decide) ?_
    cases hf
    exact hQ _ _ _ _ _ _ dX13_addCondition_17 rfl hw

def X13_addCondition_f (E : gE) (l0 : Nat) (l1 : Int32) (l2 : Int32) (l3 : Int32) (σ : gS) : Option (Int32 × gS) := X13_addCondition E l0 l1 l2 l3 σ
set_option maxRecDepth 100000 in
theorem X13_addCondition_M (l : Launch) (E : gE) (D : va_G) (A : Nat → Prop) {l0 : Nat} {l1 : Int32} {l2 : Int32} {l3 : Int32} {σ : gS} {res : (Int32 × gS)} (hf : X13_addCondition_f E l0 l1 l2 l3 σ = some res) : gCI l E D A yX13_addCondition cX13_addCondition 4 7 157 (some FieldType.int) [.ref l0, .int l1, .int l2, .int l3] σ res := by
  refine gg_entI (own := RX13) (nm := "addCondition") (ty := FieldType.int) (by decide +kernel) rfl rfl (Nat.le_of_ble_eq_true rfl) rfl ?_
  intro p e R s m args below meth c Q ls hC hw hQ hl
  have hl : lv_has ls 4 [(0, .ref l0), (1, .int l1), (2, .int l2), (3, .int l3)] := hl
  exact X13_addCondition_W hC hQ hf hw hl

def X13_addLess (E : gE) (l0 : Nat) (l1 : Int32) (l2 : Int32) (σ : gS) : Option (Int32 × gS) :=
  ob (gcl σ l0 11) fun _ =>
  ob (X13_addCondition_f E l0 l1 l2 (-1 : Int32) σ) fun x1 =>
  some (x1.1, x1.2)
set_option maxHeartbeats 4000000 in
set_option maxRecDepth 100000 in
theorem X13_addLess_W {σ : gS} {l0 : Nat} {l1 : Int32} {l2 : Int32} {res : (Int32 × gS)} {ls : Array Slot} (hC : gC E D A p R s m args meth c cX13_addLess 3 RX13 "addLess" 8 180) (hQ : gQI E D A p l e R s m args below meth c Q cX13_addLess FieldType.int res) (hf : X13_addLess E l0 l1 l2 σ = some res) (hw : gW E D A s σ H locs) (hl : lv_has ls 3 [(0, .ref l0), (1, .int l1), (2, .int l2)]) : W p l e R s m args below meth c H locs cells slots Q (F0 m 0 ls []) := by
  have hC0 := hC
  obtain ⟨hx, hb, hml, hown, hts, -⟩ := hC0
  unfold X13_addLess at hf
  refine lv_aload_n hx hb dX13_addLess_0 rfl (lv_at hl 0 rfl) ?_
  refine lv_iload_n hx hb dX13_addLess_1 rfl (lv_at hl 1 rfl) ?_
  refine lv_iload_n hx hb dX13_addLess_2 rfl (lv_at hl 2 rfl) ?_
  refine lv_iconst (v := -1) hx hb dX13_addLess_3 (by decide) ?_
  obtain ⟨_, h3, hf⟩ := ob_some hf
  obtain ⟨x1, h2, hf⟩ := ob_some hf
  refine gg_cVI (As := [.int l1, .int l2, .int (-1 : Int32)]) hC hw (X13_addCondition_M l E D A h2) h3 rfl g_ml_X13_269 hd_X13_addCondition (Nat.le_of_ble_eq_true rfl) (Nat.le_of_ble_eq_true rfl) hl.1 rfl (Nat.le_of_ble_eq_true rfl) dX13_addLess_4 (fun H locs cells slots hw => ?_)
  cases hf
  exact hQ _ _ _ _ _ _ dX13_addLess_7 rfl hw

def X13_addLess_f (E : gE) (l0 : Nat) (l1 : Int32) (l2 : Int32) (σ : gS) : Option (Int32 × gS) := X13_addLess E l0 l1 l2 σ
set_option maxRecDepth 100000 in
theorem X13_addLess_M (l : Launch) (E : gE) (D : va_G) (A : Nat → Prop) {l0 : Nat} {l1 : Int32} {l2 : Int32} {σ : gS} {res : (Int32 × gS)} (hf : X13_addLess_f E l0 l1 l2 σ = some res) : gCI l E D A yX13_addLess cX13_addLess 3 8 180 (some FieldType.int) [.ref l0, .int l1, .int l2] σ res := by
  refine gg_entI (own := RX13) (nm := "addLess") (ty := FieldType.int) (by decide +kernel) rfl rfl (Nat.le_of_ble_eq_true rfl) rfl ?_
  intro p e R s m args below meth c Q ls hC hw hQ hl
  have hl : lv_has ls 3 [(0, .ref l0), (1, .int l1), (2, .int l2)] := hl
  exact X13_addLess_W hC hQ hf hw hl

def X13_addEqual (E : gE) (l0 : Nat) (l1 : Int32) (l2 : Int32) (σ : gS) : Option (Int32 × gS) :=
  ob (gcl σ l0 11) fun _ =>
  ob (X13_addCondition_f E l0 l1 l2 (0 : Int32) σ) fun x1 =>
  some (x1.1, x1.2)
set_option maxHeartbeats 4000000 in
set_option maxRecDepth 100000 in
theorem X13_addEqual_W {σ : gS} {l0 : Nat} {l1 : Int32} {l2 : Int32} {res : (Int32 × gS)} {ls : Array Slot} (hC : gC E D A p R s m args meth c cX13_addEqual 3 RX13 "addEqual" 8 180) (hQ : gQI E D A p l e R s m args below meth c Q cX13_addEqual FieldType.int res) (hf : X13_addEqual E l0 l1 l2 σ = some res) (hw : gW E D A s σ H locs) (hl : lv_has ls 3 [(0, .ref l0), (1, .int l1), (2, .int l2)]) : W p l e R s m args below meth c H locs cells slots Q (F0 m 0 ls []) := by
  have hC0 := hC
  obtain ⟨hx, hb, hml, hown, hts, -⟩ := hC0
  unfold X13_addEqual at hf
  refine lv_aload_n hx hb dX13_addEqual_0 rfl (lv_at hl 0 rfl) ?_
  refine lv_iload_n hx hb dX13_addEqual_1 rfl (lv_at hl 1 rfl) ?_
  refine lv_iload_n hx hb dX13_addEqual_2 rfl (lv_at hl 2 rfl) ?_
  refine lv_iconst (v := 0) hx hb dX13_addEqual_3 (by decide) ?_
  obtain ⟨_, h3, hf⟩ := ob_some hf
  obtain ⟨x1, h2, hf⟩ := ob_some hf
  refine gg_cVI (As := [.int l1, .int l2, .int (0 : Int32)]) hC hw (X13_addCondition_M l E D A h2) h3 rfl g_ml_X13_269 hd_X13_addCondition (Nat.le_of_ble_eq_true rfl) (Nat.le_of_ble_eq_true rfl) hl.1 rfl (Nat.le_of_ble_eq_true rfl) dX13_addEqual_4 (fun H locs cells slots hw => ?_)
  cases hf
  exact hQ _ _ _ _ _ _ dX13_addEqual_7 rfl hw

def X13_addEqual_f (E : gE) (l0 : Nat) (l1 : Int32) (l2 : Int32) (σ : gS) : Option (Int32 × gS) := X13_addEqual E l0 l1 l2 σ
set_option maxRecDepth 100000 in
theorem X13_addEqual_M (l : Launch) (E : gE) (D : va_G) (A : Nat → Prop) {l0 : Nat} {l1 : Int32} {l2 : Int32} {σ : gS} {res : (Int32 × gS)} (hf : X13_addEqual_f E l0 l1 l2 σ = some res) : gCI l E D A yX13_addEqual cX13_addEqual 3 8 180 (some FieldType.int) [.ref l0, .int l1, .int l2] σ res := by
  refine gg_entI (own := RX13) (nm := "addEqual") (ty := FieldType.int) (by decide +kernel) rfl rfl (Nat.le_of_ble_eq_true rfl) rfl ?_
  intro p e R s m args below meth c Q ls hC hw hQ hl
  have hl : lv_has ls 3 [(0, .ref l0), (1, .int l1), (2, .int l2)] := hl
  exact X13_addEqual_W hC hQ hf hw hl

def X13_addGreater (E : gE) (l0 : Nat) (l1 : Int32) (l2 : Int32) (σ : gS) : Option (Int32 × gS) :=
  ob (gcl σ l0 11) fun _ =>
  ob (X13_addCondition_f E l0 l1 l2 (1 : Int32) σ) fun x1 =>
  some (x1.1, x1.2)
set_option maxHeartbeats 4000000 in
set_option maxRecDepth 100000 in
theorem X13_addGreater_W {σ : gS} {l0 : Nat} {l1 : Int32} {l2 : Int32} {res : (Int32 × gS)} {ls : Array Slot} (hC : gC E D A p R s m args meth c cX13_addGreater 3 RX13 "addGreater" 8 180) (hQ : gQI E D A p l e R s m args below meth c Q cX13_addGreater FieldType.int res) (hf : X13_addGreater E l0 l1 l2 σ = some res) (hw : gW E D A s σ H locs) (hl : lv_has ls 3 [(0, .ref l0), (1, .int l1), (2, .int l2)]) : W p l e R s m args below meth c H locs cells slots Q (F0 m 0 ls []) := by
  have hC0 := hC
  obtain ⟨hx, hb, hml, hown, hts, -⟩ := hC0
  unfold X13_addGreater at hf
  refine lv_aload_n hx hb dX13_addGreater_0 rfl (lv_at hl 0 rfl) ?_
  refine lv_iload_n hx hb dX13_addGreater_1 rfl (lv_at hl 1 rfl) ?_
  refine lv_iload_n hx hb dX13_addGreater_2 rfl (lv_at hl 2 rfl) ?_
  refine lv_iconst (v := 1) hx hb dX13_addGreater_3 (by decide) ?_
  obtain ⟨_, h3, hf⟩ := ob_some hf
  obtain ⟨x1, h2, hf⟩ := ob_some hf
  refine gg_cVI (As := [.int l1, .int l2, .int (1 : Int32)]) hC hw (X13_addCondition_M l E D A h2) h3 rfl g_ml_X13_269 hd_X13_addCondition (Nat.le_of_ble_eq_true rfl) (Nat.le_of_ble_eq_true rfl) hl.1 rfl (Nat.le_of_ble_eq_true rfl) dX13_addGreater_4 (fun H locs cells slots hw => ?_)
  cases hf
  exact hQ _ _ _ _ _ _ dX13_addGreater_7 rfl hw

def X13_addGreater_f (E : gE) (l0 : Nat) (l1 : Int32) (l2 : Int32) (σ : gS) : Option (Int32 × gS) := X13_addGreater E l0 l1 l2 σ
set_option maxRecDepth 100000 in
theorem X13_addGreater_M (l : Launch) (E : gE) (D : va_G) (A : Nat → Prop) {l0 : Nat} {l1 : Int32} {l2 : Int32} {σ : gS} {res : (Int32 × gS)} (hf : X13_addGreater_f E l0 l1 l2 σ = some res) : gCI l E D A yX13_addGreater cX13_addGreater 3 8 180 (some FieldType.int) [.ref l0, .int l1, .int l2] σ res := by
  refine gg_entI (own := RX13) (nm := "addGreater") (ty := FieldType.int) (by decide +kernel) rfl rfl (Nat.le_of_ble_eq_true rfl) rfl ?_
  intro p e R s m args below meth c Q ls hC hw hQ hl
  have hl : lv_has ls 3 [(0, .ref l0), (1, .int l1), (2, .int l2)] := hl
  exact X13_addGreater_W hC hQ hf hw hl

def X13_removeCondition (E : gE) (l0 : Nat) (l1 : Int32) (σ : gS) : Option (Int32 × gS) :=
  ob (gcl σ l0 11) fun _ =>
  ob (X13_keep_f E l0 σ) fun x1 =>
  ob (gcl x1 l0 11) fun _ =>
  ob (X13_doDrop_f E l0 l1 x1) fun x4 =>
  ob (gcl x4.2 l0 11) fun _ =>
  ob (X13_ends_f E l0 x4.1 x4.2) fun x7 =>
  some (x7.1, x7.2)
set_option maxHeartbeats 4000000 in
set_option maxRecDepth 100000 in
theorem X13_removeCondition_W {σ : gS} {l0 : Nat} {l1 : Int32} {res : (Int32 × gS)} {ls : Array Slot} (hC : gC E D A p R s m args meth c cX13_removeCondition 2 RX13 "removeCondition" 7 155) (hQ : gQI E D A p l e R s m args below meth c Q cX13_removeCondition FieldType.int res) (hf : X13_removeCondition E l0 l1 σ = some res) (hw : gW E D A s σ H locs) (hl : lv_has ls 2 [(0, .ref l0), (1, .int l1)]) : W p l e R s m args below meth c H locs cells slots Q (F0 m 0 ls []) := by
  have hC0 := hC
  obtain ⟨hx, hb, hml, hown, hts, -⟩ := hC0
  unfold X13_removeCondition at hf
  refine lv_aload_n hx hb dX13_removeCondition_0 rfl (lv_at hl 0 rfl) ?_
  obtain ⟨_, h3, hf⟩ := ob_some hf
  obtain ⟨x1, h2, hf⟩ := ob_some hf
  refine gg_cVV (As := []) hC hw (X13_keep_M l E D A h2) h3 rfl g_ml_X13_253 hd_X13_keep (Nat.le_of_ble_eq_true rfl) (Nat.le_of_ble_eq_true rfl) hl.1 rfl (Nat.le_of_ble_eq_true rfl) dX13_removeCondition_1 (fun H locs cells slots hw => ?_)
  refine lv_aload_n hx hb dX13_removeCondition_4 rfl (lv_at hl 0 rfl) ?_
  refine lv_aload_n hx hb dX13_removeCondition_5 rfl (lv_at hl 0 rfl) ?_
  refine lv_iload_n hx hb dX13_removeCondition_6 rfl (lv_at hl 1 rfl) ?_
  obtain ⟨_, h6, hf⟩ := ob_some hf
  obtain ⟨x4, h5, hf⟩ := ob_some hf
  refine gg_cVI (As := [.int l1]) hC hw (X13_doDrop_M l E D A h5) h6 rfl g_ml_X13_272 hd_X13_doDrop (Nat.le_of_ble_eq_true rfl) (Nat.le_of_ble_eq_true rfl) hl.1 rfl (Nat.le_of_ble_eq_true rfl) dX13_removeCondition_7 (fun H locs cells slots hw => ?_)
  obtain ⟨_, h9, hf⟩ := ob_some hf
  obtain ⟨x7, h8, hf⟩ := ob_some hf
  refine gg_cVI (As := [.int x4.1]) hC hw (X13_ends_M l E D A h8) h9 rfl g_ml_X13_256 hd_X13_ends (Nat.le_of_ble_eq_true rfl) (Nat.le_of_ble_eq_true rfl) hl.1 rfl (Nat.le_of_ble_eq_true rfl) dX13_removeCondition_10 (fun H locs cells slots hw => ?_)
  cases hf
  exact hQ _ _ _ _ _ _ dX13_removeCondition_13 rfl hw

def X13_removeCondition_f (E : gE) (l0 : Nat) (l1 : Int32) (σ : gS) : Option (Int32 × gS) := X13_removeCondition E l0 l1 σ
set_option maxRecDepth 100000 in
theorem X13_removeCondition_M (l : Launch) (E : gE) (D : va_G) (A : Nat → Prop) {l0 : Nat} {l1 : Int32} {σ : gS} {res : (Int32 × gS)} (hf : X13_removeCondition_f E l0 l1 σ = some res) : gCI l E D A yX13_removeCondition cX13_removeCondition 2 7 155 (some FieldType.int) [.ref l0, .int l1] σ res := by
  refine gg_entI (own := RX13) (nm := "removeCondition") (ty := FieldType.int) (by decide +kernel) rfl rfl (Nat.le_of_ble_eq_true rfl) rfl ?_
  intro p e R s m args below meth c Q ls hC hw hQ hl
  have hl : lv_has ls 2 [(0, .ref l0), (1, .int l1)] := hl
  exact X13_removeCondition_W hC hQ hf hw hl

def X13_deleteSelected (E : gE) (l0 : Nat) (σ : gS) : Option (Int32 × gS) :=
  ob (gcl σ l0 11) fun _ =>
  ob (X13_keep_f E l0 σ) fun x1 =>
  ob (gcl x1 l0 11) fun _ =>
  ob (X13_doDelete_f E l0 x1) fun x4 =>
  ob (gcl x4.2 l0 11) fun _ =>
  ob (X13_ends_f E l0 x4.1 x4.2) fun x7 =>
  some (x7.1, x7.2)
set_option maxHeartbeats 4000000 in
set_option maxRecDepth 100000 in
theorem X13_deleteSelected_W {σ : gS} {l0 : Nat} {res : (Int32 × gS)} {ls : Array Slot} (hC : gC E D A p R s m args meth c cX13_deleteSelected 1 RX13 "deleteSelected" 6 145) (hQ : gQI E D A p l e R s m args below meth c Q cX13_deleteSelected FieldType.int res) (hf : X13_deleteSelected E l0 σ = some res) (hw : gW E D A s σ H locs) (hl : lv_has ls 1 [(0, .ref l0)]) : W p l e R s m args below meth c H locs cells slots Q (F0 m 0 ls []) := by
  have hC0 := hC
  obtain ⟨hx, hb, hml, hown, hts, -⟩ := hC0
  unfold X13_deleteSelected at hf
  refine lv_aload_n hx hb dX13_deleteSelected_0 rfl (lv_at hl 0 rfl) ?_
  obtain ⟨_, h3, hf⟩ := ob_some hf
  obtain ⟨x1, h2, hf⟩ := ob_some hf
  refine gg_cVV (As := []) hC hw (X13_keep_M l E D A h2) h3 rfl g_ml_X13_253 hd_X13_keep (Nat.le_of_ble_eq_true rfl) (Nat.le_of_ble_eq_true rfl) hl.1 rfl (Nat.le_of_ble_eq_true rfl) dX13_deleteSelected_1 (fun H locs cells slots hw => ?_)
  refine lv_aload_n hx hb dX13_deleteSelected_4 rfl (lv_at hl 0 rfl) ?_
  refine lv_aload_n hx hb dX13_deleteSelected_5 rfl (lv_at hl 0 rfl) ?_
  obtain ⟨_, h6, hf⟩ := ob_some hf
  obtain ⟨x4, h5, hf⟩ := ob_some hf
  refine gg_cVI (As := []) hC hw (X13_doDelete_M l E D A h5) h6 rfl g_ml_X13_275 hd_X13_doDelete (Nat.le_of_ble_eq_true rfl) (Nat.le_of_ble_eq_true rfl) hl.1 rfl (Nat.le_of_ble_eq_true rfl) dX13_deleteSelected_6 (fun H locs cells slots hw => ?_)
  obtain ⟨_, h9, hf⟩ := ob_some hf
  obtain ⟨x7, h8, hf⟩ := ob_some hf
  refine gg_cVI (As := [.int x4.1]) hC hw (X13_ends_M l E D A h8) h9 rfl g_ml_X13_256 hd_X13_ends (Nat.le_of_ble_eq_true rfl) (Nat.le_of_ble_eq_true rfl) hl.1 rfl (Nat.le_of_ble_eq_true rfl) dX13_deleteSelected_9 (fun H locs cells slots hw => ?_)
  cases hf
  exact hQ _ _ _ _ _ _ dX13_deleteSelected_12 rfl hw

def X13_deleteSelected_f (E : gE) (l0 : Nat) (σ : gS) : Option (Int32 × gS) := X13_deleteSelected E l0 σ
set_option maxRecDepth 100000 in
theorem X13_deleteSelected_M (l : Launch) (E : gE) (D : va_G) (A : Nat → Prop) {l0 : Nat} {σ : gS} {res : (Int32 × gS)} (hf : X13_deleteSelected_f E l0 σ = some res) : gCI l E D A yX13_deleteSelected cX13_deleteSelected 1 6 145 (some FieldType.int) [.ref l0] σ res := by
  refine gg_entI (own := RX13) (nm := "deleteSelected") (ty := FieldType.int) (by decide +kernel) rfl rfl (Nat.le_of_ble_eq_true rfl) rfl ?_
  intro p e R s m args below meth c Q ls hC hw hQ hl
  have hl : lv_has ls 1 [(0, .ref l0)] := hl
  exact X13_deleteSelected_W hC hQ hf hw hl

def X13_write (E : gE) (l0 : Nat) (l1 : Int32) (σ : gS) : Option gS :=
  ob (gfR σ l0 11 14) fun x1 =>
  ob (gfI σ l0 11 15) fun x3 =>
  ob (gwaI E σ x1 x3 l1) fun σ5 =>
  ob (gfI σ5 l0 11 15) fun x7 =>
  ob (gpf E σ5 l0 11 15 (.int (x7 + (1 : Int32)))) fun σ9 =>
  some σ9
set_option maxHeartbeats 4000000 in
set_option maxRecDepth 100000 in
theorem X13_write_W {σ : gS} {l0 : Nat} {l1 : Int32} {σz : gS} {ls : Array Slot} (hC : gC E D A p R s m args meth c cX13_write 2 RX13 "write" 0 0) (hQ : gQV E D A p l e R s m args below meth c Q cX13_write σz) (hf : X13_write E l0 l1 σ = some σz) (hw : gW E D A s σ H locs) (hl : lv_has ls 2 [(0, .ref l0), (1, .int l1)]) : W p l e R s m args below meth c H locs cells slots Q (F0 m 0 ls []) := by
  have hC0 := hC
  obtain ⟨hx, hb, hml, hown, hts, -⟩ := hC0
  unfold X13_write at hf
  refine lv_aload_n hx hb dX13_write_0 rfl (lv_at hl 0 rfl) ?_
  obtain ⟨x1, h2, hf⟩ := ob_some hf
  refine rR_fl_X13_38 hC hw h2 dX13_write_1 ?_
  refine lv_aload_n hx hb dX13_write_4 rfl (lv_at hl 0 rfl) ?_
  obtain ⟨x3, h4, hf⟩ := ob_some hf
  refine rI_fl_X13_281 hC hw h4 dX13_write_5 ?_
  refine lv_iload_n hx hb dX13_write_8 rfl (lv_at hl 1 rfl) ?_
  obtain ⟨σ5, h6, hf⟩ := ob_some hf
  refine gg_astI hC hw h6 dX13_write_9 (fun H locs hw => ?_)
  refine lv_aload_n hx hb dX13_write_10 rfl (lv_at hl 0 rfl) ?_
  refine lv_dup hx hb dX13_write_11 rfl ?_
  obtain ⟨x7, h8, hf⟩ := ob_some hf
  refine rI_fl_X13_281 hC hw h8 dX13_write_12 ?_
  refine lv_iconst (v := 1) hx hb dX13_write_15 (by decide) ?_
  refine lv_iadd hx hb dX13_write_16 ?_
  obtain ⟨σ9, h10, hf⟩ := ob_some hf
  refine p_fl_X13_281 hC hw h10 rfl rfl dX13_write_17 (fun H locs hw => ?_)
  cases hf
  exact hQ _ _ _ _ _ _ dX13_write_20 hw

def X13_write_f (E : gE) (l0 : Nat) (l1 : Int32) (σ : gS) : Option gS := X13_write E l0 l1 σ
set_option maxRecDepth 100000 in
theorem X13_write_M (l : Launch) (E : gE) (D : va_G) (A : Nat → Prop) {l0 : Nat} {l1 : Int32} {σ : gS} {σz : gS} (hf : X13_write_f E l0 l1 σ = some σz) : gCV l E D A yX13_write cX13_write 2 0 0 none [.ref l0, .int l1] σ σz := by
  refine gg_entV (own := RX13) (nm := "write") (by decide +kernel) rfl rfl (Nat.le_of_ble_eq_true rfl) rfl ?_
  intro p e R s m args below meth c Q ls hC hw hQ hl
  have hl : lv_has ls 2 [(0, .ref l0), (1, .int l1)] := hl
  exact X13_write_W hC hQ hf hw hl

def X13_writeNumber_42_s (E : gE) (r_42 : Nat → Int32 → Int32 → gS → Option gS) (l0 : Nat) (l2 : Int32) (l4 : Int32) (σ : gS) : Option gS :=
  if l4 ≤ 0 then
    some σ
  else
    ob (gnz l4) fun _ =>
    ob (gcl σ l0 11) fun _ =>
    ob (X13_write_f E l0 ((48 : Int32) + ((l2 / l4) - (l2 / l4) / (10 : Int32) * (10 : Int32))) σ) fun x2 =>
    r_42 l0 l2 (l4 / (10 : Int32)) x2
set_option maxHeartbeats 4000000 in
set_option maxRecDepth 100000 in
theorem X13_writeNumber_42_s_W {σ : gS} {l0 : Nat} {l2 : Int32} {l4 : Int32} {σz : gS} {ls : Array Slot} (hC : gC E D A p R s m args meth c cX13_writeNumber 5 RX13 "writeNumber" 1 21) (hQ : gQV E D A p l e R s m args below meth c Q cX13_writeNumber σz) {r_42 : Nat → Int32 → Int32 → gS → Option gS} (h_42 : ∀ {l0 : Nat} {l2 : Int32} {l4 : Int32} {σ : gS} {H : Heap} {locs : List Loc} {cells slots : Nat} {ls : Array Slot}, r_42 l0 l2 l4 σ = some σz → gW E D A s σ H locs → lv_has ls 5 [(0, .ref l0), (2, .int l2), (4, .int l4)] → W p l e R s m args below meth c H locs cells slots Q (F0 m 42 ls [])) (hf : X13_writeNumber_42_s E r_42 l0 l2 l4 σ = some σz) (hw : gW E D A s σ H locs) (hl : lv_has ls 5 [(0, .ref l0), (2, .int l2), (4, .int l4)]) : W p l e R s m args below meth c H locs cells slots Q (F0 m 42 ls []) := by
  have hC0 := hC
  obtain ⟨hx, hb, hml, hown, hts, -⟩ := hC0
  unfold X13_writeNumber_42_s at hf
  refine lv_iload hx hb dX13_writeNumber_42 (lv_at hl 2 rfl) ?_
  refine lv_if_le (tgt := 71) hx hb dX13_writeNumber_44 (by decide) (fun c5 => ?_) (fun c5 => ?_)
  · replace hf := (if_pos c5).symm.trans hf
    cases hf
    exact hQ _ _ _ _ _ _ dX13_writeNumber_71 hw
  · replace hf := (if_neg c5).symm.trans hf
    refine lv_aload_n hx hb dX13_writeNumber_47 rfl (lv_at hl 0 rfl) ?_
    refine lv_bipush (v := 48) hx hb dX13_writeNumber_48 (by decide) ?_
    refine lv_iload_n hx hb dX13_writeNumber_50 rfl (lv_at hl 1 rfl) ?_
    refine lv_iload hx hb dX13_writeNumber_51 (lv_at hl 2 rfl) ?_
    obtain ⟨_, h1, hf⟩ := ob_some hf
    refine lv_idiv hx hb dX13_writeNumber_53 (gnz_some h1) ?_
    refine lv_bipush (v := 10) hx hb dX13_writeNumber_54 (by decide) ?_
    refine lv_irem hx hb dX13_writeNumber_56 (by decide) ?_
    refine lv_iadd hx hb dX13_writeNumber_57 ?_
    obtain ⟨_, h4, hf⟩ := ob_some hf
    obtain ⟨x2, h3, hf⟩ := ob_some hf
    refine gg_cVV (As := [.int ((48 : Int32) + ((l2 / l4) - (l2 / l4) / (10 : Int32) * (10 : Int32)))]) hC hw (X13_write_M l E D A h3) h4 rfl g_ml_X13_284 hd_X13_write (Nat.le_of_ble_eq_true rfl) (Nat.le_of_ble_eq_true rfl) hl.1 rfl (Nat.le_of_ble_eq_true rfl) dX13_writeNumber_58 (fun H locs cells slots hw => ?_)
    refine lv_iload hx hb dX13_writeNumber_61 (lv_at hl 2 rfl) ?_
    refine lv_bipush (v := 10) hx hb dX13_writeNumber_63 (by decide) ?_
    refine lv_idiv hx hb dX13_writeNumber_65 (by decide) ?_
    refine lv_istore (lv' := [(4, .int (l4 / (10 : Int32))), (0, .ref l0), (2, .int l2)]) hx hb dX13_writeNumber_66 hl (by decide) rfl (fun ls hl => ?_)
    refine lv_goto (tgt := 42) hx hb dX13_writeNumber_68 (by decide) ?_
    exact h_42 hf hw (lv_sub hl [1, 2, 0] rfl)
def X13_writeNumber_42 (E : gE) : Nat → Nat → Int32 → Int32 → gS → Option gS
  | 0 => fun _ _ _ _ => none
  | n + 1 => X13_writeNumber_42_s E (X13_writeNumber_42 E n)
theorem X13_writeNumber_42_W {σz : gS} (hC : gC E D A p R s m args meth c cX13_writeNumber 5 RX13 "writeNumber" 1 21) (hQ : gQV E D A p l e R s m args below meth c Q cX13_writeNumber σz) : ∀ (n : Nat), ∀ {l0 : Nat} {l2 : Int32} {l4 : Int32} {σ : gS} {H : Heap} {locs : List Loc} {cells slots : Nat} {ls : Array Slot}, X13_writeNumber_42 E n l0 l2 l4 σ = some σz → gW E D A s σ H locs → lv_has ls 5 [(0, .ref l0), (2, .int l2), (4, .int l4)] → W p l e R s m args below meth c H locs cells slots Q (F0 m 42 ls []) := by
  intro n
  induction n with
  | zero =>
    intros
    rename_i hf _ _
    exact absurd hf (fun h => by cases (show (none : Option gS) = some σz from h))
  | succ n ih =>
    intros
    rename_i hf hw hl
    exact X13_writeNumber_42_s_W hC hQ ih hf hw hl

def X13_writeNumber_23_s (E : gE) (r_23 : Nat → Int32 → Int32 → gS → Option gS) (l0 : Nat) (l2 : Int32) (l3 : Int32) (σ : gS) : Option gS :=
  ob (gnz l3) fun _ =>
  if (l2 / l3) ≤ (9 : Int32) then
    X13_writeNumber_42 E (gN E) l0 l2 l3 σ
  else
    r_23 l0 l2 (l3 * (10 : Int32)) σ
set_option maxHeartbeats 4000000 in
set_option maxRecDepth 100000 in
theorem X13_writeNumber_23_s_W {σ : gS} {l0 : Nat} {l2 : Int32} {l3 : Int32} {σz : gS} {ls : Array Slot} (hC : gC E D A p R s m args meth c cX13_writeNumber 5 RX13 "writeNumber" 1 21) (hQ : gQV E D A p l e R s m args below meth c Q cX13_writeNumber σz) {r_23 : Nat → Int32 → Int32 → gS → Option gS} (h_23 : ∀ {l0 : Nat} {l2 : Int32} {l3 : Int32} {σ : gS} {H : Heap} {locs : List Loc} {cells slots : Nat} {ls : Array Slot}, r_23 l0 l2 l3 σ = some σz → gW E D A s σ H locs → lv_has ls 5 [(0, .ref l0), (2, .int l2), (3, .int l3)] → W p l e R s m args below meth c H locs cells slots Q (F0 m 23 ls [])) (hf : X13_writeNumber_23_s E r_23 l0 l2 l3 σ = some σz) (hw : gW E D A s σ H locs) (hl : lv_has ls 5 [(0, .ref l0), (2, .int l2), (3, .int l3)]) : W p l e R s m args below meth c H locs cells slots Q (F0 m 23 ls []) := by
  have hC0 := hC
  obtain ⟨hx, hb, hml, hown, hts, -⟩ := hC0
  unfold X13_writeNumber_23_s at hf
  refine lv_iload_n hx hb dX13_writeNumber_23 rfl (lv_at hl 1 rfl) ?_
  refine lv_iload_n hx hb dX13_writeNumber_24 rfl (lv_at hl 2 rfl) ?_
  obtain ⟨_, h6, hf⟩ := ob_some hf
  refine lv_idiv hx hb dX13_writeNumber_25 (gnz_some h6) ?_
  refine lv_bipush (v := 9) hx hb dX13_writeNumber_26 (by decide) ?_
  refine lv_icmp_le (tgt := 39) hx hb dX13_writeNumber_28 (by decide) (fun c7 => ?_) (fun c7 => ?_)
  · replace hf := (if_pos c7).symm.trans hf
    refine lv_iload_n hx hb dX13_writeNumber_39 rfl (lv_at hl 2 rfl) ?_
    refine lv_istore (lv' := [(4, .int l3), (0, .ref l0), (2, .int l2), (3, .int l3)]) hx hb dX13_writeNumber_40 hl (by decide) rfl (fun ls hl => ?_)
    exact X13_writeNumber_42_W hC hQ (gN E) hf hw (lv_sub hl [1, 2, 0] rfl)
  · replace hf := (if_neg c7).symm.trans hf
    refine lv_iload_n hx hb dX13_writeNumber_31 rfl (lv_at hl 2 rfl) ?_
    refine lv_bipush (v := 10) hx hb dX13_writeNumber_32 (by decide) ?_
    refine lv_imul hx hb dX13_writeNumber_34 ?_
    refine lv_istore_n (lv' := [(3, .int (l3 * (10 : Int32))), (0, .ref l0), (2, .int l2)]) hx hb dX13_writeNumber_35 rfl hl (by decide) rfl (fun ls hl => ?_)
    refine lv_goto (tgt := 23) hx hb dX13_writeNumber_36 (by decide) ?_
    exact h_23 hf hw (lv_sub hl [1, 2, 0] rfl)
def X13_writeNumber_23 (E : gE) : Nat → Nat → Int32 → Int32 → gS → Option gS
  | 0 => fun _ _ _ _ => none
  | n + 1 => X13_writeNumber_23_s E (X13_writeNumber_23 E n)
theorem X13_writeNumber_23_W {σz : gS} (hC : gC E D A p R s m args meth c cX13_writeNumber 5 RX13 "writeNumber" 1 21) (hQ : gQV E D A p l e R s m args below meth c Q cX13_writeNumber σz) : ∀ (n : Nat), ∀ {l0 : Nat} {l2 : Int32} {l3 : Int32} {σ : gS} {H : Heap} {locs : List Loc} {cells slots : Nat} {ls : Array Slot}, X13_writeNumber_23 E n l0 l2 l3 σ = some σz → gW E D A s σ H locs → lv_has ls 5 [(0, .ref l0), (2, .int l2), (3, .int l3)] → W p l e R s m args below meth c H locs cells slots Q (F0 m 23 ls []) := by
  intro n
  induction n with
  | zero =>
    intros
    rename_i hf _ _
    exact absurd hf (fun h => by cases (show (none : Option gS) = some σz from h))
  | succ n ih =>
    intros
    rename_i hf hw hl
    exact X13_writeNumber_23_s_W hC hQ ih hf hw hl

def X13_writeNumber_20 (E : gE) (l0 : Nat) (s0 : Int32) (σ : gS) : Option gS :=
  X13_writeNumber_23 E (gN E) l0 s0 (1 : Int32) σ
set_option maxHeartbeats 4000000 in
set_option maxRecDepth 100000 in
theorem X13_writeNumber_20_W {σ : gS} {l0 : Nat} {s0 : Int32} {σz : gS} {ls : Array Slot} (hC : gC E D A p R s m args meth c cX13_writeNumber 5 RX13 "writeNumber" 1 21) (hQ : gQV E D A p l e R s m args below meth c Q cX13_writeNumber σz) (hf : X13_writeNumber_20 E l0 s0 σ = some σz) (hw : gW E D A s σ H locs) (hl : lv_has ls 5 [(0, .ref l0)]) : W p l e R s m args below meth c H locs cells slots Q (F0 m 20 ls [.int s0]) := by
  have hC0 := hC
  obtain ⟨hx, hb, hml, hown, hts, -⟩ := hC0
  unfold X13_writeNumber_20 at hf
  refine lv_istore_n (lv' := [(2, .int s0), (0, .ref l0)]) hx hb dX13_writeNumber_20 rfl hl (by decide) rfl (fun ls hl => ?_)
  refine lv_iconst (v := 1) hx hb dX13_writeNumber_21 (by decide) ?_
  refine lv_istore_n (lv' := [(3, .int (1 : Int32)), (2, .int s0), (0, .ref l0)]) hx hb dX13_writeNumber_22 rfl hl (by decide) rfl (fun ls hl => ?_)
  exact X13_writeNumber_23_W hC hQ (gN E) hf hw (lv_sub hl [2, 1, 0] rfl)

def X13_writeNumber_10 (E : gE) (l0 : Nat) (l1 : Int32) (σ : gS) : Option gS :=
  if 0 ≤ l1 then
    X13_writeNumber_20 E l0 l1 σ
  else
    X13_writeNumber_20 E l0 (-l1) σ
set_option maxHeartbeats 4000000 in
set_option maxRecDepth 100000 in
theorem X13_writeNumber_10_W {σ : gS} {l0 : Nat} {l1 : Int32} {σz : gS} {ls : Array Slot} (hC : gC E D A p R s m args meth c cX13_writeNumber 5 RX13 "writeNumber" 1 21) (hQ : gQV E D A p l e R s m args below meth c Q cX13_writeNumber σz) (hf : X13_writeNumber_10 E l0 l1 σ = some σz) (hw : gW E D A s σ H locs) (hl : lv_has ls 5 [(0, .ref l0), (1, .int l1)]) : W p l e R s m args below meth c H locs cells slots Q (F0 m 10 ls []) := by
  have hC0 := hC
  obtain ⟨hx, hb, hml, hown, hts, -⟩ := hC0
  unfold X13_writeNumber_10 at hf
  refine lv_iload_n hx hb dX13_writeNumber_10 rfl (lv_at hl 1 rfl) ?_
  refine lv_if_ge (tgt := 19) hx hb dX13_writeNumber_11 (by decide) (fun c8 => ?_) (fun c8 => ?_)
  · replace hf := (if_pos c8).symm.trans hf
    refine lv_iload_n hx hb dX13_writeNumber_19 rfl (lv_at hl 1 rfl) ?_
    exact X13_writeNumber_20_W hC hQ hf hw (lv_sub hl [0] rfl)
  · replace hf := (if_neg c8).symm.trans hf
    refine lv_iload_n hx hb dX13_writeNumber_14 rfl (lv_at hl 1 rfl) ?_
    refine lv_ineg hx hb dX13_writeNumber_15 ?_
    refine lv_goto (tgt := 20) hx hb dX13_writeNumber_16 (by decide) ?_
    exact X13_writeNumber_20_W hC hQ hf hw (lv_sub hl [0] rfl)

def X13_writeNumber (E : gE) (l0 : Nat) (l1 : Int32) (σ : gS) : Option gS :=
  if 0 ≤ l1 then
    X13_writeNumber_10 E l0 l1 σ
  else
    ob (gcl σ l0 11) fun _ =>
    ob (X13_write_f E l0 (45 : Int32) σ) fun x9 =>
    X13_writeNumber_10 E l0 l1 x9
set_option maxHeartbeats 4000000 in
set_option maxRecDepth 100000 in
theorem X13_writeNumber_W {σ : gS} {l0 : Nat} {l1 : Int32} {σz : gS} {ls : Array Slot} (hC : gC E D A p R s m args meth c cX13_writeNumber 5 RX13 "writeNumber" 1 21) (hQ : gQV E D A p l e R s m args below meth c Q cX13_writeNumber σz) (hf : X13_writeNumber E l0 l1 σ = some σz) (hw : gW E D A s σ H locs) (hl : lv_has ls 5 [(0, .ref l0), (1, .int l1)]) : W p l e R s m args below meth c H locs cells slots Q (F0 m 0 ls []) := by
  have hC0 := hC
  obtain ⟨hx, hb, hml, hown, hts, -⟩ := hC0
  unfold X13_writeNumber at hf
  refine lv_iload_n hx hb dX13_writeNumber_0 rfl (lv_at hl 1 rfl) ?_
  refine lv_if_ge (tgt := 10) hx hb dX13_writeNumber_1 (by decide) (fun c12 => ?_) (fun c12 => ?_)
  · replace hf := (if_pos c12).symm.trans hf
    exact X13_writeNumber_10_W hC hQ hf hw (lv_sub hl [0, 1] rfl)
  · replace hf := (if_neg c12).symm.trans hf
    refine lv_aload_n hx hb dX13_writeNumber_4 rfl (lv_at hl 0 rfl) ?_
    refine lv_bipush (v := 45) hx hb dX13_writeNumber_5 (by decide) ?_
    obtain ⟨_, h11, hf⟩ := ob_some hf
    obtain ⟨x9, h10, hf⟩ := ob_some hf
    refine gg_cVV (As := [.int (45 : Int32)]) hC hw (X13_write_M l E D A h10) h11 rfl g_ml_X13_284 hd_X13_write (Nat.le_of_ble_eq_true rfl) (Nat.le_of_ble_eq_true rfl) hl.1 rfl (Nat.le_of_ble_eq_true rfl) dX13_writeNumber_7 (fun H locs cells slots hw => ?_)
    exact X13_writeNumber_10_W hC hQ hf hw (lv_sub hl [0, 1] rfl)

def X13_writeNumber_f (E : gE) (l0 : Nat) (l1 : Int32) (σ : gS) : Option gS := X13_writeNumber E l0 l1 σ
set_option maxRecDepth 100000 in
theorem X13_writeNumber_M (l : Launch) (E : gE) (D : va_G) (A : Nat → Prop) {l0 : Nat} {l1 : Int32} {σ : gS} {σz : gS} (hf : X13_writeNumber_f E l0 l1 σ = some σz) : gCV l E D A yX13_writeNumber cX13_writeNumber 5 1 21 none [.ref l0, .int l1] σ σz := by
  refine gg_entV (own := RX13) (nm := "writeNumber") (by decide +kernel) rfl rfl (Nat.le_of_ble_eq_true rfl) rfl ?_
  intro p e R s m args below meth c Q ls hC hw hQ hl
  have hl : lv_has ls 5 [(0, .ref l0), (1, .int l1)] := hl
  exact X13_writeNumber_W hC hQ hf hw hl

def X13_writeRow_41 (E : gE) (r_21 : Nat → Int32 → Int32 → gS → Option (Int32 × gS)) (l0 : Nat) (l1 : Int32) (l2 : Int32) (σ : gS) : Option (Int32 × gS) :=
  ob (gcl σ l0 11) fun _ =>
  ob (X13_at_f E σ l0 l2 l1) fun x1 =>
  ob (gcl σ l0 11) fun _ =>
  ob (X13_writeNumber_f E l0 x1 σ) fun x4 =>
  r_21 l0 l1 (l2 + 1) x4
set_option maxHeartbeats 4000000 in
set_option maxRecDepth 100000 in
theorem X13_writeRow_41_W {σ : gS} {l0 : Nat} {l1 : Int32} {l2 : Int32} {res : (Int32 × gS)} {ls : Array Slot} (hC : gC E D A p R s m args meth c cX13_writeRow 3 RX13 "writeRow" 5 111) (hQ : gQI E D A p l e R s m args below meth c Q cX13_writeRow FieldType.int res) {r_21 : Nat → Int32 → Int32 → gS → Option (Int32 × gS)} (h_21 : ∀ {l0 : Nat} {l1 : Int32} {l2 : Int32} {σ : gS} {H : Heap} {locs : List Loc} {cells slots : Nat} {ls : Array Slot}, r_21 l0 l1 l2 σ = some res → gW E D A s σ H locs → lv_has ls 3 [(0, .ref l0), (1, .int l1), (2, .int l2)] → W p l e R s m args below meth c H locs cells slots Q (F0 m 21 ls [])) (hf : X13_writeRow_41 E r_21 l0 l1 l2 σ = some res) (hw : gW E D A s σ H locs) (hl : lv_has ls 3 [(0, .ref l0), (1, .int l1), (2, .int l2)]) : W p l e R s m args below meth c H locs cells slots Q (F0 m 41 ls []) := by
  have hC0 := hC
  obtain ⟨hx, hb, hml, hown, hts, -⟩ := hC0
  unfold X13_writeRow_41 at hf
  refine lv_aload_n hx hb dX13_writeRow_41 rfl (lv_at hl 0 rfl) ?_
  refine lv_aload_n hx hb dX13_writeRow_42 rfl (lv_at hl 0 rfl) ?_
  refine lv_iload_n hx hb dX13_writeRow_43 rfl (lv_at hl 2 rfl) ?_
  refine lv_iload_n hx hb dX13_writeRow_44 rfl (lv_at hl 1 rfl) ?_
  obtain ⟨_, h3, hf⟩ := ob_some hf
  obtain ⟨x1, h2, hf⟩ := ob_some hf
  refine gg_cVI (As := [.int l2, .int l1]) hC hw (X13_at_M l E D A h2) h3 rfl g_ml_X13_118 hd_X13_at (Nat.le_of_ble_eq_true rfl) (Nat.le_of_ble_eq_true rfl) hl.1 rfl (Nat.le_of_ble_eq_true rfl) dX13_writeRow_45 (fun H locs cells slots hw => ?_)
  obtain ⟨_, h6, hf⟩ := ob_some hf
  obtain ⟨x4, h5, hf⟩ := ob_some hf
  refine gg_cVV (As := [.int x1]) hC hw (X13_writeNumber_M l E D A h5) h6 rfl g_ml_X13_287 hd_X13_writeNumber (Nat.le_of_ble_eq_true rfl) (Nat.le_of_ble_eq_true rfl) hl.1 rfl (Nat.le_of_ble_eq_true rfl) dX13_writeRow_48 (fun H locs cells slots hw => ?_)
  refine lv_iinc (v := (l2 + 1)) (lv' := [(2, .int (l2 + 1)), (0, .ref l0), (1, .int l1)]) hx hb dX13_writeRow_51 hl (k := 2) rfl rfl (by decide) rfl (fun ls hl => ?_)
  refine lv_goto (tgt := 21) hx hb dX13_writeRow_54 (by decide) ?_
  exact h_21 hf hw (lv_sub hl [1, 2, 0] rfl)

def X13_writeRow_71 (E : gE) (l0 : Nat) (σ : gS) : Option (Int32 × gS) :=
  ob (gfI σ l0 11 15) fun x7 =>
  some (x7, σ)
set_option maxHeartbeats 4000000 in
set_option maxRecDepth 100000 in
theorem X13_writeRow_71_W {σ : gS} {l0 : Nat} {res : (Int32 × gS)} {ls : Array Slot} (hC : gC E D A p R s m args meth c cX13_writeRow 3 RX13 "writeRow" 5 111) (hQ : gQI E D A p l e R s m args below meth c Q cX13_writeRow FieldType.int res) (hf : X13_writeRow_71 E l0 σ = some res) (hw : gW E D A s σ H locs) (hl : lv_has ls 3 [(0, .ref l0)]) : W p l e R s m args below meth c H locs cells slots Q (F0 m 71 ls []) := by
  have hC0 := hC
  obtain ⟨hx, hb, hml, hown, hts, -⟩ := hC0
  unfold X13_writeRow_71 at hf
  refine lv_aload_n hx hb dX13_writeRow_71 rfl (lv_at hl 0 rfl) ?_
  obtain ⟨x7, h8, hf⟩ := ob_some hf
  refine rI_fl_X13_281 hC hw h8 dX13_writeRow_72 ?_
  cases hf
  exact hQ _ _ _ _ _ _ dX13_writeRow_75 rfl hw

def X13_writeRow_21_s (E : gE) (r_21 : Nat → Int32 → Int32 → gS → Option (Int32 × gS)) (l0 : Nat) (l1 : Int32) (l2 : Int32) (σ : gS) : Option (Int32 × gS) :=
  ob (gfR σ l0 11 8) fun x9 =>
  ob (graI E 0 σ x9 (0 : Int32)) fun x11 =>
  if x11 ≤ l2 then
    ob (gcl σ l0 11) fun _ =>
    ob (X13_selects_f E σ l0 l1) fun x13 =>
    if x13 = 0 then
      X13_writeRow_71 E l0 σ
    else
      ob (gcl σ l0 11) fun _ =>
      ob (X13_write_f E l0 (42 : Int32) σ) fun x16 =>
      X13_writeRow_71 E l0 x16
  else
    if l2 ≤ 0 then
      X13_writeRow_41 E r_21 l0 l1 l2 σ
    else
      ob (gcl σ l0 11) fun _ =>
      ob (X13_write_f E l0 (32 : Int32) σ) fun x20 =>
      X13_writeRow_41 E r_21 l0 l1 l2 x20
set_option maxHeartbeats 4000000 in
set_option maxRecDepth 100000 in
theorem X13_writeRow_21_s_W {σ : gS} {l0 : Nat} {l1 : Int32} {l2 : Int32} {res : (Int32 × gS)} {ls : Array Slot} (hC : gC E D A p R s m args meth c cX13_writeRow 3 RX13 "writeRow" 5 111) (hQ : gQI E D A p l e R s m args below meth c Q cX13_writeRow FieldType.int res) {r_21 : Nat → Int32 → Int32 → gS → Option (Int32 × gS)} (h_21 : ∀ {l0 : Nat} {l1 : Int32} {l2 : Int32} {σ : gS} {H : Heap} {locs : List Loc} {cells slots : Nat} {ls : Array Slot}, r_21 l0 l1 l2 σ = some res → gW E D A s σ H locs → lv_has ls 3 [(0, .ref l0), (1, .int l1), (2, .int l2)] → W p l e R s m args below meth c H locs cells slots Q (F0 m 21 ls [])) (hf : X13_writeRow_21_s E r_21 l0 l1 l2 σ = some res) (hw : gW E D A s σ H locs) (hl : lv_has ls 3 [(0, .ref l0), (1, .int l1), (2, .int l2)]) : W p l e R s m args below meth c H locs cells slots Q (F0 m 21 ls []) := by
  have hC0 := hC
  obtain ⟨hx, hb, hml, hown, hts, -⟩ := hC0
  unfold X13_writeRow_21_s at hf
  refine lv_iload_n hx hb dX13_writeRow_21 rfl (lv_at hl 2 rfl) ?_
  refine lv_aload_n hx hb dX13_writeRow_22 rfl (lv_at hl 0 rfl) ?_
  obtain ⟨x9, h10, hf⟩ := ob_some hf
  refine rR_fl_X13_35 hC hw h10 dX13_writeRow_23 ?_
  refine lv_iconst (v := 0) hx hb dX13_writeRow_26 (by decide) ?_
  obtain ⟨x11, h12, hf⟩ := ob_some hf
  refine gg_aldI hC hw h12 dX13_writeRow_27 ?_
  refine lv_icmp_ge (tgt := 57) hx hb dX13_writeRow_28 (by decide) (fun c24 => ?_) (fun c24 => ?_)
  · replace hf := (if_pos c24).symm.trans hf
    refine lv_aload_n hx hb dX13_writeRow_57 rfl (lv_at hl 0 rfl) ?_
    refine lv_iload_n hx hb dX13_writeRow_58 rfl (lv_at hl 1 rfl) ?_
    obtain ⟨_, h15, hf⟩ := ob_some hf
    obtain ⟨x13, h14, hf⟩ := ob_some hf
    refine gg_cVI (As := [.int l1]) hC hw (X13_selects_M l E D A h14) h15 rfl g_ml_X13_183 hd_X13_selects (Nat.le_of_ble_eq_true rfl) (Nat.le_of_ble_eq_true rfl) hl.1 rfl (Nat.le_of_ble_eq_true rfl) dX13_writeRow_59 (fun H locs cells slots hw => ?_)
    refine lv_if_eq (tgt := 71) hx hb dX13_writeRow_62 (by decide) (fun c19 => ?_) (fun c19 => ?_)
    · replace hf := (if_pos c19).symm.trans hf
      exact X13_writeRow_71_W hC hQ hf hw (lv_sub hl [0] rfl)
    · replace hf := (if_neg c19).symm.trans hf
      refine lv_aload_n hx hb dX13_writeRow_65 rfl (lv_at hl 0 rfl) ?_
      refine lv_bipush (v := 42) hx hb dX13_writeRow_66 (by decide) ?_
      obtain ⟨_, h18, hf⟩ := ob_some hf
      obtain ⟨x16, h17, hf⟩ := ob_some hf
      refine gg_cVV (As := [.int (42 : Int32)]) hC hw (X13_write_M l E D A h17) h18 rfl g_ml_X13_284 hd_X13_write (Nat.le_of_ble_eq_true rfl) (Nat.le_of_ble_eq_true rfl) hl.1 rfl (Nat.le_of_ble_eq_true rfl) dX13_writeRow_68 (fun H locs cells slots hw => ?_)
      exact X13_writeRow_71_W hC hQ hf hw (lv_sub hl [0] rfl)
  · replace hf := (if_neg c24).symm.trans hf
    refine lv_iload_n hx hb dX13_writeRow_31 rfl (lv_at hl 2 rfl) ?_
    refine lv_if_le (tgt := 41) hx hb dX13_writeRow_32 (by decide) (fun c23 => ?_) (fun c23 => ?_)
    · replace hf := (if_pos c23).symm.trans hf
      exact X13_writeRow_41_W hC hQ h_21 hf hw (lv_sub hl [0, 1, 2] rfl)
    · replace hf := (if_neg c23).symm.trans hf
      refine lv_aload_n hx hb dX13_writeRow_35 rfl (lv_at hl 0 rfl) ?_
      refine lv_bipush (v := 32) hx hb dX13_writeRow_36 (by decide) ?_
      obtain ⟨_, h22, hf⟩ := ob_some hf
      obtain ⟨x20, h21, hf⟩ := ob_some hf
      refine gg_cVV (As := [.int (32 : Int32)]) hC hw (X13_write_M l E D A h21) h22 rfl g_ml_X13_284 hd_X13_write (Nat.le_of_ble_eq_true rfl) (Nat.le_of_ble_eq_true rfl) hl.1 rfl (Nat.le_of_ble_eq_true rfl) dX13_writeRow_38 (fun H locs cells slots hw => ?_)
      exact X13_writeRow_41_W hC hQ h_21 hf hw (lv_sub hl [0, 1, 2] rfl)
def X13_writeRow_21 (E : gE) : Nat → Nat → Int32 → Int32 → gS → Option (Int32 × gS)
  | 0 => fun _ _ _ _ => none
  | n + 1 => X13_writeRow_21_s E (X13_writeRow_21 E n)
theorem X13_writeRow_21_W {res : (Int32 × gS)} (hC : gC E D A p R s m args meth c cX13_writeRow 3 RX13 "writeRow" 5 111) (hQ : gQI E D A p l e R s m args below meth c Q cX13_writeRow FieldType.int res) : ∀ (n : Nat), ∀ {l0 : Nat} {l1 : Int32} {l2 : Int32} {σ : gS} {H : Heap} {locs : List Loc} {cells slots : Nat} {ls : Array Slot}, X13_writeRow_21 E n l0 l1 l2 σ = some res → gW E D A s σ H locs → lv_has ls 3 [(0, .ref l0), (1, .int l1), (2, .int l2)] → W p l e R s m args below meth c H locs cells slots Q (F0 m 21 ls []) := by
  intro n
  induction n with
  | zero =>
    intros
    rename_i hf _ _
    exact absurd hf (fun h => by cases (show (none : Option (Int32 × gS)) = some res from h))
  | succ n ih =>
    intros
    rename_i hf hw hl
    exact X13_writeRow_21_s_W hC hQ ih hf hw hl

def X13_writeRow (E : gE) (l0 : Nat) (l1 : Int32) (σ : gS) : Option (Int32 × gS) :=
  ob (gcl σ l0 11) fun _ =>
  ob (X13_isRow_f E σ l0 l1) fun x25 =>
  ob (gcl σ l0 11) fun _ =>
  ob (X13_lacks_f E l0 x25 σ) fun x28 =>
  if x28.1 = 0 then
    ob (gpf E x28.2 l0 11 15 (.int (0 : Int32))) fun σ31 =>
    X13_writeRow_21 E (gN E) l0 l1 (0 : Int32) σ31
  else
    some ((0 : Int32), x28.2)
set_option maxHeartbeats 4000000 in
set_option maxRecDepth 100000 in
theorem X13_writeRow_W {σ : gS} {l0 : Nat} {l1 : Int32} {res : (Int32 × gS)} {ls : Array Slot} (hC : gC E D A p R s m args meth c cX13_writeRow 3 RX13 "writeRow" 5 111) (hQ : gQI E D A p l e R s m args below meth c Q cX13_writeRow FieldType.int res) (hf : X13_writeRow E l0 l1 σ = some res) (hw : gW E D A s σ H locs) (hl : lv_has ls 3 [(0, .ref l0), (1, .int l1)]) : W p l e R s m args below meth c H locs cells slots Q (F0 m 0 ls []) := by
  have hC0 := hC
  obtain ⟨hx, hb, hml, hown, hts, -⟩ := hC0
  unfold X13_writeRow at hf
  refine lv_aload_n hx hb dX13_writeRow_0 rfl (lv_at hl 0 rfl) ?_
  refine lv_aload_n hx hb dX13_writeRow_1 rfl (lv_at hl 0 rfl) ?_
  refine lv_iload_n hx hb dX13_writeRow_2 rfl (lv_at hl 1 rfl) ?_
  obtain ⟨_, h27, hf⟩ := ob_some hf
  obtain ⟨x25, h26, hf⟩ := ob_some hf
  refine gg_cVI (As := [.int l1]) hC hw (X13_isRow_M l E D A h26) h27 rfl g_ml_X13_127 hd_X13_isRow (Nat.le_of_ble_eq_true rfl) (Nat.le_of_ble_eq_true rfl) hl.1 rfl (Nat.le_of_ble_eq_true rfl) dX13_writeRow_3 (fun H locs cells slots hw => ?_)
  obtain ⟨_, h30, hf⟩ := ob_some hf
  obtain ⟨x28, h29, hf⟩ := ob_some hf
  refine gg_cVI (As := [.int x25]) hC hw (X13_lacks_M l E D A h29) h30 rfl g_ml_X13_88 hd_X13_lacks (Nat.le_of_ble_eq_true rfl) (Nat.le_of_ble_eq_true rfl) hl.1 rfl (Nat.le_of_ble_eq_true rfl) dX13_writeRow_6 (fun H locs cells slots hw => ?_)
  refine lv_if_eq (tgt := 14) hx hb dX13_writeRow_9 (by decide) (fun c33 => ?_) (fun c33 => ?_)
  · replace hf := (if_pos c33).symm.trans hf
    refine lv_aload_n hx hb dX13_writeRow_14 rfl (lv_at hl 0 rfl) ?_
    refine lv_iconst (v := 0) hx hb dX13_writeRow_15 (by decide) ?_
    obtain ⟨σ31, h32, hf⟩ := ob_some hf
    refine p_fl_X13_281 hC hw h32 rfl rfl dX13_writeRow_16 (fun H locs hw => ?_)
    refine lv_iconst (v := 0) hx hb dX13_writeRow_19 (by decide) ?_
    refine lv_istore_n (lv' := [(2, .int (0 : Int32)), (0, .ref l0), (1, .int l1)]) hx hb dX13_writeRow_20 rfl hl (by decide) rfl (fun ls hl => ?_)
    exact X13_writeRow_21_W hC hQ (gN E) hf hw (lv_sub hl [1, 2, 0] rfl)
  · replace hf := (if_neg c33).symm.trans hf
    refine lv_iconst (v := 0) hx hb dX13_writeRow_12 (by decide) ?_
    cases hf
    exact hQ _ _ _ _ _ _ dX13_writeRow_13 rfl hw

def X13_writeRow_f (E : gE) (l0 : Nat) (l1 : Int32) (σ : gS) : Option (Int32 × gS) := X13_writeRow E l0 l1 σ
set_option maxRecDepth 100000 in
theorem X13_writeRow_M (l : Launch) (E : gE) (D : va_G) (A : Nat → Prop) {l0 : Nat} {l1 : Int32} {σ : gS} {res : (Int32 × gS)} (hf : X13_writeRow_f E l0 l1 σ = some res) : gCI l E D A yX13_writeRow cX13_writeRow 3 5 111 (some FieldType.int) [.ref l0, .int l1] σ res := by
  refine gg_entI (own := RX13) (nm := "writeRow") (ty := FieldType.int) (by decide +kernel) rfl rfl (Nat.le_of_ble_eq_true rfl) rfl ?_
  intro p e R s m args below meth c Q ls hC hw hQ hl
  have hl : lv_has ls 3 [(0, .ref l0), (1, .int l1)] := hl
  exact X13_writeRow_W hC hQ hf hw hl

def X13_outputByte (E : gE) (l0 : Nat) (l1 : Int32) (σ : gS) : Option (Int32 × gS) :=
  ob (gfI σ l0 11 15) fun x1 =>
  ob (X13_inRange_f E σ l1 (0 : Int32) (x1 - (1 : Int32))) fun x3 =>
  ob (gcl σ l0 11) fun _ =>
  ob (X13_lacks_f E l0 x3 σ) fun x5 =>
  if x5.1 = 0 then
    ob (gfR x5.2 l0 11 14) fun x8 =>
    ob (graI E 0 x5.2 x8 l1) fun x10 =>
    some (x10, x5.2)
  else
    some ((0 : Int32), x5.2)
set_option maxHeartbeats 4000000 in
set_option maxRecDepth 100000 in
theorem X13_outputByte_W {σ : gS} {l0 : Nat} {l1 : Int32} {res : (Int32 × gS)} {ls : Array Slot} (hC : gC E D A p R s m args meth c cX13_outputByte 2 RX13 "outputByte" 1 22) (hQ : gQI E D A p l e R s m args below meth c Q cX13_outputByte FieldType.int res) (hf : X13_outputByte E l0 l1 σ = some res) (hw : gW E D A s σ H locs) (hl : lv_has ls 2 [(0, .ref l0), (1, .int l1)]) : W p l e R s m args below meth c H locs cells slots Q (F0 m 0 ls []) := by
  have hC0 := hC
  obtain ⟨hx, hb, hml, hown, hts, -⟩ := hC0
  unfold X13_outputByte at hf
  refine lv_aload_n hx hb dX13_outputByte_0 rfl (lv_at hl 0 rfl) ?_
  refine lv_iload_n hx hb dX13_outputByte_1 rfl (lv_at hl 1 rfl) ?_
  refine lv_iconst (v := 0) hx hb dX13_outputByte_2 (by decide) ?_
  refine lv_aload_n hx hb dX13_outputByte_3 rfl (lv_at hl 0 rfl) ?_
  obtain ⟨x1, h2, hf⟩ := ob_some hf
  refine rI_fl_X13_281 hC hw h2 dX13_outputByte_4 ?_
  refine lv_iconst (v := 1) hx hb dX13_outputByte_7 (by decide) ?_
  refine lv_isub hx hb dX13_outputByte_8 ?_
  obtain ⟨x3, h4, hf⟩ := ob_some hf
  refine gg_cSI (As := [.int l1, .int (0 : Int32), .int (x1 - (1 : Int32))]) hC hw (X13_inRange_M l E D A h4) g_ml_X13_92 hd_X13_inRange.2 (Nat.le_of_ble_eq_true rfl) (Nat.le_of_ble_eq_true rfl) hl.1 rfl (Nat.le_of_ble_eq_true rfl) dX13_outputByte_9 (fun H locs cells slots hw => ?_)
  obtain ⟨_, h7, hf⟩ := ob_some hf
  obtain ⟨x5, h6, hf⟩ := ob_some hf
  refine gg_cVI (As := [.int x3]) hC hw (X13_lacks_M l E D A h6) h7 rfl g_ml_X13_88 hd_X13_lacks (Nat.le_of_ble_eq_true rfl) (Nat.le_of_ble_eq_true rfl) hl.1 rfl (Nat.le_of_ble_eq_true rfl) dX13_outputByte_12 (fun H locs cells slots hw => ?_)
  refine lv_if_eq (tgt := 22) hx hb dX13_outputByte_15 (by decide) (fun c12 => ?_) (fun c12 => ?_)
  · replace hf := (if_pos c12).symm.trans hf
    refine lv_aload_n hx hb dX13_outputByte_22 rfl (lv_at hl 0 rfl) ?_
    obtain ⟨x8, h9, hf⟩ := ob_some hf
    refine rR_fl_X13_38 hC hw h9 dX13_outputByte_23 ?_
    refine lv_iload_n hx hb dX13_outputByte_26 rfl (lv_at hl 1 rfl) ?_
    obtain ⟨x10, h11, hf⟩ := ob_some hf
    refine gg_aldI hC hw h11 dX13_outputByte_27 ?_
    cases hf
    exact hQ _ _ _ _ _ _ dX13_outputByte_28 rfl hw
  · replace hf := (if_neg c12).symm.trans hf
    refine lv_iconst (v := 0) hx hb dX13_outputByte_18 (by decide) ?_
    refine lv_goto (tgt := 28) hx hb dX13_outputByte_19 (by decide) ?_
    cases hf
    exact hQ _ _ _ _ _ _ dX13_outputByte_28 rfl hw

def X13_outputByte_f (E : gE) (l0 : Nat) (l1 : Int32) (σ : gS) : Option (Int32 × gS) := X13_outputByte E l0 l1 σ
set_option maxRecDepth 100000 in
theorem X13_outputByte_M (l : Launch) (E : gE) (D : va_G) (A : Nat → Prop) {l0 : Nat} {l1 : Int32} {σ : gS} {res : (Int32 × gS)} (hf : X13_outputByte_f E l0 l1 σ = some res) : gCI l E D A yX13_outputByte cX13_outputByte 2 1 22 (some FieldType.int) [.ref l0, .int l1] σ res := by
  refine gg_entI (own := RX13) (nm := "outputByte") (ty := FieldType.int) (by decide +kernel) rfl rfl (Nat.le_of_ble_eq_true rfl) rfl ?_
  intro p e R s m args below meth c Q ls hC hw hQ hl
  have hl : lv_has ls 2 [(0, .ref l0), (1, .int l1)] := hl
  exact X13_outputByte_W hC hQ hf hw hl

def X13_undoableCount (E : gE) (l0 : Nat) (σ : gS) : Option (Int32 × gS) :=
  ob (gpf E σ l0 11 10 (.int (0 : Int32))) fun σ1 =>
  ob (gfI σ1 l0 11 9) fun x3 =>
  some (x3, σ1)
set_option maxHeartbeats 4000000 in
set_option maxRecDepth 100000 in
theorem X13_undoableCount_W {σ : gS} {l0 : Nat} {res : (Int32 × gS)} {ls : Array Slot} (hC : gC E D A p R s m args meth c cX13_undoableCount 1 RX13 "undoableCount" 0 0) (hQ : gQI E D A p l e R s m args below meth c Q cX13_undoableCount FieldType.int res) (hf : X13_undoableCount E l0 σ = some res) (hw : gW E D A s σ H locs) (hl : lv_has ls 1 [(0, .ref l0)]) : W p l e R s m args below meth c H locs cells slots Q (F0 m 0 ls []) := by
  have hC0 := hC
  obtain ⟨hx, hb, hml, hown, hts, -⟩ := hC0
  unfold X13_undoableCount at hf
  refine lv_aload_n hx hb dX13_undoableCount_0 rfl (lv_at hl 0 rfl) ?_
  refine lv_iconst (v := 0) hx hb dX13_undoableCount_1 (by decide) ?_
  obtain ⟨σ1, h2, hf⟩ := ob_some hf
  refine p_fl_X13_85 hC hw h2 rfl rfl dX13_undoableCount_2 (fun H locs hw => ?_)
  refine lv_aload_n hx hb dX13_undoableCount_5 rfl (lv_at hl 0 rfl) ?_
  obtain ⟨x3, h4, hf⟩ := ob_some hf
  refine rI_fl_X13_247 hC hw h4 dX13_undoableCount_6 ?_
  cases hf
  exact hQ _ _ _ _ _ _ dX13_undoableCount_9 rfl hw

def X13_undoableCount_f (E : gE) (l0 : Nat) (σ : gS) : Option (Int32 × gS) := X13_undoableCount E l0 σ
set_option maxRecDepth 100000 in
theorem X13_undoableCount_M (l : Launch) (E : gE) (D : va_G) (A : Nat → Prop) {l0 : Nat} {σ : gS} {res : (Int32 × gS)} (hf : X13_undoableCount_f E l0 σ = some res) : gCI l E D A yX13_undoableCount cX13_undoableCount 1 0 0 (some FieldType.int) [.ref l0] σ res := by
  refine gg_entI (own := RX13) (nm := "undoableCount") (ty := FieldType.int) (by decide +kernel) rfl rfl (Nat.le_of_ble_eq_true rfl) rfl ?_
  intro p e R s m args below meth c Q ls hC hw hQ hl
  have hl : lv_has ls 1 [(0, .ref l0)] := hl
  exact X13_undoableCount_W hC hQ hf hw hl

def X13_undo_13 (E : gE) (l0 : Nat) (s0 : Int32) (s1 : Nat) (σ : gS) : Option (Int32 × gS) :=
  ob (gcl σ s1 11) fun _ =>
  ob (X13_lacks_f E s1 s0 σ) fun x1 =>
  if x1.1 = 0 then
    ob (gfI x1.2 l0 11 9) fun x4 =>
    ob (gpf E x1.2 l0 11 9 (.int (x4 - (1 : Int32)))) fun σ6 =>
    ob (gfR σ6 l0 11 4) fun x8 =>
    ob (gfI σ6 l0 11 9) fun x10 =>
    ob (gfR σ6 l0 11 0) fun x12 =>
    ob (X13_copy_f E x8 x10 x12 (0 : Int32) σ6) fun x14 =>
    ob (gfI x14 l0 11 9) fun x16 =>
    some (x16, x14)
  else
    some ((0 : Int32), x1.2)
set_option maxHeartbeats 4000000 in
set_option maxRecDepth 100000 in
theorem X13_undo_13_W {σ : gS} {l0 : Nat} {s0 : Int32} {s1 : Nat} {res : (Int32 × gS)} {ls : Array Slot} (hC : gC E D A p R s m args meth c cX13_undo 1 RX13 "undo" 4 103) (hQ : gQI E D A p l e R s m args below meth c Q cX13_undo FieldType.int res) (hf : X13_undo_13 E l0 s0 s1 σ = some res) (hw : gW E D A s σ H locs) (hl : lv_has ls 1 [(0, .ref l0)]) : W p l e R s m args below meth c H locs cells slots Q (F0 m 13 ls [.int s0, .ref s1]) := by
  have hC0 := hC
  obtain ⟨hx, hb, hml, hown, hts, -⟩ := hC0
  unfold X13_undo_13 at hf
  obtain ⟨_, h3, hf⟩ := ob_some hf
  obtain ⟨x1, h2, hf⟩ := ob_some hf
  refine gg_cVI (As := [.int s0]) hC hw (X13_lacks_M l E D A h2) h3 rfl g_ml_X13_88 hd_X13_lacks (Nat.le_of_ble_eq_true rfl) (Nat.le_of_ble_eq_true rfl) hl.1 rfl (Nat.le_of_ble_eq_true rfl) dX13_undo_13 (fun H locs cells slots hw => ?_)
  refine lv_if_eq (tgt := 21) hx hb dX13_undo_16 (by decide) (fun c18 => ?_) (fun c18 => ?_)
  · replace hf := (if_pos c18).symm.trans hf
    refine lv_aload_n hx hb dX13_undo_21 rfl (lv_at hl 0 rfl) ?_
    refine lv_dup hx hb dX13_undo_22 rfl ?_
    obtain ⟨x4, h5, hf⟩ := ob_some hf
    refine rI_fl_X13_247 hC hw h5 dX13_undo_23 ?_
    refine lv_iconst (v := 1) hx hb dX13_undo_26 (by decide) ?_
    refine lv_isub hx hb dX13_undo_27 ?_
    obtain ⟨σ6, h7, hf⟩ := ob_some hf
    refine p_fl_X13_247 hC hw h7 rfl rfl dX13_undo_28 (fun H locs hw => ?_)
    refine lv_aload_n hx hb dX13_undo_31 rfl (lv_at hl 0 rfl) ?_
    obtain ⟨x8, h9, hf⟩ := ob_some hf
    refine rR_fl_X13_23 hC hw h9 dX13_undo_32 ?_
    refine lv_aload_n hx hb dX13_undo_35 rfl (lv_at hl 0 rfl) ?_
    obtain ⟨x10, h11, hf⟩ := ob_some hf
    refine rI_fl_X13_247 hC hw h11 dX13_undo_36 ?_
    refine lv_aload_n hx hb dX13_undo_39 rfl (lv_at hl 0 rfl) ?_
    obtain ⟨x12, h13, hf⟩ := ob_some hf
    refine rR_fl_X13_9 hC hw h13 dX13_undo_40 ?_
    refine lv_iconst (v := 0) hx hb dX13_undo_43 (by decide) ?_
    obtain ⟨x14, h15, hf⟩ := ob_some hf
    refine gg_cSV (As := [.ref x8, .int x10, .ref x12, .int (0 : Int32)]) hC hw (X13_copy_M l E D A h15) g_ml_X13_243 hd_X13_copy.2 (Nat.le_of_ble_eq_true rfl) (Nat.le_of_ble_eq_true rfl) hl.1 rfl (Nat.le_of_ble_eq_true rfl) dX13_undo_44 (fun H locs cells slots hw => ?_)
    refine lv_aload_n hx hb dX13_undo_47 rfl (lv_at hl 0 rfl) ?_
    obtain ⟨x16, h17, hf⟩ := ob_some hf
    refine rI_fl_X13_247 hC hw h17 dX13_undo_48 ?_
    cases hf
    exact hQ _ _ _ _ _ _ dX13_undo_51 rfl hw
  · replace hf := (if_neg c18).symm.trans hf
    refine lv_iconst (v := 0) hx hb dX13_undo_19 (by decide) ?_
    cases hf
    exact hQ _ _ _ _ _ _ dX13_undo_20 rfl hw

def X13_undo (E : gE) (l0 : Nat) (σ : gS) : Option (Int32 × gS) :=
  ob (gfI σ l0 11 9) fun x19 =>
  if x19 ≤ 0 then
    X13_undo_13 E l0 (0 : Int32) l0 σ
  else
    X13_undo_13 E l0 (1 : Int32) l0 σ
set_option maxHeartbeats 4000000 in
set_option maxRecDepth 100000 in
theorem X13_undo_W {σ : gS} {l0 : Nat} {res : (Int32 × gS)} {ls : Array Slot} (hC : gC E D A p R s m args meth c cX13_undo 1 RX13 "undo" 4 103) (hQ : gQI E D A p l e R s m args below meth c Q cX13_undo FieldType.int res) (hf : X13_undo E l0 σ = some res) (hw : gW E D A s σ H locs) (hl : lv_has ls 1 [(0, .ref l0)]) : W p l e R s m args below meth c H locs cells slots Q (F0 m 0 ls []) := by
  have hC0 := hC
  obtain ⟨hx, hb, hml, hown, hts, -⟩ := hC0
  unfold X13_undo at hf
  refine lv_aload_n hx hb dX13_undo_0 rfl (lv_at hl 0 rfl) ?_
  refine lv_aload_n hx hb dX13_undo_1 rfl (lv_at hl 0 rfl) ?_
  obtain ⟨x19, h20, hf⟩ := ob_some hf
  refine rI_fl_X13_247 hC hw h20 dX13_undo_2 ?_
  refine lv_if_le (tgt := 12) hx hb dX13_undo_5 (by decide) (fun c21 => ?_) (fun c21 => ?_)
  · replace hf := (if_pos c21).symm.trans hf
    refine lv_iconst (v := 0) hx hb dX13_undo_12 (by decide) ?_
    exact X13_undo_13_W hC hQ hf hw (lv_sub hl [0] rfl)
  · replace hf := (if_neg c21).symm.trans hf
    refine lv_iconst (v := 1) hx hb dX13_undo_8 (by decide) ?_
    refine lv_goto (tgt := 13) hx hb dX13_undo_9 (by decide) ?_
    exact X13_undo_13_W hC hQ hf hw (lv_sub hl [0] rfl)

def X13_undo_f (E : gE) (l0 : Nat) (σ : gS) : Option (Int32 × gS) := X13_undo E l0 σ
set_option maxRecDepth 100000 in
theorem X13_undo_M (l : Launch) (E : gE) (D : va_G) (A : Nat → Prop) {l0 : Nat} {σ : gS} {res : (Int32 × gS)} (hf : X13_undo_f E l0 σ = some res) : gCI l E D A yX13_undo cX13_undo 1 4 103 (some FieldType.int) [.ref l0] σ res := by
  refine gg_entI (own := RX13) (nm := "undo") (ty := FieldType.int) (by decide +kernel) rfl rfl (Nat.le_of_ble_eq_true rfl) rfl ?_
  intro p e R s m args below meth c Q ls hC hw hQ hl
  have hl : lv_has ls 1 [(0, .ref l0)] := hl
  exact X13_undo_W hC hQ hf hw hl

end MM4
