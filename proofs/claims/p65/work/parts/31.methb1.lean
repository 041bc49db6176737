/-! decompiled: X6_init, X6_size, X6_append, X6_clear, X6_kindAt, X6_offset, X6_isAtEnd, X6_isNumber, X6_number, X6_isSemicolon, X6_isMinus, X9_init, X9_columns, X9_rows, X9_cells, X9_fail, X9_failAtExtraRow, X9_takeEnd, X6_next, X9_takeNumber, X9_takeSemicolon, X6_startText, X9_start, X9_takeInteger, X6_isWord, X9_takeRow, X9_takeWord, X9_readRow, X9_takeHead, X9_takeTableRow, X9_readTable -/
section MB1
variable {p : Program} {l : Launch} {e : Env} {R : Room} {s : State} {m : MethodId} {args : Array Value} {below : List Frame} {meth : Method} {c : Code} {H : Heap} {locs : List Loc} {cells slots : Nat} {Q : State → Prop} {E : gE} {D : va_G} {A : Nat → Prop}
def X6_init (E : gE) (l0 : Nat) (σ : gS) : Option gS :=
  ob (gnaB E σ (700 : Int32)) fun q1 =>
  ob (gpf E q1.2 l0 5 0 (.ref q1.1)) fun σ3 =>
  some σ3
set_option maxHeartbeats 4000000 in
set_option maxRecDepth 100000 in
theorem X6_init_W {σ : gS} {l0 : Nat} {σz : gS} {ls : Array Slot} (hC : gC E D A p R s m args meth c cX6_init 1 RX6 "<init>" 3 80) (hQ : gQV E D A p l e R s m args below meth c Q cX6_init σz) (hf : X6_init E l0 σ = some σz) (hw : gW E D A s σ H locs) (hl : lv_has ls 1 [(0, .ref l0)]) : W p l e R s m args below meth c H locs cells slots Q (F0 m 0 ls []) := by
  have hC0 := hC
  obtain ⟨hx, hb, hml, hown, hts, -⟩ := hC0
  unfold X6_init at hf
  refine lv_aload_n hx hb dX6_init_0 rfl (lv_at hl 0 rfl) ?_
  refine gg_obj hC rfl (hts _ ml_X6_3) hl.1 (Nat.le_of_ble_eq_true rfl) dX6_init_1 (Nat.le_of_ble_eq_true rfl) (Nat.le_of_ble_eq_true rfl) ?_
  refine lv_aload_n hx hb dX6_init_4 rfl (lv_at hl 0 rfl) ?_
  refine lv_sipush (v := 700) hx hb dX6_init_5 (by decide) ?_
  obtain ⟨q1, h2, hf⟩ := ob_some hf
  refine gg_naB hC hw h2 dX6_init_8 (fun H locs cells slots hw => ?_)
  obtain ⟨σ3, h4, hf⟩ := ob_some hf
  refine pF_fl_X6_9 hC hw h4 rfl rfl dX6_init_10 (fun H locs hw => ?_)
  cases hf
  exact hQ _ _ _ _ _ _ dX6_init_13 hw

def X6_init_f (E : gE) (l0 : Nat) (σ : gS) : Option gS := X6_init E l0 σ
set_option maxRecDepth 100000 in
theorem X6_init_M (l : Launch) (E : gE) (D : va_G) (A : Nat → Prop) {l0 : Nat} {σ : gS} {σz : gS} (hf : X6_init_f E l0 σ = some σz) : gCV l E D A yX6_init cX6_init 1 3 80 none [.ref l0] σ σz := by
  refine gg_entV (own := RX6) (nm := "<init>") (by decide +kernel) rfl rfl (Nat.le_of_ble_eq_true rfl) rfl ?_
  intro p e R s m args below meth c Q ls hC hw hQ hl
  have hl : lv_has ls 1 [(0, .ref l0)] := hl
  exact X6_init_W hC hQ hf hw hl

def X6_size (E : gE) (σ : gS) (l0 : Nat) : Option Int32 :=
  ob (gfI σ l0 5 1) fun x1 =>
  some x1
set_option maxHeartbeats 4000000 in
set_option maxRecDepth 100000 in
theorem X6_size_W {σ : gS} {l0 : Nat} {res : Int32} {ls : Array Slot} (hC : gC E D A p R s m args meth c cX6_size 1 RX6 "size" 0 0) (hQ : gQI E D A p l e R s m args below meth c Q cX6_size FieldType.int (res, σ)) (hf : X6_size E σ l0 = some res) (hw : gW E D A s σ H locs) (hl : lv_has ls 1 [(0, .ref l0)]) : W p l e R s m args below meth c H locs cells slots Q (F0 m 0 ls []) := by
  have hC0 := hC
  obtain ⟨hx, hb, hml, hown, hts, -⟩ := hC0
  unfold X6_size at hf
  refine lv_aload_n hx hb dX6_size_0 rfl (lv_at hl 0 rfl) ?_
  obtain ⟨x1, h2, hf⟩ := ob_some hf
  refine rI_fl_X6_15 hC hw h2 dX6_size_1 ?_
  cases hf
  exact hQ _ _ _ _ _ _ dX6_size_4 rfl hw

def X6_size_f (E : gE) (σ : gS) (l0 : Nat) : Option Int32 := X6_size E σ l0
set_option maxRecDepth 100000 in
theorem X6_size_M (l : Launch) (E : gE) (D : va_G) (A : Nat → Prop) {l0 : Nat} {σ : gS} {res : Int32} (hf : X6_size_f E σ l0 = some res) : gCI l E D A yX6_size cX6_size 1 0 0 (some FieldType.int) [.ref l0] σ (res, σ) := by
  refine gg_entI (own := RX6) (nm := "size") (ty := FieldType.int) (by decide +kernel) rfl rfl (Nat.le_of_ble_eq_true rfl) rfl ?_
  intro p e R s m args below meth c Q ls hC hw hQ hl
  have hl : lv_has ls 1 [(0, .ref l0)] := hl
  exact X6_size_W hC hQ hf hw hl

def X6_append_3_s (E : gE) (r_3 : Nat → Int32 → Int32 → gS → Option gS) (l0 : Nat) (l1 : Int32) (l2 : Int32) (σ : gS) : Option gS :=
  if l2 < 0 then
    some σ
  else
    ob (gfI σ l0 5 1) fun x1 =>
    if (700 : Int32) ≤ x1 then
      some σ
    else
      ob (gfR σ l0 5 0) fun x3 =>
      ob (gfI σ l0 5 1) fun x5 =>
      ob (gwaB E σ x3 x5 (gi2b (l1 >>> (l2 &&& 31)))) fun σ7 =>
      ob (gfI σ7 l0 5 1) fun x9 =>
      ob (gpf E σ7 l0 5 1 (.int (x9 + (1 : Int32)))) fun σ11 =>
      r_3 l0 l1 (l2 + -8) σ11
set_option maxHeartbeats 4000000 in
set_option maxRecDepth 100000 in
theorem X6_append_3_s_W {σ : gS} {l0 : Nat} {l1 : Int32} {l2 : Int32} {σz : gS} {ls : Array Slot} (hC : gC E D A p R s m args meth c cX6_append 3 RX6 "append" 0 0) (hQ : gQV E D A p l e R s m args below meth c Q cX6_append σz) {r_3 : Nat → Int32 → Int32 → gS → Option gS} (h_3 : ∀ {l0 : Nat} {l1 : Int32} {l2 : Int32} {σ : gS} {H : Heap} {locs : List Loc} {cells slots : Nat} {ls : Array Slot}, r_3 l0 l1 l2 σ = some σz → gW E D A s σ H locs → lv_has ls 3 [(0, .ref l0), (1, .int l1), (2, .int l2)] → W p l e R s m args below meth c H locs cells slots Q (F0 m 3 ls [])) (hf : X6_append_3_s E r_3 l0 l1 l2 σ = some σz) (hw : gW E D A s σ H locs) (hl : lv_has ls 3 [(0, .ref l0), (1, .int l1), (2, .int l2)]) : W p l e R s m args below meth c H locs cells slots Q (F0 m 3 ls []) := by
  have hC0 := hC
  obtain ⟨hx, hb, hml, hown, hts, -⟩ := hC0
  unfold X6_append_3_s at hf
  refine lv_iload_n hx hb dX6_append_3 rfl (lv_at hl 2 rfl) ?_
  refine lv_if_lt (tgt := 46) hx hb dX6_append_4 (by decide) (fun c14 => ?_) (fun c14 => ?_)
  · replace hf := (if_pos c14).symm.trans hf
    cases hf
    exact hQ _ _ _ _ _ _ dX6_append_46 hw
  · replace hf := (if_neg c14).symm.trans hf
    refine lv_aload_n hx hb dX6_append_7 rfl (lv_at hl 0 rfl) ?_
    obtain ⟨x1, h2, hf⟩ := ob_some hf
    refine rI_fl_X6_15 hC hw h2 dX6_append_8 ?_
    refine lv_sipush (v := 700) hx hb dX6_append_11 (by decide) ?_
    refine lv_icmp_ge (tgt := 46) hx hb dX6_append_14 (by decide) (fun c13 => ?_) (fun c13 => ?_)
    · replace hf := (if_pos c13).symm.trans hf
      cases hf
      exact hQ _ _ _ _ _ _ dX6_append_46 hw
    · replace hf := (if_neg c13).symm.trans hf
      refine lv_aload_n hx hb dX6_append_17 rfl (lv_at hl 0 rfl) ?_
      obtain ⟨x3, h4, hf⟩ := ob_some hf
      refine rR_fl_X6_9 hC hw h4 dX6_append_18 ?_
      refine lv_aload_n hx hb dX6_append_21 rfl (lv_at hl 0 rfl) ?_
      obtain ⟨x5, h6, hf⟩ := ob_some hf
      refine rI_fl_X6_15 hC hw h6 dX6_append_22 ?_
      refine lv_iload_n hx hb dX6_append_25 rfl (lv_at hl 1 rfl) ?_
      refine lv_iload_n hx hb dX6_append_26 rfl (lv_at hl 2 rfl) ?_
      refine lv_ishr hx hb dX6_append_27 ?_
      refine lv_i2b (v := (gi2b (l1 >>> (l2 &&& 31)))) hx hb dX6_append_28 rfl ?_
      obtain ⟨σ7, h8, hf⟩ := ob_some hf
      refine gg_astB hC hw h8 dX6_append_29 (fun H locs hw => ?_)
      refine lv_aload_n hx hb dX6_append_30 rfl (lv_at hl 0 rfl) ?_
      refine lv_dup hx hb dX6_append_31 rfl ?_
      obtain ⟨x9, h10, hf⟩ := ob_some hf
      refine rI_fl_X6_15 hC hw h10 dX6_append_32 ?_
      refine lv_iconst (v := 1) hx hb dX6_append_35 (by decide) ?_
      refine lv_iadd hx hb dX6_append_36 ?_
      obtain ⟨σ11, h12, hf⟩ := ob_some hf
      refine p_fl_X6_15 hC hw h12 rfl rfl dX6_append_37 (fun H locs hw => ?_)
      refine lv_iinc (v := (l2 + -8)) (lv' := [(2, .int (l2 + -8)), (0, .ref l0), (1, .int l1)]) hx hb dX6_append_40 hl (k := 2) rfl rfl (by decide) rfl (fun ls hl => ?_)
      refine lv_goto (tgt := 3) hx hb dX6_append_43 (by decide) ?_
      exact h_3 hf hw (lv_sub hl [1, 2, 0] rfl)
def X6_append_3 (E : gE) : Nat → Nat → Int32 → Int32 → gS → Option gS
  | 0 => fun _ _ _ _ => none
  | n + 1 => X6_append_3_s E (X6_append_3 E n)
theorem X6_append_3_W {σz : gS} (hC : gC E D A p R s m args meth c cX6_append 3 RX6 "append" 0 0) (hQ : gQV E D A p l e R s m args below meth c Q cX6_append σz) : ∀ (n : Nat), ∀ {l0 : Nat} {l1 : Int32} {l2 : Int32} {σ : gS} {H : Heap} {locs : List Loc} {cells slots : Nat} {ls : Array Slot}, X6_append_3 E n l0 l1 l2 σ = some σz → gW E D A s σ H locs → lv_has ls 3 [(0, .ref l0), (1, .int l1), (2, .int l2)] → W p l e R s m args below meth c H locs cells slots Q (F0 m 3 ls []) := by
  intro n
  induction n with
  | zero =>
    intros
    rename_i hf _ _
    exact absurd hf (fun h => by cases (show (none : Option gS) = some σz from h))
  | succ n ih =>
    intros
    rename_i hf hw hl
    exact X6_append_3_s_W hC hQ ih hf hw hl

def X6_append (E : gE) (l0 : Nat) (l1 : Int32) (σ : gS) : Option gS :=
  X6_append_3 E (gN E) l0 l1 (24 : Int32) σ
set_option maxHeartbeats 4000000 in
set_option maxRecDepth 100000 in
theorem X6_append_W {σ : gS} {l0 : Nat} {l1 : Int32} {σz : gS} {ls : Array Slot} (hC : gC E D A p R s m args meth c cX6_append 3 RX6 "append" 0 0) (hQ : gQV E D A p l e R s m args below meth c Q cX6_append σz) (hf : X6_append E l0 l1 σ = some σz) (hw : gW E D A s σ H locs) (hl : lv_has ls 3 [(0, .ref l0), (1, .int l1)]) : W p l e R s m args below meth c H locs cells slots Q (F0 m 0 ls []) := by
  have hC0 := hC
  obtain ⟨hx, hb, hml, hown, hts, -⟩ := hC0
  unfold X6_append at hf
  refine lv_bipush (v := 24) hx hb dX6_append_0 (by decide) ?_
  refine lv_istore_n (lv' := [(2, .int (24 : Int32)), (0, .ref l0), (1, .int l1)]) hx hb dX6_append_2 rfl hl (by decide) rfl (fun ls hl => ?_)
  exact X6_append_3_W hC hQ (gN E) hf hw (lv_sub hl [1, 2, 0] rfl)

def X6_append_f (E : gE) (l0 : Nat) (l1 : Int32) (σ : gS) : Option gS := X6_append E l0 l1 σ
set_option maxRecDepth 100000 in
theorem X6_append_M (l : Launch) (E : gE) (D : va_G) (A : Nat → Prop) {l0 : Nat} {l1 : Int32} {σ : gS} {σz : gS} (hf : X6_append_f E l0 l1 σ = some σz) : gCV l E D A yX6_append cX6_append 3 0 0 none [.ref l0, .int l1] σ σz := by
  refine gg_entV (own := RX6) (nm := "append") (by decide +kernel) rfl rfl (Nat.le_of_ble_eq_true rfl) rfl ?_
  intro p e R s m args below meth c Q ls hC hw hQ hl
  have hl : lv_has ls 3 [(0, .ref l0), (1, .int l1)] := hl
  exact X6_append_W hC hQ hf hw hl

def X6_clear (E : gE) (l0 : Nat) (σ : gS) : Option gS :=
  ob (gpf E σ l0 5 1 (.int (0 : Int32))) fun σ1 =>
  some σ1
set_option maxHeartbeats 4000000 in
set_option maxRecDepth 100000 in
theorem X6_clear_W {σ : gS} {l0 : Nat} {σz : gS} {ls : Array Slot} (hC : gC E D A p R s m args meth c cX6_clear 1 RX6 "clear" 0 0) (hQ : gQV E D A p l e R s m args below meth c Q cX6_clear σz) (hf : X6_clear E l0 σ = some σz) (hw : gW E D A s σ H locs) (hl : lv_has ls 1 [(0, .ref l0)]) : W p l e R s m args below meth c H locs cells slots Q (F0 m 0 ls []) := by
  have hC0 := hC
  obtain ⟨hx, hb, hml, hown, hts, -⟩ := hC0
  unfold X6_clear at hf
  refine lv_aload_n hx hb dX6_clear_0 rfl (lv_at hl 0 rfl) ?_
  refine lv_iconst (v := 0) hx hb dX6_clear_1 (by decide) ?_
  obtain ⟨σ1, h2, hf⟩ := ob_some hf
  refine p_fl_X6_15 hC hw h2 rfl rfl dX6_clear_2 (fun H locs hw => ?_)
  cases hf
  exact hQ _ _ _ _ _ _ dX6_clear_5 hw

def X6_clear_f (E : gE) (l0 : Nat) (σ : gS) : Option gS := X6_clear E l0 σ
set_option maxRecDepth 100000 in
theorem X6_clear_M (l : Launch) (E : gE) (D : va_G) (A : Nat → Prop) {l0 : Nat} {σ : gS} {σz : gS} (hf : X6_clear_f E l0 σ = some σz) : gCV l E D A yX6_clear cX6_clear 1 0 0 none [.ref l0] σ σz := by
  refine gg_entV (own := RX6) (nm := "clear") (by decide +kernel) rfl rfl (Nat.le_of_ble_eq_true rfl) rfl ?_
  intro p e R s m args below meth c Q ls hC hw hQ hl
  have hl : lv_has ls 1 [(0, .ref l0)] := hl
  exact X6_clear_W hC hQ hf hw hl

def X6_kindAt_88 (E : gE) (σ : gS) : Option Int32 :=
  some (1 : Int32)
set_option maxHeartbeats 4000000 in
set_option maxRecDepth 100000 in
theorem X6_kindAt_88_W {σ : gS} {res : Int32} {ls : Array Slot} (hC : gC E D A p R s m args meth c cX6_kindAt 3 RX6 "kindAt" 0 0) (hQ : gQI E D A p l e R s m args below meth c Q cX6_kindAt FieldType.int (res, σ)) (hf : X6_kindAt_88 E σ = some res) (hw : gW E D A s σ H locs) (hl : lv_has ls 3 []) : W p l e R s m args below meth c H locs cells slots Q (F0 m 88 ls []) := by
  have hC0 := hC
  obtain ⟨hx, hb, hml, hown, hts, -⟩ := hC0
  unfold X6_kindAt_88 at hf
  refine lv_iconst (v := 1) hx hb dX6_kindAt_88 (by decide) ?_
  cases hf
  exact hQ _ _ _ _ _ _ dX6_kindAt_89 rfl hw

def X6_kindAt_45 (E : gE) (σ : gS) (l2 : Int32) : Option Int32 :=
  if l2 = (10 : Int32) then
    X6_kindAt_88 E σ
  else
    if l2 = (32 : Int32) then
      X6_kindAt_88 E σ
    else
      if l2 = (45 : Int32) then
        some (5 : Int32)
      else
        if l2 = (59 : Int32) then
          some (4 : Int32)
        else
          some (6 : Int32)
set_option maxHeartbeats 4000000 in
set_option maxRecDepth 100000 in
theorem X6_kindAt_45_W {σ : gS} {l2 : Int32} {res : Int32} {ls : Array Slot} (hC : gC E D A p R s m args meth c cX6_kindAt 3 RX6 "kindAt" 0 0) (hQ : gQI E D A p l e R s m args below meth c Q cX6_kindAt FieldType.int (res, σ)) (hf : X6_kindAt_45 E σ l2 = some res) (hw : gW E D A s σ H locs) (hl : lv_has ls 3 [(2, .int l2)]) : W p l e R s m args below meth c H locs cells slots Q (F0 m 45 ls []) := by
  have hC0 := hC
  obtain ⟨hx, hb, hml, hown, hts, -⟩ := hC0
  unfold X6_kindAt_45 at hf
  refine lv_iload_n hx hb dX6_kindAt_45 rfl (lv_at hl 0 rfl) ?_
  by_cases c1 : l2 = (10 : Int32)
  · replace hf := (if_pos c1).symm.trans hf
    refine lv_lookup (off := 42) (tgt := 88) hx hb dX6_kindAt_46 (by decide) (glkE c1 (by decide)) (by decide) ?_
    exact X6_kindAt_88_W hC hQ hf hw (lv_sub hl [] rfl)
  · replace hf := (if_neg c1).symm.trans hf
    by_cases c2 : l2 = (32 : Int32)
    · replace hf := (if_pos c2).symm.trans hf
      refine lv_lookup (off := 42) (tgt := 88) hx hb dX6_kindAt_46 (by decide) (glk c1 (by decide) (glkE c2 (by decide))) (by decide) ?_
      exact X6_kindAt_88_W hC hQ hf hw (lv_sub hl [] rfl)
    · replace hf := (if_neg c2).symm.trans hf
      by_cases c3 : l2 = (45 : Int32)
      · replace hf := (if_pos c3).symm.trans hf
        refine lv_lookup (off := 46) (tgt := 92) hx hb dX6_kindAt_46 (by decide) (glk c1 (by decide) (glk c2 (by decide) (glkE c3 (by decide)))) (by decide) ?_
        refine lv_iconst (v := 5) hx hb dX6_kindAt_92 (by decide) ?_
        cases hf
        exact hQ _ _ _ _ _ _ dX6_kindAt_93 rfl hw
      · replace hf := (if_neg c3).symm.trans hf
        by_cases c4 : l2 = (59 : Int32)
        · replace hf := (if_pos c4).symm.trans hf
          refine lv_lookup (off := 44) (tgt := 90) hx hb dX6_kindAt_46 (by decide) (glk c1 (by decide) (glk c2 (by decide) (glk c3 (by decide) (glkE c4 (by decide))))) (by decide) ?_
          refine lv_iconst (v := 4) hx hb dX6_kindAt_90 (by decide) ?_
          cases hf
          exact hQ _ _ _ _ _ _ dX6_kindAt_91 rfl hw
        · replace hf := (if_neg c4).symm.trans hf
          refine lv_lookup (off := 48) (tgt := 94) hx hb dX6_kindAt_46 (by decide) (glk c1 (by decide) (glk c2 (by decide) (glk c3 (by decide) (glk c4 (by decide) rfl)))) (by decide) ?_
          refine lv_bipush (v := 6) hx hb dX6_kindAt_94 (by decide) ?_
          cases hf
          exact hQ _ _ _ _ _ _ dX6_kindAt_96 rfl hw

def X6_kindAt_31 (E : gE) (σ : gS) (l2 : Int32) : Option Int32 :=
  if l2 < (48 : Int32) then
    X6_kindAt_45 E σ l2
  else
    if (57 : Int32) < l2 then
      X6_kindAt_45 E σ l2
    else
      some (3 : Int32)
set_option maxHeartbeats 4000000 in
set_option maxRecDepth 100000 in
theorem X6_kindAt_31_W {σ : gS} {l2 : Int32} {res : Int32} {ls : Array Slot} (hC : gC E D A p R s m args meth c cX6_kindAt 3 RX6 "kindAt" 0 0) (hQ : gQI E D A p l e R s m args below meth c Q cX6_kindAt FieldType.int (res, σ)) (hf : X6_kindAt_31 E σ l2 = some res) (hw : gW E D A s σ H locs) (hl : lv_has ls 3 [(2, .int l2)]) : W p l e R s m args below meth c H locs cells slots Q (F0 m 31 ls []) := by
  have hC0 := hC
  obtain ⟨hx, hb, hml, hown, hts, -⟩ := hC0
  unfold X6_kindAt_31 at hf
  refine lv_iload_n hx hb dX6_kindAt_31 rfl (lv_at hl 0 rfl) ?_
  refine lv_bipush (v := 48) hx hb dX6_kindAt_32 (by decide) ?_
  refine lv_icmp_lt (tgt := 45) hx hb dX6_kindAt_34 (by decide) (fun c6 => ?_) (fun c6 => ?_)
  · replace hf := (if_pos c6).symm.trans hf
    exact X6_kindAt_45_W hC hQ hf hw (lv_sub hl [0] rfl)
  · replace hf := (if_neg c6).symm.trans hf
    refine lv_iload_n hx hb dX6_kindAt_37 rfl (lv_at hl 0 rfl) ?_
    refine lv_bipush (v := 57) hx hb dX6_kindAt_38 (by decide) ?_
    refine lv_icmp_gt (tgt := 45) hx hb dX6_kindAt_40 (by decide) (fun c5 => ?_) (fun c5 => ?_)
    · replace hf := (if_pos c5).symm.trans hf
      exact X6_kindAt_45_W hC hQ hf hw (lv_sub hl [0] rfl)
    · replace hf := (if_neg c5).symm.trans hf
      refine lv_iconst (v := 3) hx hb dX6_kindAt_43 (by decide) ?_
      cases hf
      exact hQ _ _ _ _ _ _ dX6_kindAt_44 rfl hw

def X6_kindAt (E : gE) (σ : gS) (l0 : Nat) (l1 : Int32) : Option Int32 :=
  ob (gfI σ l0 5 2) fun x7 =>
  if l1 < x7 then
    ob (gfR σ l0 5 0) fun x9 =>
    ob (graI E 1 σ x9 l1) fun x11 =>
    if x11 < (97 : Int32) then
      X6_kindAt_31 E σ x11
    else
      if (122 : Int32) < x11 then
        X6_kindAt_31 E σ x11
      else
        some (2 : Int32)
  else
    some (0 : Int32)
set_option maxHeartbeats 4000000 in
set_option maxRecDepth 100000 in
theorem X6_kindAt_W {σ : gS} {l0 : Nat} {l1 : Int32} {res : Int32} {ls : Array Slot} (hC : gC E D A p R s m args meth c cX6_kindAt 3 RX6 "kindAt" 0 0) (hQ : gQI E D A p l e R s m args below meth c Q cX6_kindAt FieldType.int (res, σ)) (hf : X6_kindAt E σ l0 l1 = some res) (hw : gW E D A s σ H locs) (hl : lv_has ls 3 [(0, .ref l0), (1, .int l1)]) : W p l e R s m args below meth c H locs cells slots Q (F0 m 0 ls []) := by
  have hC0 := hC
  obtain ⟨hx, hb, hml, hown, hts, -⟩ := hC0
  unfold X6_kindAt at hf
  refine lv_iload_n hx hb dX6_kindAt_0 rfl (lv_at hl 1 rfl) ?_
  refine lv_aload_n hx hb dX6_kindAt_1 rfl (lv_at hl 0 rfl) ?_
  obtain ⟨x7, h8, hf⟩ := ob_some hf
  refine rI_fl_X6_25 hC hw h8 dX6_kindAt_2 ?_
  refine lv_icmp_lt (tgt := 10) hx hb dX6_kindAt_5 (by decide) (fun c15 => ?_) (fun c15 => ?_)
  · replace hf := (if_pos c15).symm.trans hf
    refine lv_aload_n hx hb dX6_kindAt_10 rfl (lv_at hl 0 rfl) ?_
    obtain ⟨x9, h10, hf⟩ := ob_some hf
    refine rR_fl_X6_9 hC hw h10 dX6_kindAt_11 ?_
    refine lv_iload_n hx hb dX6_kindAt_14 rfl (lv_at hl 1 rfl) ?_
    obtain ⟨x11, h12, hf⟩ := ob_some hf
    refine gg_aldB hC hw h12 dX6_kindAt_15 ?_
    refine lv_istore_n (lv' := [(2, .int x11), (0, .ref l0), (1, .int l1)]) hx hb dX6_kindAt_16 rfl hl (by decide) rfl (fun ls hl => ?_)
    refine lv_iload_n hx hb dX6_kindAt_17 rfl (lv_at hl 0 rfl) ?_
    refine lv_bipush (v := 97) hx hb dX6_kindAt_18 (by decide) ?_
    refine lv_icmp_lt (tgt := 31) hx hb dX6_kindAt_20 (by decide) (fun c14 => ?_) (fun c14 => ?_)
    · replace hf := (if_pos c14).symm.trans hf
      exact X6_kindAt_31_W hC hQ hf hw (lv_sub hl [0] rfl)
    · replace hf := (if_neg c14).symm.trans hf
      refine lv_iload_n hx hb dX6_kindAt_23 rfl (lv_at hl 0 rfl) ?_
      refine lv_bipush (v := 122) hx hb dX6_kindAt_24 (by decide) ?_
      refine lv_icmp_gt (tgt := 31) hx hb dX6_kindAt_26 (by decide) (fun c13 => ?_) (fun c13 => ?_)
      · replace hf := (if_pos c13).symm.trans hf
        exact X6_kindAt_31_W hC hQ hf hw (lv_sub hl [0] rfl)
      · replace hf := (if_neg c13).symm.trans hf
        refine lv_iconst (v := 2) hx hb dX6_kindAt_29 (by decide) ?_
        cases hf
        exact hQ _ _ _ _ _ _ dX6_kindAt_30 rfl hw
  · replace hf := (if_neg c15).symm.trans hf
    refine lv_iconst (v := 0) hx hb dX6_kindAt_8 (by decide) ?_
    cases hf
    exact hQ _ _ _ _ _ _ dX6_kindAt_9 rfl hw

def X6_kindAt_f (E : gE) (σ : gS) (l0 : Nat) (l1 : Int32) : Option Int32 := X6_kindAt E σ l0 l1
set_option maxRecDepth 100000 in
theorem X6_kindAt_M (l : Launch) (E : gE) (D : va_G) (A : Nat → Prop) {l0 : Nat} {l1 : Int32} {σ : gS} {res : Int32} (hf : X6_kindAt_f E σ l0 l1 = some res) : gCI l E D A yX6_kindAt cX6_kindAt 3 0 0 (some FieldType.int) [.ref l0, .int l1] σ (res, σ) := by
  refine gg_entI (own := RX6) (nm := "kindAt") (ty := FieldType.int) (by decide +kernel) rfl rfl (Nat.le_of_ble_eq_true rfl) rfl ?_
  intro p e R s m args below meth c Q ls hC hw hQ hl
  have hl : lv_has ls 3 [(0, .ref l0), (1, .int l1)] := hl
  exact X6_kindAt_W hC hQ hf hw hl

def X6_offset (E : gE) (σ : gS) (l0 : Nat) : Option Int32 :=
  ob (gfI σ l0 5 4) fun x1 =>
  some x1
set_option maxHeartbeats 4000000 in
set_option maxRecDepth 100000 in
theorem X6_offset_W {σ : gS} {l0 : Nat} {res : Int32} {ls : Array Slot} (hC : gC E D A p R s m args meth c cX6_offset 1 RX6 "offset" 0 0) (hQ : gQI E D A p l e R s m args below meth c Q cX6_offset FieldType.int (res, σ)) (hf : X6_offset E σ l0 = some res) (hw : gW E D A s σ H locs) (hl : lv_has ls 1 [(0, .ref l0)]) : W p l e R s m args below meth c H locs cells slots Q (F0 m 0 ls []) := by
  have hC0 := hC
  obtain ⟨hx, hb, hml, hown, hts, -⟩ := hC0
  unfold X6_offset at hf
  refine lv_aload_n hx hb dX6_offset_0 rfl (lv_at hl 0 rfl) ?_
  obtain ⟨x1, h2, hf⟩ := ob_some hf
  refine rI_fl_X6_38 hC hw h2 dX6_offset_1 ?_
  cases hf
  exact hQ _ _ _ _ _ _ dX6_offset_4 rfl hw

def X6_offset_f (E : gE) (σ : gS) (l0 : Nat) : Option Int32 := X6_offset E σ l0
set_option maxRecDepth 100000 in
theorem X6_offset_M (l : Launch) (E : gE) (D : va_G) (A : Nat → Prop) {l0 : Nat} {σ : gS} {res : Int32} (hf : X6_offset_f E σ l0 = some res) : gCI l E D A yX6_offset cX6_offset 1 0 0 (some FieldType.int) [.ref l0] σ (res, σ) := by
  refine gg_entI (own := RX6) (nm := "offset") (ty := FieldType.int) (by decide +kernel) rfl rfl (Nat.le_of_ble_eq_true rfl) rfl ?_
  intro p e R s m args below meth c Q ls hC hw hQ hl
  have hl : lv_has ls 1 [(0, .ref l0)] := hl
  exact X6_offset_W hC hQ hf hw hl

def X6_isAtEnd (E : gE) (σ : gS) (l0 : Nat) : Option Int32 :=
  ob (gfI σ l0 5 3) fun x1 =>
  if x1 = 0 then
    some (1 : Int32)
  else
    some (0 : Int32)
set_option maxHeartbeats 4000000 in
set_option maxRecDepth 100000 in
theorem X6_isAtEnd_W {σ : gS} {l0 : Nat} {res : Int32} {ls : Array Slot} (hC : gC E D A p R s m args meth c cX6_isAtEnd 1 RX6 "isAtEnd" 0 0) (hQ : gQI E D A p l e R s m args below meth c Q cX6_isAtEnd FieldType.boolean (res, σ)) (hf : X6_isAtEnd E σ l0 = some res) (hw : gW E D A s σ H locs) (hl : lv_has ls 1 [(0, .ref l0)]) : W p l e R s m args below meth c H locs cells slots Q (F0 m 0 ls []) := by
  have hC0 := hC
  obtain ⟨hx, hb, hml, hown, hts, -⟩ := hC0
  unfold X6_isAtEnd at hf
  refine lv_aload_n hx hb dX6_isAtEnd_0 rfl (lv_at hl 0 rfl) ?_
  obtain ⟨x1, h2, hf⟩ := ob_some hf
  refine rI_fl_X6_41 hC hw h2 dX6_isAtEnd_1 ?_
  refine lv_if_ne (tgt := 11) hx hb dX6_isAtEnd_4 (by decide) (fun c3 => ?_) (fun c3 => ?_)
  · replace hf := (if_neg c3).symm.trans hf
    refine lv_iconst (v := 0) hx hb dX6_isAtEnd_11 (by decide) ?_
    cases hf
    exact hQ _ _ _ _ _ _ dX6_isAtEnd_12 gz0 hw
  · replace hf := (if_pos c3).symm.trans hf
    refine lv_iconst (v := 1) hx hb dX6_isAtEnd_7 (by decide) ?_
    refine lv_goto (tgt := 12) hx hb dX6_isAtEnd_8 (by decide) ?_
    cases hf
    exact hQ _ _ _ _ _ _ dX6_isAtEnd_12 gz1 hw

def X6_isAtEnd_f (E : gE) (σ : gS) (l0 : Nat) : Option Int32 := X6_isAtEnd E σ l0
set_option maxRecDepth 100000 in
theorem X6_isAtEnd_M (l : Launch) (E : gE) (D : va_G) (A : Nat → Prop) {l0 : Nat} {σ : gS} {res : Int32} (hf : X6_isAtEnd_f E σ l0 = some res) : gCI l E D A yX6_isAtEnd cX6_isAtEnd 1 0 0 (some FieldType.boolean) [.ref l0] σ (res, σ) := by
  refine gg_entI (own := RX6) (nm := "isAtEnd") (ty := FieldType.boolean) (by decide +kernel) rfl rfl (Nat.le_of_ble_eq_true rfl) rfl ?_
  intro p e R s m args below meth c Q ls hC hw hQ hl
  have hl : lv_has ls 1 [(0, .ref l0)] := hl
  exact X6_isAtEnd_W hC hQ hf hw hl

def X6_isNumber (E : gE) (σ : gS) (l0 : Nat) : Option Int32 :=
  ob (gfI σ l0 5 3) fun x1 =>
  if x1 = (3 : Int32) then
    some (1 : Int32)
  else
    some (0 : Int32)
set_option maxHeartbeats 4000000 in
set_option maxRecDepth 100000 in
theorem X6_isNumber_W {σ : gS} {l0 : Nat} {res : Int32} {ls : Array Slot} (hC : gC E D A p R s m args meth c cX6_isNumber 1 RX6 "isNumber" 0 0) (hQ : gQI E D A p l e R s m args below meth c Q cX6_isNumber FieldType.boolean (res, σ)) (hf : X6_isNumber E σ l0 = some res) (hw : gW E D A s σ H locs) (hl : lv_has ls 1 [(0, .ref l0)]) : W p l e R s m args below meth c H locs cells slots Q (F0 m 0 ls []) := by
  have hC0 := hC
  obtain ⟨hx, hb, hml, hown, hts, -⟩ := hC0
  unfold X6_isNumber at hf
  refine lv_aload_n hx hb dX6_isNumber_0 rfl (lv_at hl 0 rfl) ?_
  obtain ⟨x1, h2, hf⟩ := ob_some hf
  refine rI_fl_X6_41 hC hw h2 dX6_isNumber_1 ?_
  refine lv_iconst (v := 3) hx hb dX6_isNumber_4 (by decide) ?_
  refine lv_icmp_ne (tgt := 12) hx hb dX6_isNumber_5 (by decide) (fun c3 => ?_) (fun c3 => ?_)
  · replace hf := (if_neg c3).symm.trans hf
    refine lv_iconst (v := 0) hx hb dX6_isNumber_12 (by decide) ?_
    cases hf
    exact hQ _ _ _ _ _ _ dX6_isNumber_13 gz0 hw
  · replace hf := (if_pos c3).symm.trans hf
    refine lv_iconst (v := 1) hx hb dX6_isNumber_8 (by decide) ?_
    refine lv_goto (tgt := 13) hx hb dX6_isNumber_9 (by decide) ?_
    cases hf
    exact hQ _ _ _ _ _ _ dX6_isNumber_13 gz1 hw

def X6_isNumber_f (E : gE) (σ : gS) (l0 : Nat) : Option Int32 := X6_isNumber E σ l0
set_option maxRecDepth 100000 in
theorem X6_isNumber_M (l : Launch) (E : gE) (D : va_G) (A : Nat → Prop) {l0 : Nat} {σ : gS} {res : Int32} (hf : X6_isNumber_f E σ l0 = some res) : gCI l E D A yX6_isNumber cX6_isNumber 1 0 0 (some FieldType.boolean) [.ref l0] σ (res, σ) := by
  refine gg_entI (own := RX6) (nm := "isNumber") (ty := FieldType.boolean) (by decide +kernel) rfl rfl (Nat.le_of_ble_eq_true rfl) rfl ?_
  intro p e R s m args below meth c Q ls hC hw hQ hl
  have hl : lv_has ls 1 [(0, .ref l0)] := hl
  exact X6_isNumber_W hC hQ hf hw hl

def X6_number (E : gE) (σ : gS) (l0 : Nat) : Option Int32 :=
  ob (gfI σ l0 5 6) fun x1 =>
  some x1
set_option maxHeartbeats 4000000 in
set_option maxRecDepth 100000 in
theorem X6_number_W {σ : gS} {l0 : Nat} {res : Int32} {ls : Array Slot} (hC : gC E D A p R s m args meth c cX6_number 1 RX6 "number" 0 0) (hQ : gQI E D A p l e R s m args below meth c Q cX6_number FieldType.int (res, σ)) (hf : X6_number E σ l0 = some res) (hw : gW E D A s σ H locs) (hl : lv_has ls 1 [(0, .ref l0)]) : W p l e R s m args below meth c H locs cells slots Q (F0 m 0 ls []) := by
  have hC0 := hC
  obtain ⟨hx, hb, hml, hown, hts, -⟩ := hC0
  unfold X6_number at hf
  refine lv_aload_n hx hb dX6_number_0 rfl (lv_at hl 0 rfl) ?_
  obtain ⟨x1, h2, hf⟩ := ob_some hf
  refine rI_fl_X6_44 hC hw h2 dX6_number_1 ?_
  cases hf
  exact hQ _ _ _ _ _ _ dX6_number_4 rfl hw

def X6_number_f (E : gE) (σ : gS) (l0 : Nat) : Option Int32 := X6_number E σ l0
set_option maxRecDepth 100000 in
theorem X6_number_M (l : Launch) (E : gE) (D : va_G) (A : Nat → Prop) {l0 : Nat} {σ : gS} {res : Int32} (hf : X6_number_f E σ l0 = some res) : gCI l E D A yX6_number cX6_number 1 0 0 (some FieldType.int) [.ref l0] σ (res, σ) := by
  refine gg_entI (own := RX6) (nm := "number") (ty := FieldType.int) (by decide +kernel) rfl rfl (Nat.le_of_ble_eq_true rfl) rfl ?_
  intro p e R s m args below meth c Q ls hC hw hQ hl
  have hl : lv_has ls 1 [(0, .ref l0)] := hl
  exact X6_number_W hC hQ hf hw hl

def X6_isSemicolon (E : gE) (σ : gS) (l0 : Nat) : Option Int32 :=
  ob (gfI σ l0 5 3) fun x1 =>
  if x1 = (4 : Int32) then
    some (1 : Int32)
  else
    some (0 : Int32)
set_option maxHeartbeats 4000000 in
set_option maxRecDepth 100000 in
theorem X6_isSemicolon_W {σ : gS} {l0 : Nat} {res : Int32} {ls : Array Slot} (hC : gC E D A p R s m args meth c cX6_isSemicolon 1 RX6 "isSemicolon" 0 0) (hQ : gQI E D A p l e R s m args below meth c Q cX6_isSemicolon FieldType.boolean (res, σ)) (hf : X6_isSemicolon E σ l0 = some res) (hw : gW E D A s σ H locs) (hl : lv_has ls 1 [(0, .ref l0)]) : W p l e R s m args below meth c H locs cells slots Q (F0 m 0 ls []) := by
  have hC0 := hC
  obtain ⟨hx, hb, hml, hown, hts, -⟩ := hC0
  unfold X6_isSemicolon at hf
  refine lv_aload_n hx hb dX6_isSemicolon_0 rfl (lv_at hl 0 rfl) ?_
  obtain ⟨x1, h2, hf⟩ := ob_some hf
  refine rI_fl_X6_41 hC hw h2 dX6_isSemicolon_1 ?_
  refine lv_iconst (v := 4) hx hb dX6_isSemicolon_4 (by decide) ?_
  refine lv_icmp_ne (tgt := 12) hx hb dX6_isSemicolon_5 (by decide) (fun c3 => ?_) (fun c3 => ?_)
  · replace hf := (if_neg c3).symm.trans hf
    refine lv_iconst (v := 0) hx hb dX6_isSemicolon_12 (by decide) ?_
    cases hf
    exact hQ _ _ _ _ _ _ dX6_isSemicolon_13 gz0 hw
  · replace hf := (if_pos c3).symm.trans hf
    refine lv_iconst (v := 1) hx hb dX6_isSemicolon_8 (by decide) ?_
    refine lv_goto (tgt := 13) hx hb dX6_isSemicolon_9 (by decide) ?_
    cases hf
    exact hQ _ _ _ _ _ _ dX6_isSemicolon_13 gz1 hw

def X6_isSemicolon_f (E : gE) (σ : gS) (l0 : Nat) : Option Int32 := X6_isSemicolon E σ l0
set_option maxRecDepth 100000 in
theorem X6_isSemicolon_M (l : Launch) (E : gE) (D : va_G) (A : Nat → Prop) {l0 : Nat} {σ : gS} {res : Int32} (hf : X6_isSemicolon_f E σ l0 = some res) : gCI l E D A yX6_isSemicolon cX6_isSemicolon 1 0 0 (some FieldType.boolean) [.ref l0] σ (res, σ) := by
  refine gg_entI (own := RX6) (nm := "isSemicolon") (ty := FieldType.boolean) (by decide +kernel) rfl rfl (Nat.le_of_ble_eq_true rfl) rfl ?_
  intro p e R s m args below meth c Q ls hC hw hQ hl
  have hl : lv_has ls 1 [(0, .ref l0)] := hl
  exact X6_isSemicolon_W hC hQ hf hw hl

def X6_isMinus (E : gE) (σ : gS) (l0 : Nat) : Option Int32 :=
  ob (gfI σ l0 5 3) fun x1 =>
  if x1 = (5 : Int32) then
    some (1 : Int32)
  else
    some (0 : Int32)
set_option maxHeartbeats 4000000 in
set_option maxRecDepth 100000 in
theorem X6_isMinus_W {σ : gS} {l0 : Nat} {res : Int32} {ls : Array Slot} (hC : gC E D A p R s m args meth c cX6_isMinus 1 RX6 "isMinus" 0 0) (hQ : gQI E D A p l e R s m args below meth c Q cX6_isMinus FieldType.boolean (res, σ)) (hf : X6_isMinus E σ l0 = some res) (hw : gW E D A s σ H locs) (hl : lv_has ls 1 [(0, .ref l0)]) : W p l e R s m args below meth c H locs cells slots Q (F0 m 0 ls []) := by
  have hC0 := hC
  obtain ⟨hx, hb, hml, hown, hts, -⟩ := hC0
  unfold X6_isMinus at hf
  refine lv_aload_n hx hb dX6_isMinus_0 rfl (lv_at hl 0 rfl) ?_
  obtain ⟨x1, h2, hf⟩ := ob_some hf
  refine rI_fl_X6_41 hC hw h2 dX6_isMinus_1 ?_
  refine lv_iconst (v := 5) hx hb dX6_isMinus_4 (by decide) ?_
  refine lv_icmp_ne (tgt := 12) hx hb dX6_isMinus_5 (by decide) (fun c3 => ?_) (fun c3 => ?_)
  · replace hf := (if_neg c3).symm.trans hf
    refine lv_iconst (v := 0) hx hb dX6_isMinus_12 (by decide) ?_
    cases hf
    exact hQ _ _ _ _ _ _ dX6_isMinus_13 gz0 hw
  · replace hf := (if_pos c3).symm.trans hf
    refine lv_iconst (v := 1) hx hb dX6_isMinus_8 (by decide) ?_
    refine lv_goto (tgt := 13) hx hb dX6_isMinus_9 (by decide) ?_
    cases hf
    exact hQ _ _ _ _ _ _ dX6_isMinus_13 gz1 hw

def X6_isMinus_f (E : gE) (σ : gS) (l0 : Nat) : Option Int32 := X6_isMinus E σ l0
set_option maxRecDepth 100000 in
theorem X6_isMinus_M (l : Launch) (E : gE) (D : va_G) (A : Nat → Prop) {l0 : Nat} {σ : gS} {res : Int32} (hf : X6_isMinus_f E σ l0 = some res) : gCI l E D A yX6_isMinus cX6_isMinus 1 0 0 (some FieldType.boolean) [.ref l0] σ (res, σ) := by
  refine gg_entI (own := RX6) (nm := "isMinus") (ty := FieldType.boolean) (by decide +kernel) rfl rfl (Nat.le_of_ble_eq_true rfl) rfl ?_
  intro p e R s m args below meth c Q ls hC hw hQ hl
  have hl : lv_has ls 1 [(0, .ref l0)] := hl
  exact X6_isMinus_W hC hQ hf hw hl

def X9_init_34_s (E : gE) (r_34 : Nat → Int32 → gS → Option gS) (l0 : Nat) (l2 : Int32) (σ : gS) : Option gS :=
  if (20 : Int32) ≤ l2 then
    some σ
  else
    ob (gfR σ l0 7 7) fun x1 =>
    ob (gnew E σ 1 [.null, .int 0, .int 0, .int 0, .int 0, .null]) fun q3 =>
    ob (X2_init_f E q3.1 q3.2) fun x5 =>
    ob (gwaR E 6 1 x5 x1 l2 q3.1) fun σ7 =>
    r_34 l0 (l2 + 1) σ7
set_option maxHeartbeats 4000000 in
set_option maxRecDepth 100000 in
theorem X9_init_34_s_W {σ : gS} {l0 : Nat} {l2 : Int32} {σz : gS} {ls : Array Slot} (hC : gC E D A p R s m args meth c cX9_init 3 RX9 "<init>" 4 100) (hQ : gQV E D A p l e R s m args below meth c Q cX9_init σz) {r_34 : Nat → Int32 → gS → Option gS} (h_34 : ∀ {l0 : Nat} {l2 : Int32} {σ : gS} {H : Heap} {locs : List Loc} {cells slots : Nat} {ls : Array Slot}, r_34 l0 l2 σ = some σz → gW E D A s σ H locs → lv_has ls 3 [(0, .ref l0), (2, .int l2)] → W p l e R s m args below meth c H locs cells slots Q (F0 m 34 ls [])) (hf : X9_init_34_s E r_34 l0 l2 σ = some σz) (hw : gW E D A s σ H locs) (hl : lv_has ls 3 [(0, .ref l0), (2, .int l2)]) : W p l e R s m args below meth c H locs cells slots Q (F0 m 34 ls []) := by
  have hC0 := hC
  obtain ⟨hx, hb, hml, hown, hts, -⟩ := hC0
  unfold X9_init_34_s at hf
  refine lv_iload_n hx hb dX9_init_34 rfl (lv_at hl 1 rfl) ?_
  refine lv_bipush (v := 20) hx hb dX9_init_35 (by decide) ?_
  refine lv_icmp_ge (tgt := 59) hx hb dX9_init_37 (by decide) (fun c9 => ?_) (fun c9 => ?_)
  · replace hf := (if_pos c9).symm.trans hf
    cases hf
    exact hQ _ _ _ _ _ _ dX9_init_59 hw
  · replace hf := (if_neg c9).symm.trans hf
    refine lv_aload_n hx hb dX9_init_40 rfl (lv_at hl 0 rfl) ?_
    obtain ⟨x1, h2, hf⟩ := ob_some hf
    refine rR_fl_X9_21 hC hw h2 dX9_init_41 ?_
    refine lv_iload_n hx hb dX9_init_44 rfl (lv_at hl 1 rfl) ?_
    obtain ⟨q3, h4, hf⟩ := ob_some hf
    refine n_cl_X9_19 hC hw h4 dX9_init_45 (fun H locs cells slots hw => ?_)
    refine lv_dup hx hb dX9_init_48 rfl ?_
    obtain ⟨x5, h6, hf⟩ := ob_some hf
    refine gg_cNV (As := []) hC hw (X2_init_M l E D A h6) co_X2_init in_X2 mn_X9_29 im_X2_init rfl hd_X2_init.2 (Nat.le_of_ble_eq_true rfl) (Nat.le_of_ble_eq_true rfl) hl.1 rfl (Nat.le_of_ble_eq_true rfl) dX9_init_49 (fun H locs cells slots hw => ?_)
    obtain ⟨σ7, h8, hf⟩ := ob_some hf
    refine gg_astR hC hw h8 rfl rfl dX9_init_52 (fun H locs hw => ?_)
    refine lv_iinc (v := (l2 + 1)) (lv' := [(2, .int (l2 + 1)), (0, .ref l0)]) hx hb dX9_init_53 hl (k := 1) rfl rfl (by decide) rfl (fun ls hl => ?_)
    refine lv_goto (tgt := 34) hx hb dX9_init_56 (by decide) ?_
    exact h_34 hf hw (lv_sub hl [1, 0] rfl)
def X9_init_34 (E : gE) : Nat → Nat → Int32 → gS → Option gS
  | 0 => fun _ _ _ => none
  | n + 1 => X9_init_34_s E (X9_init_34 E n)
theorem X9_init_34_W {σz : gS} (hC : gC E D A p R s m args meth c cX9_init 3 RX9 "<init>" 4 100) (hQ : gQV E D A p l e R s m args below meth c Q cX9_init σz) : ∀ (n : Nat), ∀ {l0 : Nat} {l2 : Int32} {σ : gS} {H : Heap} {locs : List Loc} {cells slots : Nat} {ls : Array Slot}, X9_init_34 E n l0 l2 σ = some σz → gW E D A s σ H locs → lv_has ls 3 [(0, .ref l0), (2, .int l2)] → W p l e R s m args below meth c H locs cells slots Q (F0 m 34 ls []) := by
  intro n
  induction n with
  | zero =>
    intros
    rename_i hf _ _
    exact absurd hf (fun h => by cases (show (none : Option gS) = some σz from h))
  | succ n ih =>
    intros
    rename_i hf hw hl
    exact X9_init_34_s_W hC hQ ih hf hw hl

def X9_init (E : gE) (l0 : Nat) (l1 : Nat) (σ : gS) : Option gS :=
  ob (gpf E σ l0 7 2 (.int (-1 : Int32))) fun σ10 =>
  ob (gnaI E σ10 (360 : Int32)) fun q12 =>
  ob (gpf E q12.2 l0 7 6 (.ref q12.1)) fun σ14 =>
  ob (gnaR E 6 σ14 (20 : Int32)) fun q16 =>
  ob (gpf E q16.2 l0 7 7 (.ref q16.1)) fun σ18 =>
  ob (gpf E σ18 l0 7 0 (.ref l1)) fun σ20 =>
  X9_init_34 E (gN E) l0 (0 : Int32) σ20
set_option maxHeartbeats 4000000 in
set_option maxRecDepth 100000 in
theorem X9_init_W {σ : gS} {l0 : Nat} {l1 : Nat} {σz : gS} {ls : Array Slot} (hC : gC E D A p R s m args meth c cX9_init 3 RX9 "<init>" 4 100) (hQ : gQV E D A p l e R s m args below meth c Q cX9_init σz) (hf : X9_init E l0 l1 σ = some σz) (hw : gW E D A s σ H locs) (hl : lv_has ls 3 [(0, .ref l0), (1, .ref l1)]) : W p l e R s m args below meth c H locs cells slots Q (F0 m 0 ls []) := by
  have hC0 := hC
  obtain ⟨hx, hb, hml, hown, hts, -⟩ := hC0
  unfold X9_init at hf
  refine lv_aload_n hx hb dX9_init_0 rfl (lv_at hl 0 rfl) ?_
  refine gg_obj hC rfl (hts _ ml_X9_3) hl.1 (Nat.le_of_ble_eq_true rfl) dX9_init_1 (Nat.le_of_ble_eq_true rfl) (Nat.le_of_ble_eq_true rfl) ?_
  refine lv_aload_n hx hb dX9_init_4 rfl (lv_at hl 0 rfl) ?_
  refine lv_iconst (v := -1) hx hb dX9_init_5 (by decide) ?_
  obtain ⟨σ10, h11, hf⟩ := ob_some hf
  refine p_fl_X9_9 hC hw h11 rfl rfl dX9_init_6 (fun H locs hw => ?_)
  refine lv_aload_n hx hb dX9_init_9 rfl (lv_at hl 0 rfl) ?_
  refine lv_sipush (v := 360) hx hb dX9_init_10 (by decide) ?_
  obtain ⟨q12, h13, hf⟩ := ob_some hf
  refine gg_naI hC hw h13 dX9_init_13 (fun H locs cells slots hw => ?_)
  obtain ⟨σ14, h15, hf⟩ := ob_some hf
  refine pF_fl_X9_15 hC hw h15 rfl rfl dX9_init_15 (fun H locs hw => ?_)
  refine lv_aload_n hx hb dX9_init_18 rfl (lv_at hl 0 rfl) ?_
  refine lv_bipush (v := 20) hx hb dX9_init_19 (by decide) ?_
  obtain ⟨q16, h17, hf⟩ := ob_some hf
  refine na_cl_X9_19 hC hw h17 dX9_init_21 (fun H locs cells slots hw => ?_)
  obtain ⟨σ18, h19, hf⟩ := ob_some hf
  refine pF_fl_X9_21 hC hw h19 rfl rfl dX9_init_24 (fun H locs hw => ?_)
  refine lv_aload_n hx hb dX9_init_27 rfl (lv_at hl 0 rfl) ?_
  refine lv_aload_n hx hb dX9_init_28 rfl (lv_at hl 1 rfl) ?_
  obtain ⟨σ20, h21, hf⟩ := ob_some hf
  refine pF_fl_X9_25 hC hw h21 rfl rfl dX9_init_29 (fun H locs hw => ?_)
  refine lv_iconst (v := 0) hx hb dX9_init_32 (by decide) ?_
  refine lv_istore_n (lv' := [(2, .int (0 : Int32)), (0, .ref l0), (1, .ref l1)]) hx hb dX9_init_33 rfl hl (by decide) rfl (fun ls hl => ?_)
  exact X9_init_34_W hC hQ (gN E) hf hw (lv_sub hl [1, 0] rfl)

def X9_init_f (E : gE) (l0 : Nat) (l1 : Nat) (σ : gS) : Option gS := X9_init E l0 l1 σ
set_option maxRecDepth 100000 in
theorem X9_init_M (l : Launch) (E : gE) (D : va_G) (A : Nat → Prop) {l0 : Nat} {l1 : Nat} {σ : gS} {σz : gS} (hf : X9_init_f E l0 l1 σ = some σz) : gCV l E D A yX9_init cX9_init 3 4 100 none [.ref l0, .ref l1] σ σz := by
  refine gg_entV (own := RX9) (nm := "<init>") (by decide +kernel) rfl rfl (Nat.le_of_ble_eq_true rfl) rfl ?_
  intro p e R s m args below meth c Q ls hC hw hQ hl
  have hl : lv_has ls 3 [(0, .ref l0), (1, .ref l1)] := hl
  exact X9_init_W hC hQ hf hw hl

def X9_columns (E : gE) (σ : gS) (l0 : Nat) : Option Int32 :=
  ob (gfI σ l0 7 4) fun x1 =>
  some x1
set_option maxHeartbeats 4000000 in
set_option maxRecDepth 100000 in
theorem X9_columns_W {σ : gS} {l0 : Nat} {res : Int32} {ls : Array Slot} (hC : gC E D A p R s m args meth c cX9_columns 1 RX9 "columns" 0 0) (hQ : gQI E D A p l e R s m args below meth c Q cX9_columns FieldType.int (res, σ)) (hf : X9_columns E σ l0 = some res) (hw : gW E D A s σ H locs) (hl : lv_has ls 1 [(0, .ref l0)]) : W p l e R s m args below meth c H locs cells slots Q (F0 m 0 ls []) := by
  have hC0 := hC
  obtain ⟨hx, hb, hml, hown, hts, -⟩ := hC0
  unfold X9_columns at hf
  refine lv_aload_n hx hb dX9_columns_0 rfl (lv_at hl 0 rfl) ?_
  obtain ⟨x1, h2, hf⟩ := ob_some hf
  refine rI_fl_X9_33 hC hw h2 dX9_columns_1 ?_
  cases hf
  exact hQ _ _ _ _ _ _ dX9_columns_4 rfl hw

def X9_columns_f (E : gE) (σ : gS) (l0 : Nat) : Option Int32 := X9_columns E σ l0
set_option maxRecDepth 100000 in
theorem X9_columns_M (l : Launch) (E : gE) (D : va_G) (A : Nat → Prop) {l0 : Nat} {σ : gS} {res : Int32} (hf : X9_columns_f E σ l0 = some res) : gCI l E D A yX9_columns cX9_columns 1 0 0 (some FieldType.int) [.ref l0] σ (res, σ) := by
  refine gg_entI (own := RX9) (nm := "columns") (ty := FieldType.int) (by decide +kernel) rfl rfl (Nat.le_of_ble_eq_true rfl) rfl ?_
  intro p e R s m args below meth c Q ls hC hw hQ hl
  have hl : lv_has ls 1 [(0, .ref l0)] := hl
  exact X9_columns_W hC hQ hf hw hl

def X9_rows (E : gE) (σ : gS) (l0 : Nat) : Option Int32 :=
  ob (gfI σ l0 7 5) fun x1 =>
  some x1
set_option maxHeartbeats 4000000 in
set_option maxRecDepth 100000 in
theorem X9_rows_W {σ : gS} {l0 : Nat} {res : Int32} {ls : Array Slot} (hC : gC E D A p R s m args meth c cX9_rows 1 RX9 "rows" 0 0) (hQ : gQI E D A p l e R s m args below meth c Q cX9_rows FieldType.int (res, σ)) (hf : X9_rows E σ l0 = some res) (hw : gW E D A s σ H locs) (hl : lv_has ls 1 [(0, .ref l0)]) : W p l e R s m args below meth c H locs cells slots Q (F0 m 0 ls []) := by
  have hC0 := hC
  obtain ⟨hx, hb, hml, hown, hts, -⟩ := hC0
  unfold X9_rows at hf
  refine lv_aload_n hx hb dX9_rows_0 rfl (lv_at hl 0 rfl) ?_
  obtain ⟨x1, h2, hf⟩ := ob_some hf
  refine rI_fl_X9_36 hC hw h2 dX9_rows_1 ?_
  cases hf
  exact hQ _ _ _ _ _ _ dX9_rows_4 rfl hw

def X9_rows_f (E : gE) (σ : gS) (l0 : Nat) : Option Int32 := X9_rows E σ l0
set_option maxRecDepth 100000 in
theorem X9_rows_M (l : Launch) (E : gE) (D : va_G) (A : Nat → Prop) {l0 : Nat} {σ : gS} {res : Int32} (hf : X9_rows_f E σ l0 = some res) : gCI l E D A yX9_rows cX9_rows 1 0 0 (some FieldType.int) [.ref l0] σ (res, σ) := by
  refine gg_entI (own := RX9) (nm := "rows") (ty := FieldType.int) (by decide +kernel) rfl rfl (Nat.le_of_ble_eq_true rfl) rfl ?_
  intro p e R s m args below meth c Q ls hC hw hQ hl
  have hl : lv_has ls 1 [(0, .ref l0)] := hl
  exact X9_rows_W hC hQ hf hw hl

def X9_cells (E : gE) (σ : gS) (l0 : Nat) : Option Nat :=
  ob (gfR σ l0 7 6) fun x1 =>
  some x1
set_option maxHeartbeats 4000000 in
set_option maxRecDepth 100000 in
theorem X9_cells_W {σ : gS} {l0 : Nat} {res : Nat} {ls : Array Slot} (hC : gC E D A p R s m args meth c cX9_cells 1 RX9 "cells" 0 0) (hQ : gQR E D A p l e R s m args below meth c Q cX9_cells (res, σ)) (hf : X9_cells E σ l0 = some res) (hw : gW E D A s σ H locs) (hl : lv_has ls 1 [(0, .ref l0)]) : W p l e R s m args below meth c H locs cells slots Q (F0 m 0 ls []) := by
  have hC0 := hC
  obtain ⟨hx, hb, hml, hown, hts, -⟩ := hC0
  unfold X9_cells at hf
  refine lv_aload_n hx hb dX9_cells_0 rfl (lv_at hl 0 rfl) ?_
  obtain ⟨x1, h2, hf⟩ := ob_some hf
  refine rR_fl_X9_15 hC hw h2 dX9_cells_1 ?_
  cases hf
  exact hQ _ _ _ _ _ _ dX9_cells_4 hw

def X9_cells_f (E : gE) (σ : gS) (l0 : Nat) : Option Nat := X9_cells E σ l0
set_option maxRecDepth 100000 in
theorem X9_cells_M (l : Launch) (E : gE) (D : va_G) (A : Nat → Prop) {l0 : Nat} {σ : gS} {res : Nat} (hf : X9_cells_f E σ l0 = some res) : gCR l E D A yX9_cells cX9_cells 1 0 0 (some (FieldType.array FieldType.int)) [.ref l0] σ (res, σ) := by
  refine gg_entR (own := RX9) (nm := "cells") (ty := ((FieldType.array FieldType.int))) (by decide +kernel) rfl rfl (Nat.le_of_ble_eq_true rfl) rfl (by first | exact Or.inl ⟨_, rfl⟩ | exact Or.inr ⟨_, rfl⟩) ?_
  intro p e R s m args below meth c Q ls hC hw hQ hl
  have hl : lv_has ls 1 [(0, .ref l0)] := hl
  exact X9_cells_W hC hQ hf hw hl

def X9_fail (E : gE) (l0 : Nat) (l1 : Int32) (σ : gS) : Option (Int32 × gS) :=
  ob (gpf E σ l0 7 1 (.int l1)) fun σ1 =>
  ob (gfR σ1 l0 7 0) fun x3 =>
  ob (gcl σ1 x3 5) fun _ =>
  ob (X6_offset_f E σ1 x3) fun x5 =>
  ob (gpf E σ1 l0 7 2 (.int x5)) fun σ8 =>
  some ((0 : Int32), σ8)
set_option maxHeartbeats 4000000 in
set_option maxRecDepth 100000 in
theorem X9_fail_W {σ : gS} {l0 : Nat} {l1 : Int32} {res : (Int32 × gS)} {ls : Array Slot} (hC : gC E D A p R s m args meth c cX9_fail 2 RX9 "fail" 1 20) (hQ : gQI E D A p l e R s m args below meth c Q cX9_fail FieldType.boolean res) (hf : X9_fail E l0 l1 σ = some res) (hw : gW E D A s σ H locs) (hl : lv_has ls 2 [(0, .ref l0), (1, .int l1)]) : W p l e R s m args below meth c H locs cells slots Q (F0 m 0 ls []) := by
  have hC0 := hC
  obtain ⟨hx, hb, hml, hown, hts, -⟩ := hC0
  unfold X9_fail at hf
  refine lv_aload_n hx hb dX9_fail_0 rfl (lv_at hl 0 rfl) ?_
  refine lv_iload_n hx hb dX9_fail_1 rfl (lv_at hl 1 rfl) ?_
  obtain ⟨σ1, h2, hf⟩ := ob_some hf
  refine p_fl_X9_30 hC hw h2 rfl rfl dX9_fail_2 (fun H locs hw => ?_)
  refine lv_aload_n hx hb dX9_fail_5 rfl (lv_at hl 0 rfl) ?_
  refine lv_aload_n hx hb dX9_fail_6 rfl (lv_at hl 0 rfl) ?_
  obtain ⟨x3, h4, hf⟩ := ob_some hf
  refine rR_fl_X9_25 hC hw h4 dX9_fail_7 ?_
  obtain ⟨_, h7, hf⟩ := ob_some hf
  obtain ⟨x5, h6, hf⟩ := ob_some hf
  refine gg_cVI (As := []) hC hw (X6_offset_M l E D A h6) h7 rfl g_ml_X9_78 hd_X6_offset (Nat.le_of_ble_eq_true rfl) (Nat.le_of_ble_eq_true rfl) hl.1 rfl (Nat.le_of_ble_eq_true rfl) dX9_fail_10 (fun H locs cells slots hw => ?_)
  obtain ⟨σ8, h9, hf⟩ := ob_some hf
  refine p_fl_X9_9 hC hw h9 rfl rfl dX9_fail_13 (fun H locs hw => ?_)
  refine lv_iconst (v := 0) hx hb dX9_fail_16 (by decide) ?_
  cases hf
  exact hQ _ _ _ _ _ _ dX9_fail_17 gz0 hw

def X9_fail_f (E : gE) (l0 : Nat) (l1 : Int32) (σ : gS) : Option (Int32 × gS) := X9_fail E l0 l1 σ
set_option maxRecDepth 100000 in
theorem X9_fail_M (l : Launch) (E : gE) (D : va_G) (A : Nat → Prop) {l0 : Nat} {l1 : Int32} {σ : gS} {res : (Int32 × gS)} (hf : X9_fail_f E l0 l1 σ = some res) : gCI l E D A yX9_fail cX9_fail 2 1 20 (some FieldType.boolean) [.ref l0, .int l1] σ res := by
  refine gg_entI (own := RX9) (nm := "fail") (ty := FieldType.boolean) (by decide +kernel) rfl rfl (Nat.le_of_ble_eq_true rfl) rfl ?_
  intro p e R s m args below meth c Q ls hC hw hQ hl
  have hl : lv_has ls 2 [(0, .ref l0), (1, .int l1)] := hl
  exact X9_fail_W hC hQ hf hw hl

def X9_failAtExtraRow_51 (E : gE) (s0 : Int32) (s1 : Nat) (σ : gS) : Option (Int32 × gS) :=
  ob (gcl σ s1 7) fun _ =>
  ob (X9_fail_f E s1 s0 σ) fun x1 =>
  ob (gz x1.1) fun _ =>
  some (x1.1, x1.2)
set_option maxHeartbeats 4000000 in
set_option maxRecDepth 100000 in
theorem X9_failAtExtraRow_51_W {σ : gS} {s0 : Int32} {s1 : Nat} {res : (Int32 × gS)} {ls : Array Slot} (hC : gC E D A p R s m args meth c cX9_failAtExtraRow 1 RX9 "failAtExtraRow" 2 41) (hQ : gQI E D A p l e R s m args below meth c Q cX9_failAtExtraRow FieldType.boolean res) (hf : X9_failAtExtraRow_51 E s0 s1 σ = some res) (hw : gW E D A s σ H locs) (hl : lv_has ls 1 []) : W p l e R s m args below meth c H locs cells slots Q (F0 m 51 ls [.int s0, .ref s1]) := by
  have hC0 := hC
  obtain ⟨hx, hb, hml, hown, hts, -⟩ := hC0
  unfold X9_failAtExtraRow_51 at hf
  obtain ⟨_, h3, hf⟩ := ob_some hf
  obtain ⟨x1, h2, hf⟩ := ob_some hf
  refine gg_cVI (As := [.int s0]) hC hw (X9_fail_M l E D A h2) h3 rfl g_ml_X9_100 hd_X9_fail (Nat.le_of_ble_eq_true rfl) (Nat.le_of_ble_eq_true rfl) hl.1 rfl (Nat.le_of_ble_eq_true rfl) dX9_failAtExtraRow_51 (fun H locs cells slots hw => ?_)
  obtain ⟨_, h4, hf⟩ := ob_some hf
  cases hf
  exact hQ _ _ _ _ _ _ dX9_failAtExtraRow_54 (gz_some h4) hw

def X9_failAtExtraRow (E : gE) (l0 : Nat) (σ : gS) : Option (Int32 × gS) :=
  ob (gfR σ l0 7 0) fun x5 =>
  ob (gcl σ x5 5) fun _ =>
  ob (X6_isMinus_f E σ x5) fun x7 =>
  if x7 = 0 then
    ob (gfR σ l0 7 0) fun x10 =>
    ob (gcl σ x10 5) fun _ =>
    ob (X6_isNumber_f E σ x10) fun x12 =>
    if x12 = 0 then
      ob (gcl σ l0 7) fun _ =>
      ob (X9_fail_f E l0 (1 : Int32) σ) fun x21 =>
      ob (gz x21.1) fun _ =>
      some (x21.1, x21.2)
    else
      ob (gfR σ l0 7 0) fun x15 =>
      ob (gcl σ x15 5) fun _ =>
      ob (X6_number_f E σ x15) fun x17 =>
      if x17 ≤ (9999 : Int32) then
        X9_failAtExtraRow_51 E (3 : Int32) l0 σ
      else
        X9_failAtExtraRow_51 E (2 : Int32) l0 σ
  else
    ob (gcl σ l0 7) fun _ =>
    ob (X9_fail_f E l0 (3 : Int32) σ) fun x26 =>
    ob (gz x26.1) fun _ =>
    some (x26.1, x26.2)
set_option maxHeartbeats 4000000 in
set_option maxRecDepth 100000 in
theorem X9_failAtExtraRow_W {σ : gS} {l0 : Nat} {res : (Int32 × gS)} {ls : Array Slot} (hC : gC E D A p R s m args meth c cX9_failAtExtraRow 1 RX9 "failAtExtraRow" 2 41) (hQ : gQI E D A p l e R s m args below meth c Q cX9_failAtExtraRow FieldType.boolean res) (hf : X9_failAtExtraRow E l0 σ = some res) (hw : gW E D A s σ H locs) (hl : lv_has ls 1 [(0, .ref l0)]) : W p l e R s m args below meth c H locs cells slots Q (F0 m 0 ls []) := by
  have hC0 := hC
  obtain ⟨hx, hb, hml, hown, hts, -⟩ := hC0
  unfold X9_failAtExtraRow at hf
  refine lv_aload_n hx hb dX9_failAtExtraRow_0 rfl (lv_at hl 0 rfl) ?_
  obtain ⟨x5, h6, hf⟩ := ob_some hf
  refine rR_fl_X9_25 hC hw h6 dX9_failAtExtraRow_1 ?_
  obtain ⟨_, h9, hf⟩ := ob_some hf
  obtain ⟨x7, h8, hf⟩ := ob_some hf
  refine gg_cVI (As := []) hC hw (X6_isMinus_M l E D A h8) h9 rfl g_ml_X9_97 hd_X6_isMinus (Nat.le_of_ble_eq_true rfl) (Nat.le_of_ble_eq_true rfl) hl.1 rfl (Nat.le_of_ble_eq_true rfl) dX9_failAtExtraRow_4 (fun H locs cells slots hw => ?_)
  refine lv_if_eq (tgt := 16) hx hb dX9_failAtExtraRow_7 (by decide) (fun c30 => ?_) (fun c30 => ?_)
  · replace hf := (if_pos c30).symm.trans hf
    refine lv_aload_n hx hb dX9_failAtExtraRow_16 rfl (lv_at hl 0 rfl) ?_
    obtain ⟨x10, h11, hf⟩ := ob_some hf
    refine rR_fl_X9_25 hC hw h11 dX9_failAtExtraRow_17 ?_
    obtain ⟨_, h14, hf⟩ := ob_some hf
    obtain ⟨x12, h13, hf⟩ := ob_some hf
    refine gg_cVI (As := []) hC hw (X6_isNumber_M l E D A h13) h14 rfl g_ml_X9_104 hd_X6_isNumber (Nat.le_of_ble_eq_true rfl) (Nat.le_of_ble_eq_true rfl) hl.1 rfl (Nat.le_of_ble_eq_true rfl) dX9_failAtExtraRow_20 (fun H locs cells slots hw => ?_)
    refine lv_if_ne (tgt := 32) hx hb dX9_failAtExtraRow_23 (by decide) (fun c25 => ?_) (fun c25 => ?_)
    · replace hf := (if_neg c25).symm.trans hf
      refine lv_aload_n hx hb dX9_failAtExtraRow_32 rfl (lv_at hl 0 rfl) ?_
      refine lv_aload_n hx hb dX9_failAtExtraRow_33 rfl (lv_at hl 0 rfl) ?_
      obtain ⟨x15, h16, hf⟩ := ob_some hf
      refine rR_fl_X9_25 hC hw h16 dX9_failAtExtraRow_34 ?_
      obtain ⟨_, h19, hf⟩ := ob_some hf
      obtain ⟨x17, h18, hf⟩ := ob_some hf
      refine gg_cVI (As := []) hC hw (X6_number_M l E D A h18) h19 rfl g_ml_X9_107 hd_X6_number (Nat.le_of_ble_eq_true rfl) (Nat.le_of_ble_eq_true rfl) hl.1 rfl (Nat.le_of_ble_eq_true rfl) dX9_failAtExtraRow_37 (fun H locs cells slots hw => ?_)
      refine lv_sipush (v := 9999) hx hb dX9_failAtExtraRow_40 (by decide) ?_
      refine lv_icmp_le (tgt := 50) hx hb dX9_failAtExtraRow_43 (by decide) (fun c20 => ?_) (fun c20 => ?_)
      · replace hf := (if_pos c20).symm.trans hf
        refine lv_iconst (v := 3) hx hb dX9_failAtExtraRow_50 (by decide) ?_
        exact X9_failAtExtraRow_51_W hC hQ hf hw (lv_sub hl [] rfl)
      · replace hf := (if_neg c20).symm.trans hf
        refine lv_iconst (v := 2) hx hb dX9_failAtExtraRow_46 (by decide) ?_
        refine lv_goto (tgt := 51) hx hb dX9_failAtExtraRow_47 (by decide) ?_
        exact X9_failAtExtraRow_51_W hC hQ hf hw (lv_sub hl [] rfl)
    · replace hf := (if_pos c25).symm.trans hf
      refine lv_aload_n hx hb dX9_failAtExtraRow_26 rfl (lv_at hl 0 rfl) ?_
      refine lv_iconst (v := 1) hx hb dX9_failAtExtraRow_27 (by decide) ?_
      obtain ⟨_, h23, hf⟩ := ob_some hf
      obtain ⟨x21, h22, hf⟩ := ob_some hf
      refine gg_cVI (As := [.int (1 : Int32)]) hC hw (X9_fail_M l E D A h22) h23 rfl g_ml_X9_100 hd_X9_fail (Nat.le_of_ble_eq_true rfl) (Nat.le_of_ble_eq_true rfl) hl.1 rfl (Nat.le_of_ble_eq_true rfl) dX9_failAtExtraRow_28 (fun H locs cells slots hw => ?_)
      obtain ⟨_, h24, hf⟩ := ob_some hf
      cases hf
      exact hQ _ _ _ _ _ _ dX9_failAtExtraRow_31 (gz_some h24) hw
  · replace hf := (if_neg c30).symm.trans hf
    refine lv_aload_n hx hb dX9_failAtExtraRow_10 rfl (lv_at hl 0 rfl) ?_
    refine lv_iconst (v := 3) hx hb dX9_failAtExtraRow_11 (by decide) ?_
    obtain ⟨_, h28, hf⟩ := ob_some hf
    obtain ⟨x26, h27, hf⟩ := ob_some hf
    refine gg_cVI (As := [.int (3 : Int32)]) hC hw (X9_fail_M l E D A h27) h28 rfl g_ml_X9_100 hd_X9_fail (Nat.le_of_ble_eq_true rfl) (Nat.le_of_ble_eq_true rfl) hl.1 rfl (Nat.le_of_ble_eq_true rfl) dX9_failAtExtraRow_12 (fun H locs cells slots hw => ?_)
    obtain ⟨_, h29, hf⟩ := ob_some hf
    cases hf
    exact hQ _ _ _ _ _ _ dX9_failAtExtraRow_15 (gz_some h29) hw

def X9_failAtExtraRow_f (E : gE) (l0 : Nat) (σ : gS) : Option (Int32 × gS) := X9_failAtExtraRow E l0 σ
set_option maxRecDepth 100000 in
theorem X9_failAtExtraRow_M (l : Launch) (E : gE) (D : va_G) (A : Nat → Prop) {l0 : Nat} {σ : gS} {res : (Int32 × gS)} (hf : X9_failAtExtraRow_f E l0 σ = some res) : gCI l E D A yX9_failAtExtraRow cX9_failAtExtraRow 1 2 41 (some FieldType.boolean) [.ref l0] σ res := by
  refine gg_entI (own := RX9) (nm := "failAtExtraRow") (ty := FieldType.boolean) (by decide +kernel) rfl rfl (Nat.le_of_ble_eq_true rfl) rfl ?_
  intro p e R s m args below meth c Q ls hC hw hQ hl
  have hl : lv_has ls 1 [(0, .ref l0)] := hl
  exact X9_failAtExtraRow_W hC hQ hf hw hl

def X9_takeEnd_18 (E : gE) (σ : gS) : Option (Int32 × gS) :=
  some ((1 : Int32), σ)
set_option maxHeartbeats 4000000 in
set_option maxRecDepth 100000 in
theorem X9_takeEnd_18_W {σ : gS} {res : (Int32 × gS)} {ls : Array Slot} (hC : gC E D A p R s m args meth c cX9_takeEnd 1 RX9 "takeEnd" 2 41) (hQ : gQI E D A p l e R s m args below meth c Q cX9_takeEnd FieldType.boolean res) (hf : X9_takeEnd_18 E σ = some res) (hw : gW E D A s σ H locs) (hl : lv_has ls 1 []) : W p l e R s m args below meth c H locs cells slots Q (F0 m 18 ls []) := by
  have hC0 := hC
  obtain ⟨hx, hb, hml, hown, hts, -⟩ := hC0
  unfold X9_takeEnd_18 at hf
  refine lv_iconst (v := 1) hx hb dX9_takeEnd_18 (by decide) ?_
  refine lv_goto (tgt := 23) hx hb dX9_takeEnd_19 (by decide) ?_
  cases hf
  exact hQ _ _ _ _ _ _ dX9_takeEnd_23 gz1 hw

def X9_takeEnd (E : gE) (l0 : Nat) (σ : gS) : Option (Int32 × gS) :=
  ob (gfR σ l0 7 0) fun x1 =>
  ob (gcl σ x1 5) fun _ =>
  ob (X6_isAtEnd_f E σ x1) fun x3 =>
  if x3 = 0 then
    ob (gcl σ l0 7) fun _ =>
    ob (X9_fail_f E l0 (1 : Int32) σ) fun x6 =>
    if x6.1 = 0 then
      some ((0 : Int32), x6.2)
    else
      X9_takeEnd_18 E x6.2
  else
    X9_takeEnd_18 E σ
set_option maxHeartbeats 4000000 in
set_option maxRecDepth 100000 in
theorem X9_takeEnd_W {σ : gS} {l0 : Nat} {res : (Int32 × gS)} {ls : Array Slot} (hC : gC E D A p R s m args meth c cX9_takeEnd 1 RX9 "takeEnd" 2 41) (hQ : gQI E D A p l e R s m args below meth c Q cX9_takeEnd FieldType.boolean res) (hf : X9_takeEnd E l0 σ = some res) (hw : gW E D A s σ H locs) (hl : lv_has ls 1 [(0, .ref l0)]) : W p l e R s m args below meth c H locs cells slots Q (F0 m 0 ls []) := by
  have hC0 := hC
  obtain ⟨hx, hb, hml, hown, hts, -⟩ := hC0
  unfold X9_takeEnd at hf
  refine lv_aload_n hx hb dX9_takeEnd_0 rfl (lv_at hl 0 rfl) ?_
  obtain ⟨x1, h2, hf⟩ := ob_some hf
  refine rR_fl_X9_25 hC hw h2 dX9_takeEnd_1 ?_
  obtain ⟨_, h5, hf⟩ := ob_some hf
  obtain ⟨x3, h4, hf⟩ := ob_some hf
  refine gg_cVI (As := []) hC hw (X6_isAtEnd_M l E D A h4) h5 rfl g_ml_X9_50 hd_X6_isAtEnd (Nat.le_of_ble_eq_true rfl) (Nat.le_of_ble_eq_true rfl) hl.1 rfl (Nat.le_of_ble_eq_true rfl) dX9_takeEnd_4 (fun H locs cells slots hw => ?_)
  refine lv_if_ne (tgt := 18) hx hb dX9_takeEnd_7 (by decide) (fun c10 => ?_) (fun c10 => ?_)
  · replace hf := (if_neg c10).symm.trans hf
    exact X9_takeEnd_18_W hC hQ hf hw (lv_sub hl [] rfl)
  · replace hf := (if_pos c10).symm.trans hf
    refine lv_aload_n hx hb dX9_takeEnd_10 rfl (lv_at hl 0 rfl) ?_
    refine lv_iconst (v := 1) hx hb dX9_takeEnd_11 (by decide) ?_
    obtain ⟨_, h8, hf⟩ := ob_some hf
    obtain ⟨x6, h7, hf⟩ := ob_some hf
    refine gg_cVI (As := [.int (1 : Int32)]) hC hw (X9_fail_M l E D A h7) h8 rfl g_ml_X9_100 hd_X9_fail (Nat.le_of_ble_eq_true rfl) (Nat.le_of_ble_eq_true rfl) hl.1 rfl (Nat.le_of_ble_eq_true rfl) dX9_takeEnd_12 (fun H locs cells slots hw => ?_)
    refine lv_if_eq (tgt := 22) hx hb dX9_takeEnd_15 (by decide) (fun c9 => ?_) (fun c9 => ?_)
    · replace hf := (if_pos c9).symm.trans hf
      refine lv_iconst (v := 0) hx hb dX9_takeEnd_22 (by decide) ?_
      cases hf
      exact hQ _ _ _ _ _ _ dX9_takeEnd_23 gz0 hw
    · replace hf := (if_neg c9).symm.trans hf
      exact X9_takeEnd_18_W hC hQ hf hw (lv_sub hl [] rfl)

def X9_takeEnd_f (E : gE) (l0 : Nat) (σ : gS) : Option (Int32 × gS) := X9_takeEnd E l0 σ
set_option maxRecDepth 100000 in
theorem X9_takeEnd_M (l : Launch) (E : gE) (D : va_G) (A : Nat → Prop) {l0 : Nat} {σ : gS} {res : (Int32 × gS)} (hf : X9_takeEnd_f E l0 σ = some res) : gCI l E D A yX9_takeEnd cX9_takeEnd 1 2 41 (some FieldType.boolean) [.ref l0] σ res := by
  refine gg_entI (own := RX9) (nm := "takeEnd") (ty := FieldType.boolean) (by decide +kernel) rfl rfl (Nat.le_of_ble_eq_true rfl) rfl ?_
  intro p e R s m args below meth c Q ls hC hw hQ hl
  have hl : lv_has ls 1 [(0, .ref l0)] := hl
  exact X9_takeEnd_W hC hQ hf hw hl

def X6_next_172 (E : gE) (r_108 : Nat → Int32 → gS → Option gS) (l0 : Nat) (l2 : Int32) (σ : gS) : Option gS :=
  ob (gfI σ l0 5 5) fun x1 =>
  ob (gpf E σ l0 5 5 (.int (x1 + (1 : Int32)))) fun σ3 =>
  r_108 l0 l2 σ3
set_option maxHeartbeats 4000000 in
set_option maxRecDepth 100000 in
theorem X6_next_172_W {σ : gS} {l0 : Nat} {l2 : Int32} {σz : gS} {ls : Array Slot} (hC : gC E D A p R s m args meth c cX6_next 3 RX6 "next" 3 80) (hQ : gQV E D A p l e R s m args below meth c Q cX6_next σz) {r_108 : Nat → Int32 → gS → Option gS} (h_108 : ∀ {l0 : Nat} {l2 : Int32} {σ : gS} {H : Heap} {locs : List Loc} {cells slots : Nat} {ls : Array Slot}, r_108 l0 l2 σ = some σz → gW E D A s σ H locs → lv_has ls 3 [(0, .ref l0), (2, .int l2)] → W p l e R s m args below meth c H locs cells slots Q (F0 m 108 ls [])) (hf : X6_next_172 E r_108 l0 l2 σ = some σz) (hw : gW E D A s σ H locs) (hl : lv_has ls 3 [(0, .ref l0), (2, .int l2)]) : W p l e R s m args below meth c H locs cells slots Q (F0 m 172 ls []) := by
  have hC0 := hC
  obtain ⟨hx, hb, hml, hown, hts, -⟩ := hC0
  unfold X6_next_172 at hf
  refine lv_aload_n hx hb dX6_next_172 rfl (lv_at hl 0 rfl) ?_
  refine lv_dup hx hb dX6_next_173 rfl ?_
  obtain ⟨x1, h2, hf⟩ := ob_some hf
  refine rI_fl_X6_28 hC hw h2 dX6_next_174 ?_
  refine lv_iconst (v := 1) hx hb dX6_next_177 (by decide) ?_
  refine lv_iadd hx hb dX6_next_178 ?_
  obtain ⟨σ3, h4, hf⟩ := ob_some hf
  refine p_fl_X6_28 hC hw h4 rfl rfl dX6_next_179 (fun H locs hw => ?_)
  refine lv_goto (tgt := 108) hx hb dX6_next_182 (by decide) ?_
  exact h_108 hf hw (lv_sub hl [0, 1] rfl)

def X6_next_108_s (E : gE) (r_108 : Nat → Int32 → gS → Option gS) (l0 : Nat) (l2 : Int32) (σ : gS) : Option gS :=
  ob (gfI σ l0 5 5) fun x5 =>
  if l2 ≤ x5 then
    some σ
  else
    ob (gfI σ l0 5 5) fun x7 =>
    ob (gcl σ l0 5) fun _ =>
    ob (X6_kindAt_f E σ l0 x7) fun x9 =>
    ob (gfI σ l0 5 3) fun x12 =>
    if x9 = x12 then
      ob (gfI σ l0 5 3) fun x14 =>
      if x14 = (3 : Int32) then
        ob (gfI σ l0 5 6) fun x16 =>
        if (100000 : Int32) ≤ x16 then
          X6_next_172 E r_108 l0 l2 σ
        else
          ob (gfI σ l0 5 6) fun x18 =>
          ob (gfR σ l0 5 0) fun x20 =>
          ob (gfI σ l0 5 5) fun x22 =>
          ob (graI E 1 σ x20 x22) fun x24 =>
          ob (gpf E σ l0 5 6 (.int ((((10 : Int32) * x18) + x24) - (48 : Int32)))) fun σ26 =>
          X6_next_172 E r_108 l0 l2 σ26
      else
        X6_next_172 E r_108 l0 l2 σ
    else
      some σ
set_option maxHeartbeats 4000000 in
set_option maxRecDepth 100000 in
theorem X6_next_108_s_W {σ : gS} {l0 : Nat} {l2 : Int32} {σz : gS} {ls : Array Slot} (hC : gC E D A p R s m args meth c cX6_next 3 RX6 "next" 3 80) (hQ : gQV E D A p l e R s m args below meth c Q cX6_next σz) {r_108 : Nat → Int32 → gS → Option gS} (h_108 : ∀ {l0 : Nat} {l2 : Int32} {σ : gS} {H : Heap} {locs : List Loc} {cells slots : Nat} {ls : Array Slot}, r_108 l0 l2 σ = some σz → gW E D A s σ H locs → lv_has ls 3 [(0, .ref l0), (2, .int l2)] → W p l e R s m args below meth c H locs cells slots Q (F0 m 108 ls [])) (hf : X6_next_108_s E r_108 l0 l2 σ = some σz) (hw : gW E D A s σ H locs) (hl : lv_has ls 3 [(0, .ref l0), (2, .int l2)]) : W p l e R s m args below meth c H locs cells slots Q (F0 m 108 ls []) := by
  have hC0 := hC
  obtain ⟨hx, hb, hml, hown, hts, -⟩ := hC0
  unfold X6_next_108_s at hf
  refine lv_aload_n hx hb dX6_next_108 rfl (lv_at hl 0 rfl) ?_
  obtain ⟨x5, h6, hf⟩ := ob_some hf
  refine rI_fl_X6_28 hC hw h6 dX6_next_109 ?_
  refine lv_iload_n hx hb dX6_next_112 rfl (lv_at hl 1 rfl) ?_
  refine lv_icmp_ge (tgt := 185) hx hb dX6_next_113 (by decide) (fun c31 => ?_) (fun c31 => ?_)
  · replace hf := (if_pos c31).symm.trans hf
    cases hf
    exact hQ _ _ _ _ _ _ dX6_next_185 hw
  · replace hf := (if_neg c31).symm.trans hf
    refine lv_aload_n hx hb dX6_next_116 rfl (lv_at hl 0 rfl) ?_
    refine lv_aload_n hx hb dX6_next_117 rfl (lv_at hl 0 rfl) ?_
    obtain ⟨x7, h8, hf⟩ := ob_some hf
    refine rI_fl_X6_28 hC hw h8 dX6_next_118 ?_
    obtain ⟨_, h11, hf⟩ := ob_some hf
    obtain ⟨x9, h10, hf⟩ := ob_some hf
    refine gg_cVI (As := [.int x7]) hC hw (X6_kindAt_M l E D A h10) h11 rfl g_ml_X6_34 hd_X6_kindAt (Nat.le_of_ble_eq_true rfl) (Nat.le_of_ble_eq_true rfl) hl.1 rfl (Nat.le_of_ble_eq_true rfl) dX6_next_121 (fun H locs cells slots hw => ?_)
    refine lv_aload_n hx hb dX6_next_124 rfl (lv_at hl 0 rfl) ?_
    obtain ⟨x12, h13, hf⟩ := ob_some hf
    refine rI_fl_X6_41 hC hw h13 dX6_next_125 ?_
    refine lv_icmp_ne (tgt := 185) hx hb dX6_next_128 (by decide) (fun c30 => ?_) (fun c30 => ?_)
    · replace hf := (if_neg c30).symm.trans hf
      cases hf
      exact hQ _ _ _ _ _ _ dX6_next_185 hw
    · replace hf := (if_pos c30).symm.trans hf
      refine lv_aload_n hx hb dX6_next_131 rfl (lv_at hl 0 rfl) ?_
      obtain ⟨x14, h15, hf⟩ := ob_some hf
      refine rI_fl_X6_41 hC hw h15 dX6_next_132 ?_
      refine lv_iconst (v := 3) hx hb dX6_next_135 (by decide) ?_
      refine lv_icmp_ne (tgt := 172) hx hb dX6_next_136 (by decide) (fun c29 => ?_) (fun c29 => ?_)
      · replace hf := (if_neg c29).symm.trans hf
        exact X6_next_172_W hC hQ h_108 hf hw (lv_sub hl [0, 1] rfl)
      · replace hf := (if_pos c29).symm.trans hf
        refine lv_aload_n hx hb dX6_next_139 rfl (lv_at hl 0 rfl) ?_
        obtain ⟨x16, h17, hf⟩ := ob_some hf
        refine rI_fl_X6_44 hC hw h17 dX6_next_140 ?_
        refine lv_ldc (v := 100000) hx hb hown (hts _ kc_X6_47) dX6_next_143 ?_
        refine lv_icmp_ge (tgt := 172) hx hb dX6_next_145 (by decide) (fun c28 => ?_) (fun c28 => ?_)
        · replace hf := (if_pos c28).symm.trans hf
          exact X6_next_172_W hC hQ h_108 hf hw (lv_sub hl [0, 1] rfl)
        · replace hf := (if_neg c28).symm.trans hf
          refine lv_aload_n hx hb dX6_next_148 rfl (lv_at hl 0 rfl) ?_
          refine lv_bipush (v := 10) hx hb dX6_next_149 (by decide) ?_
          refine lv_aload_n hx hb dX6_next_151 rfl (lv_at hl 0 rfl) ?_
          obtain ⟨x18, h19, hf⟩ := ob_some hf
          refine rI_fl_X6_44 hC hw h19 dX6_next_152 ?_
          refine lv_imul hx hb dX6_next_155 ?_
          refine lv_aload_n hx hb dX6_next_156 rfl (lv_at hl 0 rfl) ?_
          obtain ⟨x20, h21, hf⟩ := ob_some hf
          refine rR_fl_X6_9 hC hw h21 dX6_next_157 ?_
          refine lv_aload_n hx hb dX6_next_160 rfl (lv_at hl 0 rfl) ?_
          obtain ⟨x22, h23, hf⟩ := ob_some hf
          refine rI_fl_X6_28 hC hw h23 dX6_next_161 ?_
          obtain ⟨x24, h25, hf⟩ := ob_some hf
          refine gg_aldB hC hw h25 dX6_next_164 ?_
          refine lv_iadd hx hb dX6_next_165 ?_
          refine lv_bipush (v := 48) hx hb dX6_next_166 (by decide) ?_
          refine lv_isub hx hb dX6_next_168 ?_
          obtain ⟨σ26, h27, hf⟩ := ob_some hf
          refine p_fl_X6_44 hC hw h27 rfl rfl dX6_next_169 (fun H locs hw => ?_)
          exact X6_next_172_W hC hQ h_108 hf hw (lv_sub hl [0, 1] rfl)
def X6_next_108 (E : gE) : Nat → Nat → Int32 → gS → Option gS
  | 0 => fun _ _ _ => none
  | n + 1 => X6_next_108_s E (X6_next_108 E n)
theorem X6_next_108_W {σz : gS} (hC : gC E D A p R s m args meth c cX6_next 3 RX6 "next" 3 80) (hQ : gQV E D A p l e R s m args below meth c Q cX6_next σz) : ∀ (n : Nat), ∀ {l0 : Nat} {l2 : Int32} {σ : gS} {H : Heap} {locs : List Loc} {cells slots : Nat} {ls : Array Slot}, X6_next_108 E n l0 l2 σ = some σz → gW E D A s σ H locs → lv_has ls 3 [(0, .ref l0), (2, .int l2)] → W p l e R s m args below meth c H locs cells slots Q (F0 m 108 ls []) := by
  intro n
  induction n with
  | zero =>
    intros
    rename_i hf _ _
    exact absurd hf (fun h => by cases (show (none : Option gS) = some σz from h))
  | succ n ih =>
    intros
    rename_i hf hw hl
    exact X6_next_108_s_W hC hQ ih hf hw hl

def X6_next_107 (E : gE) (l0 : Nat) (s0 : Int32) (σ : gS) : Option gS :=
  X6_next_108 E (gN E) l0 s0 σ
set_option maxHeartbeats 4000000 in
set_option maxRecDepth 100000 in
theorem X6_next_107_W {σ : gS} {l0 : Nat} {s0 : Int32} {σz : gS} {ls : Array Slot} (hC : gC E D A p R s m args meth c cX6_next 3 RX6 "next" 3 80) (hQ : gQV E D A p l e R s m args below meth c Q cX6_next σz) (hf : X6_next_107 E l0 s0 σ = some σz) (hw : gW E D A s σ H locs) (hl : lv_has ls 3 [(0, .ref l0)]) : W p l e R s m args below meth c H locs cells slots Q (F0 m 107 ls [.int s0]) := by
  have hC0 := hC
  obtain ⟨hx, hb, hml, hown, hts, -⟩ := hC0
  unfold X6_next_107 at hf
  refine lv_istore_n (lv' := [(2, .int s0), (0, .ref l0)]) hx hb dX6_next_107 rfl hl (by decide) rfl (fun ls hl => ?_)
  exact X6_next_108_W hC hQ (gN E) hf hw (lv_sub hl [1, 0] rfl)

def X6_next_82 (E : gE) (l0 : Nat) (s0 : Int32) (σ : gS) : Option gS :=
  if s0 = 0 then
    ob (gfI σ l0 5 4) fun x32 =>
    ob (gfI σ l0 5 2) fun x34 =>
    X6_next_107 E l0 (gmin (x32 + (1 : Int32)) x34) σ
  else
    ob (gfI σ l0 5 2) fun x38 =>
    X6_next_107 E l0 x38 σ
set_option maxHeartbeats 4000000 in
set_option maxRecDepth 100000 in
theorem X6_next_82_W {σ : gS} {l0 : Nat} {s0 : Int32} {σz : gS} {ls : Array Slot} (hC : gC E D A p R s m args meth c cX6_next 3 RX6 "next" 3 80) (hQ : gQV E D A p l e R s m args below meth c Q cX6_next σz) (hf : X6_next_82 E l0 s0 σ = some σz) (hw : gW E D A s σ H locs) (hl : lv_has ls 3 [(0, .ref l0)]) : W p l e R s m args below meth c H locs cells slots Q (F0 m 82 ls [.int s0]) := by
  have hC0 := hC
  obtain ⟨hx, hb, hml, hown, hts, -⟩ := hC0
  unfold X6_next_82 at hf
  refine lv_istore_n (lv' := [(1, .int s0), (0, .ref l0)]) hx hb dX6_next_82 rfl hl (by decide) rfl (fun ls hl => ?_)
  refine lv_iload_n hx hb dX6_next_83 rfl (lv_at hl 0 rfl) ?_
  refine lv_if_eq (tgt := 94) hx hb dX6_next_84 (by decide) (fun c40 => ?_) (fun c40 => ?_)
  · replace hf := (if_pos c40).symm.trans hf
    refine lv_aload_n hx hb dX6_next_94 rfl (lv_at hl 1 rfl) ?_
    obtain ⟨x32, h33, hf⟩ := ob_some hf
    refine rI_fl_X6_38 hC hw h33 dX6_next_95 ?_
    refine lv_iconst (v := 1) hx hb dX6_next_98 (by decide) ?_
    refine lv_iadd hx hb dX6_next_99 ?_
    refine lv_aload_n hx hb dX6_next_100 rfl (lv_at hl 1 rfl) ?_
    obtain ⟨x34, h35, hf⟩ := ob_some hf
    refine rI_fl_X6_25 hC hw h35 dX6_next_101 ?_
    refine gg_mmin hC hw ml_X6_19 rfl hl.1 (Nat.le_of_ble_eq_true rfl) (Nat.le_of_ble_eq_true rfl) (Nat.le_of_ble_eq_true rfl) dX6_next_104 (fun cells slots => ?_)
    exact X6_next_107_W hC hQ hf hw (lv_sub hl [1] rfl)
  · replace hf := (if_neg c40).symm.trans hf
    refine lv_aload_n hx hb dX6_next_87 rfl (lv_at hl 1 rfl) ?_
    obtain ⟨x38, h39, hf⟩ := ob_some hf
    refine rI_fl_X6_25 hC hw h39 dX6_next_88 ?_
    refine lv_goto (tgt := 107) hx hb dX6_next_91 (by decide) ?_
    exact X6_next_107_W hC hQ hf hw (lv_sub hl [1] rfl)

def X6_next_77 (E : gE) (l0 : Nat) (σ : gS) : Option gS :=
  X6_next_82 E l0 (1 : Int32) σ
set_option maxHeartbeats 4000000 in
set_option maxRecDepth 100000 in
theorem X6_next_77_W {σ : gS} {l0 : Nat} {σz : gS} {ls : Array Slot} (hC : gC E D A p R s m args meth c cX6_next 3 RX6 "next" 3 80) (hQ : gQV E D A p l e R s m args below meth c Q cX6_next σz) (hf : X6_next_77 E l0 σ = some σz) (hw : gW E D A s σ H locs) (hl : lv_has ls 3 [(0, .ref l0)]) : W p l e R s m args below meth c H locs cells slots Q (F0 m 77 ls []) := by
  have hC0 := hC
  obtain ⟨hx, hb, hml, hown, hts, -⟩ := hC0
  unfold X6_next_77 at hf
  refine lv_iconst (v := 1) hx hb dX6_next_77 (by decide) ?_
  refine lv_goto (tgt := 82) hx hb dX6_next_78 (by decide) ?_
  exact X6_next_82_W hC hQ hf hw (lv_sub hl [0] rfl)

def X6_next_36 (E : gE) (l0 : Nat) (σ : gS) : Option gS :=
  ob (gfI σ l0 5 5) fun x41 =>
  ob (gpf E σ l0 5 4 (.int x41)) fun σ43 =>
  ob (gfI σ43 l0 5 4) fun x45 =>
  ob (gcl σ43 l0 5) fun _ =>
  ob (X6_kindAt_f E σ43 l0 x45) fun x47 =>
  ob (gpf E σ43 l0 5 3 (.int x47)) fun σ50 =>
  ob (gpf E σ50 l0 5 6 (.int (0 : Int32))) fun σ52 =>
  ob (gfI σ52 l0 5 3) fun x54 =>
  if x54 = (2 : Int32) then
    X6_next_77 E l0 σ52
  else
    ob (gfI σ52 l0 5 3) fun x56 =>
    if x56 = (3 : Int32) then
      X6_next_77 E l0 σ52
    else
      X6_next_82 E l0 (0 : Int32) σ52
set_option maxHeartbeats 4000000 in
set_option maxRecDepth 100000 in
theorem X6_next_36_W {σ : gS} {l0 : Nat} {σz : gS} {ls : Array Slot} (hC : gC E D A p R s m args meth c cX6_next 3 RX6 "next" 3 80) (hQ : gQV E D A p l e R s m args below meth c Q cX6_next σz) (hf : X6_next_36 E l0 σ = some σz) (hw : gW E D A s σ H locs) (hl : lv_has ls 3 [(0, .ref l0)]) : W p l e R s m args below meth c H locs cells slots Q (F0 m 36 ls []) := by
  have hC0 := hC
  obtain ⟨hx, hb, hml, hown, hts, -⟩ := hC0
  unfold X6_next_36 at hf
  refine lv_aload_n hx hb dX6_next_36 rfl (lv_at hl 0 rfl) ?_
  refine lv_aload_n hx hb dX6_next_37 rfl (lv_at hl 0 rfl) ?_
  obtain ⟨x41, h42, hf⟩ := ob_some hf
  refine rI_fl_X6_28 hC hw h42 dX6_next_38 ?_
  obtain ⟨σ43, h44, hf⟩ := ob_some hf
  refine p_fl_X6_38 hC hw h44 rfl rfl dX6_next_41 (fun H locs hw => ?_)
  refine lv_aload_n hx hb dX6_next_44 rfl (lv_at hl 0 rfl) ?_
  refine lv_aload_n hx hb dX6_next_45 rfl (lv_at hl 0 rfl) ?_
  refine lv_aload_n hx hb dX6_next_46 rfl (lv_at hl 0 rfl) ?_
  obtain ⟨x45, h46, hf⟩ := ob_some hf
  refine rI_fl_X6_38 hC hw h46 dX6_next_47 ?_
  obtain ⟨_, h49, hf⟩ := ob_some hf
  obtain ⟨x47, h48, hf⟩ := ob_some hf
  refine gg_cVI (As := [.int x45]) hC hw (X6_kindAt_M l E D A h48) h49 rfl g_ml_X6_34 hd_X6_kindAt (Nat.le_of_ble_eq_true rfl) (Nat.le_of_ble_eq_true rfl) hl.1 rfl (Nat.le_of_ble_eq_true rfl) dX6_next_50 (fun H locs cells slots hw => ?_)
  obtain ⟨σ50, h51, hf⟩ := ob_some hf
  refine p_fl_X6_41 hC hw h51 rfl rfl dX6_next_53 (fun H locs hw => ?_)
  refine lv_aload_n hx hb dX6_next_56 rfl (lv_at hl 0 rfl) ?_
  refine lv_iconst (v := 0) hx hb dX6_next_57 (by decide) ?_
  obtain ⟨σ52, h53, hf⟩ := ob_some hf
  refine p_fl_X6_44 hC hw h53 rfl rfl dX6_next_58 (fun H locs hw => ?_)
  refine lv_aload_n hx hb dX6_next_61 rfl (lv_at hl 0 rfl) ?_
  obtain ⟨x54, h55, hf⟩ := ob_some hf
  refine rI_fl_X6_41 hC hw h55 dX6_next_62 ?_
  refine lv_iconst (v := 2) hx hb dX6_next_65 (by decide) ?_
  refine lv_icmp_eq (tgt := 77) hx hb dX6_next_66 (by decide) (fun c59 => ?_) (fun c59 => ?_)
  · replace hf := (if_pos c59).symm.trans hf
    exact X6_next_77_W hC hQ hf hw (lv_sub hl [0] rfl)
  · replace hf := (if_neg c59).symm.trans hf
    refine lv_aload_n hx hb dX6_next_69 rfl (lv_at hl 0 rfl) ?_
    obtain ⟨x56, h57, hf⟩ := ob_some hf
    refine rI_fl_X6_41 hC hw h57 dX6_next_70 ?_
    refine lv_iconst (v := 3) hx hb dX6_next_73 (by decide) ?_
    refine lv_icmp_ne (tgt := 81) hx hb dX6_next_74 (by decide) (fun c58 => ?_) (fun c58 => ?_)
    · replace hf := (if_neg c58).symm.trans hf
      refine lv_iconst (v := 0) hx hb dX6_next_81 (by decide) ?_
      exact X6_next_82_W hC hQ hf hw (lv_sub hl [0] rfl)
    · replace hf := (if_pos c58).symm.trans hf
      exact X6_next_77_W hC hQ hf hw (lv_sub hl [0] rfl)

def X6_next_0_s (E : gE) (r_0 : Nat → gS → Option gS) (l0 : Nat) (σ : gS) : Option gS :=
  ob (gfI σ l0 5 5) fun x60 =>
  ob (gfI σ l0 5 2) fun x62 =>
  if x62 ≤ x60 then
    X6_next_36 E l0 σ
  else
    ob (gfI σ l0 5 5) fun x64 =>
    ob (gcl σ l0 5) fun _ =>
    ob (X6_kindAt_f E σ l0 x64) fun x66 =>
    if x66 = (1 : Int32) then
      ob (gfI σ l0 5 5) fun x69 =>
      ob (gpf E σ l0 5 5 (.int (x69 + (1 : Int32)))) fun σ71 =>
      r_0 l0 σ71
    else
      X6_next_36 E l0 σ
set_option maxHeartbeats 4000000 in
set_option maxRecDepth 100000 in
theorem X6_next_0_s_W {σ : gS} {l0 : Nat} {σz : gS} {ls : Array Slot} (hC : gC E D A p R s m args meth c cX6_next 3 RX6 "next" 3 80) (hQ : gQV E D A p l e R s m args below meth c Q cX6_next σz) {r_0 : Nat → gS → Option gS} (h_0 : ∀ {l0 : Nat} {σ : gS} {H : Heap} {locs : List Loc} {cells slots : Nat} {ls : Array Slot}, r_0 l0 σ = some σz → gW E D A s σ H locs → lv_has ls 3 [(0, .ref l0)] → W p l e R s m args below meth c H locs cells slots Q (F0 m 0 ls [])) (hf : X6_next_0_s E r_0 l0 σ = some σz) (hw : gW E D A s σ H locs) (hl : lv_has ls 3 [(0, .ref l0)]) : W p l e R s m args below meth c H locs cells slots Q (F0 m 0 ls []) := by
  have hC0 := hC
  obtain ⟨hx, hb, hml, hown, hts, -⟩ := hC0
  unfold X6_next_0_s at hf
  refine lv_aload_n hx hb dX6_next_0 rfl (lv_at hl 0 rfl) ?_
  obtain ⟨x60, h61, hf⟩ := ob_some hf
  refine rI_fl_X6_28 hC hw h61 dX6_next_1 ?_
  refine lv_aload_n hx hb dX6_next_4 rfl (lv_at hl 0 rfl) ?_
  obtain ⟨x62, h63, hf⟩ := ob_some hf
  refine rI_fl_X6_25 hC hw h63 dX6_next_5 ?_
  refine lv_icmp_ge (tgt := 36) hx hb dX6_next_8 (by decide) (fun c74 => ?_) (fun c74 => ?_)
  · replace hf := (if_pos c74).symm.trans hf
    exact X6_next_36_W hC hQ hf hw (lv_sub hl [0] rfl)
  · replace hf := (if_neg c74).symm.trans hf
    refine lv_aload_n hx hb dX6_next_11 rfl (lv_at hl 0 rfl) ?_
    refine lv_aload_n hx hb dX6_next_12 rfl (lv_at hl 0 rfl) ?_
    obtain ⟨x64, h65, hf⟩ := ob_some hf
    refine rI_fl_X6_28 hC hw h65 dX6_next_13 ?_
    obtain ⟨_, h68, hf⟩ := ob_some hf
    obtain ⟨x66, h67, hf⟩ := ob_some hf
    refine gg_cVI (As := [.int x64]) hC hw (X6_kindAt_M l E D A h67) h68 rfl g_ml_X6_34 hd_X6_kindAt (Nat.le_of_ble_eq_true rfl) (Nat.le_of_ble_eq_true rfl) hl.1 rfl (Nat.le_of_ble_eq_true rfl) dX6_next_16 (fun H locs cells slots hw => ?_)
    refine lv_iconst (v := 1) hx hb dX6_next_19 (by decide) ?_
    refine lv_icmp_ne (tgt := 36) hx hb dX6_next_20 (by decide) (fun c73 => ?_) (fun c73 => ?_)
    · replace hf := (if_neg c73).symm.trans hf
      exact X6_next_36_W hC hQ hf hw (lv_sub hl [0] rfl)
    · replace hf := (if_pos c73).symm.trans hf
      refine lv_aload_n hx hb dX6_next_23 rfl (lv_at hl 0 rfl) ?_
      refine lv_dup hx hb dX6_next_24 rfl ?_
      obtain ⟨x69, h70, hf⟩ := ob_some hf
      refine rI_fl_X6_28 hC hw h70 dX6_next_25 ?_
      refine lv_iconst (v := 1) hx hb dX6_next_28 (by decide) ?_
      refine lv_iadd hx hb dX6_next_29 ?_
      obtain ⟨σ71, h72, hf⟩ := ob_some hf
      refine p_fl_X6_28 hC hw h72 rfl rfl dX6_next_30 (fun H locs hw => ?_)
      refine lv_goto (tgt := 0) hx hb dX6_next_33 (by decide) ?_
      exact h_0 hf hw (lv_sub hl [0] rfl)
def X6_next_0 (E : gE) : Nat → Nat → gS → Option gS
  | 0 => fun _ _ => none
  | n + 1 => X6_next_0_s E (X6_next_0 E n)
theorem X6_next_0_W {σz : gS} (hC : gC E D A p R s m args meth c cX6_next 3 RX6 "next" 3 80) (hQ : gQV E D A p l e R s m args below meth c Q cX6_next σz) : ∀ (n : Nat), ∀ {l0 : Nat} {σ : gS} {H : Heap} {locs : List Loc} {cells slots : Nat} {ls : Array Slot}, X6_next_0 E n l0 σ = some σz → gW E D A s σ H locs → lv_has ls 3 [(0, .ref l0)] → W p l e R s m args below meth c H locs cells slots Q (F0 m 0 ls []) := by
  intro n
  induction n with
  | zero =>
    intros
    rename_i hf _ _
    exact absurd hf (fun h => by cases (show (none : Option gS) = some σz from h))
  | succ n ih =>
    intros
    rename_i hf hw hl
    exact X6_next_0_s_W hC hQ ih hf hw hl

def X6_next_f (E : gE) (l0 : Nat) (σ : gS) : Option gS := X6_next_0 E (gN E) l0 σ
set_option maxRecDepth 100000 in
theorem X6_next_M (l : Launch) (E : gE) (D : va_G) (A : Nat → Prop) {l0 : Nat} {σ : gS} {σz : gS} (hf : X6_next_f E l0 σ = some σz) : gCV l E D A yX6_next cX6_next 3 3 80 none [.ref l0] σ σz := by
  refine gg_entV (own := RX6) (nm := "next") (by decide +kernel) rfl rfl (Nat.le_of_ble_eq_true rfl) rfl ?_
  intro p e R s m args below meth c Q ls hC hw hQ hl
  have hl : lv_has ls 3 [(0, .ref l0)] := hl
  exact X6_next_0_W hC hQ (gN E) hf hw hl

def X9_takeNumber_38 (E : gE) (l0 : Nat) (σ : gS) : Option (Int32 × gS) :=
  ob (gcl σ l0 7) fun _ =>
  ob (X9_fail_f E l0 (2 : Int32) σ) fun x1 =>
  ob (gz x1.1) fun _ =>
  some (x1.1, x1.2)
set_option maxHeartbeats 4000000 in
set_option maxRecDepth 100000 in
theorem X9_takeNumber_38_W {σ : gS} {l0 : Nat} {res : (Int32 × gS)} {ls : Array Slot} (hC : gC E D A p R s m args meth c cX9_takeNumber 3 RX9 "takeNumber" 4 102) (hQ : gQI E D A p l e R s m args below meth c Q cX9_takeNumber FieldType.boolean res) (hf : X9_takeNumber_38 E l0 σ = some res) (hw : gW E D A s σ H locs) (hl : lv_has ls 3 [(0, .ref l0)]) : W p l e R s m args below meth c H locs cells slots Q (F0 m 38 ls []) := by
  have hC0 := hC
  obtain ⟨hx, hb, hml, hown, hts, -⟩ := hC0
  unfold X9_takeNumber_38 at hf
  refine lv_aload_n hx hb dX9_takeNumber_38 rfl (lv_at hl 0 rfl) ?_
  refine lv_iconst (v := 2) hx hb dX9_takeNumber_39 (by decide) ?_
  obtain ⟨_, h3, hf⟩ := ob_some hf
  obtain ⟨x1, h2, hf⟩ := ob_some hf
  refine gg_cVI (As := [.int (2 : Int32)]) hC hw (X9_fail_M l E D A h2) h3 rfl g_ml_X9_100 hd_X9_fail (Nat.le_of_ble_eq_true rfl) (Nat.le_of_ble_eq_true rfl) hl.1 rfl (Nat.le_of_ble_eq_true rfl) dX9_takeNumber_40 (fun H locs cells slots hw => ?_)
  obtain ⟨_, h4, hf⟩ := ob_some hf
  cases hf
  exact hQ _ _ _ _ _ _ dX9_takeNumber_43 (gz_some h4) hw

def X9_takeNumber (E : gE) (l0 : Nat) (l1 : Int32) (l2 : Int32) (σ : gS) : Option (Int32 × gS) :=
  ob (gfR σ l0 7 0) fun x5 =>
  ob (gcl σ x5 5) fun _ =>
  ob (X6_isNumber_f E σ x5) fun x7 =>
  if x7 = 0 then
    ob (gcl σ l0 7) fun _ =>
    ob (X9_fail_f E l0 (1 : Int32) σ) fun x34 =>
    ob (gz x34.1) fun _ =>
    some (x34.1, x34.2)
  else
    ob (gfR σ l0 7 0) fun x10 =>
    ob (gcl σ x10 5) fun _ =>
    ob (X6_number_f E σ x10) fun x12 =>
    if x12 < l1 then
      X9_takeNumber_38 E l0 σ
    else
      ob (gfR σ l0 7 0) fun x15 =>
      ob (gcl σ x15 5) fun _ =>
      ob (X6_number_f E σ x15) fun x17 =>
      if x17 ≤ l2 then
        ob (gfR σ l0 7 0) fun x20 =>
        ob (gcl σ x20 5) fun _ =>
        ob (X6_number_f E σ x20) fun x22 =>
        ob (gpf E σ l0 7 3 (.int x22)) fun σ25 =>
        ob (gfR σ25 l0 7 0) fun x27 =>
        ob (gcl σ25 x27 5) fun _ =>
        ob (X6_next_f E x27 σ25) fun x29 =>
        some ((1 : Int32), x29)
      else
        X9_takeNumber_38 E l0 σ
set_option maxHeartbeats 4000000 in
set_option maxRecDepth 100000 in
theorem X9_takeNumber_W {σ : gS} {l0 : Nat} {l1 : Int32} {l2 : Int32} {res : (Int32 × gS)} {ls : Array Slot} (hC : gC E D A p R s m args meth c cX9_takeNumber 3 RX9 "takeNumber" 4 102) (hQ : gQI E D A p l e R s m args below meth c Q cX9_takeNumber FieldType.boolean res) (hf : X9_takeNumber E l0 l1 l2 σ = some res) (hw : gW E D A s σ H locs) (hl : lv_has ls 3 [(0, .ref l0), (1, .int l1), (2, .int l2)]) : W p l e R s m args below meth c H locs cells slots Q (F0 m 0 ls []) := by
  have hC0 := hC
  obtain ⟨hx, hb, hml, hown, hts, -⟩ := hC0
  unfold X9_takeNumber at hf
  refine lv_aload_n hx hb dX9_takeNumber_0 rfl (lv_at hl 0 rfl) ?_
  obtain ⟨x5, h6, hf⟩ := ob_some hf
  refine rR_fl_X9_25 hC hw h6 dX9_takeNumber_1 ?_
  obtain ⟨_, h9, hf⟩ := ob_some hf
  obtain ⟨x7, h8, hf⟩ := ob_some hf
  refine gg_cVI (As := []) hC hw (X6_isNumber_M l E D A h8) h9 rfl g_ml_X9_104 hd_X6_isNumber (Nat.le_of_ble_eq_true rfl) (Nat.le_of_ble_eq_true rfl) hl.1 rfl (Nat.le_of_ble_eq_true rfl) dX9_takeNumber_4 (fun H locs cells slots hw => ?_)
  refine lv_if_ne (tgt := 16) hx hb dX9_takeNumber_7 (by decide) (fun c38 => ?_) (fun c38 => ?_)
  · replace hf := (if_neg c38).symm.trans hf
    refine lv_aload_n hx hb dX9_takeNumber_16 rfl (lv_at hl 0 rfl) ?_
    obtain ⟨x10, h11, hf⟩ := ob_some hf
    refine rR_fl_X9_25 hC hw h11 dX9_takeNumber_17 ?_
    obtain ⟨_, h14, hf⟩ := ob_some hf
    obtain ⟨x12, h13, hf⟩ := ob_some hf
    refine gg_cVI (As := []) hC hw (X6_number_M l E D A h13) h14 rfl g_ml_X9_107 hd_X6_number (Nat.le_of_ble_eq_true rfl) (Nat.le_of_ble_eq_true rfl) hl.1 rfl (Nat.le_of_ble_eq_true rfl) dX9_takeNumber_20 (fun H locs cells slots hw => ?_)
    refine lv_iload_n hx hb dX9_takeNumber_23 rfl (lv_at hl 1 rfl) ?_
    refine lv_icmp_lt (tgt := 38) hx hb dX9_takeNumber_24 (by decide) (fun c33 => ?_) (fun c33 => ?_)
    · replace hf := (if_pos c33).symm.trans hf
      exact X9_takeNumber_38_W hC hQ hf hw (lv_sub hl [0] rfl)
    · replace hf := (if_neg c33).symm.trans hf
      refine lv_aload_n hx hb dX9_takeNumber_27 rfl (lv_at hl 0 rfl) ?_
      obtain ⟨x15, h16, hf⟩ := ob_some hf
      refine rR_fl_X9_25 hC hw h16 dX9_takeNumber_28 ?_
      obtain ⟨_, h19, hf⟩ := ob_some hf
      obtain ⟨x17, h18, hf⟩ := ob_some hf
      refine gg_cVI (As := []) hC hw (X6_number_M l E D A h18) h19 rfl g_ml_X9_107 hd_X6_number (Nat.le_of_ble_eq_true rfl) (Nat.le_of_ble_eq_true rfl) hl.1 rfl (Nat.le_of_ble_eq_true rfl) dX9_takeNumber_31 (fun H locs cells slots hw => ?_)
      refine lv_iload_n hx hb dX9_takeNumber_34 rfl (lv_at hl 2 rfl) ?_
      refine lv_icmp_le (tgt := 44) hx hb dX9_takeNumber_35 (by decide) (fun c32 => ?_) (fun c32 => ?_)
      · replace hf := (if_pos c32).symm.trans hf
        refine lv_aload_n hx hb dX9_takeNumber_44 rfl (lv_at hl 0 rfl) ?_
        refine lv_aload_n hx hb dX9_takeNumber_45 rfl (lv_at hl 0 rfl) ?_
        obtain ⟨x20, h21, hf⟩ := ob_some hf
        refine rR_fl_X9_25 hC hw h21 dX9_takeNumber_46 ?_
        obtain ⟨_, h24, hf⟩ := ob_some hf
        obtain ⟨x22, h23, hf⟩ := ob_some hf
        refine gg_cVI (As := []) hC hw (X6_number_M l E D A h23) h24 rfl g_ml_X9_107 hd_X6_number (Nat.le_of_ble_eq_true rfl) (Nat.le_of_ble_eq_true rfl) hl.1 rfl (Nat.le_of_ble_eq_true rfl) dX9_takeNumber_49 (fun H locs cells slots hw => ?_)
        obtain ⟨σ25, h26, hf⟩ := ob_some hf
        refine p_fl_X9_91 hC hw h26 rfl rfl dX9_takeNumber_52 (fun H locs hw => ?_)
        refine lv_aload_n hx hb dX9_takeNumber_55 rfl (lv_at hl 0 rfl) ?_
        obtain ⟨x27, h28, hf⟩ := ob_some hf
        refine rR_fl_X9_25 hC hw h28 dX9_takeNumber_56 ?_
        obtain ⟨_, h31, hf⟩ := ob_some hf
        obtain ⟨x29, h30, hf⟩ := ob_some hf
        refine gg_cVV (As := []) hC hw (X6_next_M l E D A h30) h31 rfl g_ml_X9_120 hd_X6_next (Nat.le_of_ble_eq_true rfl) (Nat.le_of_ble_eq_true rfl) hl.1 rfl (Nat.le_of_ble_eq_true rfl) dX9_takeNumber_59 (fun H locs cells slots hw => ?_)
        refine lv_iconst (v := 1) hx hb dX9_takeNumber_62 (by decide) ?_
        cases hf
        exact hQ _ _ _ _ _ _ dX9_takeNumber_63 gz1 hw
      · replace hf := (if_neg c32).symm.trans hf
        exact X9_takeNumber_38_W hC hQ hf hw (lv_sub hl [0] rfl)
  · replace hf := (if_pos c38).symm.trans hf
    refine lv_aload_n hx hb dX9_takeNumber_10 rfl (lv_at hl 0 rfl) ?_
    refine lv_iconst (v := 1) hx hb dX9_takeNumber_11 (by decide) ?_
    obtain ⟨_, h36, hf⟩ := ob_some hf
    obtain ⟨x34, h35, hf⟩ := ob_some hf
    refine gg_cVI (As := [.int (1 : Int32)]) hC hw (X9_fail_M l E D A h35) h36 rfl g_ml_X9_100 hd_X9_fail (Nat.le_of_ble_eq_true rfl) (Nat.le_of_ble_eq_true rfl) hl.1 rfl (Nat.le_of_ble_eq_true rfl) dX9_takeNumber_12 (fun H locs cells slots hw => ?_)
    obtain ⟨_, h37, hf⟩ := ob_some hf
    cases hf
    exact hQ _ _ _ _ _ _ dX9_takeNumber_15 (gz_some h37) hw

def X9_takeNumber_f (E : gE) (l0 : Nat) (l1 : Int32) (l2 : Int32) (σ : gS) : Option (Int32 × gS) := X9_takeNumber E l0 l1 l2 σ
set_option maxRecDepth 100000 in
theorem X9_takeNumber_M (l : Launch) (E : gE) (D : va_G) (A : Nat → Prop) {l0 : Nat} {l1 : Int32} {l2 : Int32} {σ : gS} {res : (Int32 × gS)} (hf : X9_takeNumber_f E l0 l1 l2 σ = some res) : gCI l E D A yX9_takeNumber cX9_takeNumber 3 4 102 (some FieldType.boolean) [.ref l0, .int l1, .int l2] σ res := by
  refine gg_entI (own := RX9) (nm := "takeNumber") (ty := FieldType.boolean) (by decide +kernel) rfl rfl (Nat.le_of_ble_eq_true rfl) rfl ?_
  intro p e R s m args below meth c Q ls hC hw hQ hl
  have hl : lv_has ls 3 [(0, .ref l0), (1, .int l1), (2, .int l2)] := hl
  exact X9_takeNumber_W hC hQ hf hw hl

def X9_takeSemicolon (E : gE) (l0 : Nat) (σ : gS) : Option (Int32 × gS) :=
  ob (gfR σ l0 7 0) fun x1 =>
  ob (gcl σ x1 5) fun _ =>
  ob (X6_isSemicolon_f E σ x1) fun x3 =>
  if x3 = 0 then
    ob (gcl σ l0 7) fun _ =>
    ob (X9_fail_f E l0 (1 : Int32) σ) fun x11 =>
    ob (gz x11.1) fun _ =>
    some (x11.1, x11.2)
  else
    ob (gfR σ l0 7 0) fun x6 =>
    ob (gcl σ x6 5) fun _ =>
    ob (X6_next_f E x6 σ) fun x8 =>
    some ((1 : Int32), x8)
set_option maxHeartbeats 4000000 in
set_option maxRecDepth 100000 in
theorem X9_takeSemicolon_W {σ : gS} {l0 : Nat} {res : (Int32 × gS)} {ls : Array Slot} (hC : gC E D A p R s m args meth c cX9_takeSemicolon 1 RX9 "takeSemicolon" 4 102) (hQ : gQI E D A p l e R s m args below meth c Q cX9_takeSemicolon FieldType.boolean res) (hf : X9_takeSemicolon E l0 σ = some res) (hw : gW E D A s σ H locs) (hl : lv_has ls 1 [(0, .ref l0)]) : W p l e R s m args below meth c H locs cells slots Q (F0 m 0 ls []) := by
  have hC0 := hC
  obtain ⟨hx, hb, hml, hown, hts, -⟩ := hC0
  unfold X9_takeSemicolon at hf
  refine lv_aload_n hx hb dX9_takeSemicolon_0 rfl (lv_at hl 0 rfl) ?_
  obtain ⟨x1, h2, hf⟩ := ob_some hf
  refine rR_fl_X9_25 hC hw h2 dX9_takeSemicolon_1 ?_
  obtain ⟨_, h5, hf⟩ := ob_some hf
  obtain ⟨x3, h4, hf⟩ := ob_some hf
  refine gg_cVI (As := []) hC hw (X6_isSemicolon_M l E D A h4) h5 rfl g_ml_X9_171 hd_X6_isSemicolon (Nat.le_of_ble_eq_true rfl) (Nat.le_of_ble_eq_true rfl) hl.1 rfl (Nat.le_of_ble_eq_true rfl) dX9_takeSemicolon_4 (fun H locs cells slots hw => ?_)
  refine lv_if_ne (tgt := 16) hx hb dX9_takeSemicolon_7 (by decide) (fun c15 => ?_) (fun c15 => ?_)
  · replace hf := (if_neg c15).symm.trans hf
    refine lv_aload_n hx hb dX9_takeSemicolon_16 rfl (lv_at hl 0 rfl) ?_
    obtain ⟨x6, h7, hf⟩ := ob_some hf
    refine rR_fl_X9_25 hC hw h7 dX9_takeSemicolon_17 ?_
    obtain ⟨_, h10, hf⟩ := ob_some hf
    obtain ⟨x8, h9, hf⟩ := ob_some hf
    refine gg_cVV (As := []) hC hw (X6_next_M l E D A h9) h10 rfl g_ml_X9_120 hd_X6_next (Nat.le_of_ble_eq_true rfl) (Nat.le_of_ble_eq_true rfl) hl.1 rfl (Nat.le_of_ble_eq_true rfl) dX9_takeSemicolon_20 (fun H locs cells slots hw => ?_)
    refine lv_iconst (v := 1) hx hb dX9_takeSemicolon_23 (by decide) ?_
    cases hf
    exact hQ _ _ _ _ _ _ dX9_takeSemicolon_24 gz1 hw
  · replace hf := (if_pos c15).symm.trans hf
    refine lv_aload_n hx hb dX9_takeSemicolon_10 rfl (lv_at hl 0 rfl) ?_
    refine lv_iconst (v := 1) hx hb dX9_takeSemicolon_11 (by decide) ?_
    obtain ⟨_, h13, hf⟩ := ob_some hf
    obtain ⟨x11, h12, hf⟩ := ob_some hf
    refine gg_cVI (As := [.int (1 : Int32)]) hC hw (X9_fail_M l E D A h12) h13 rfl g_ml_X9_100 hd_X9_fail (Nat.le_of_ble_eq_true rfl) (Nat.le_of_ble_eq_true rfl) hl.1 rfl (Nat.le_of_ble_eq_true rfl) dX9_takeSemicolon_12 (fun H locs cells slots hw => ?_)
    obtain ⟨_, h14, hf⟩ := ob_some hf
    cases hf
    exact hQ _ _ _ _ _ _ dX9_takeSemicolon_15 (gz_some h14) hw

def X9_takeSemicolon_f (E : gE) (l0 : Nat) (σ : gS) : Option (Int32 × gS) := X9_takeSemicolon E l0 σ
set_option maxRecDepth 100000 in
theorem X9_takeSemicolon_M (l : Launch) (E : gE) (D : va_G) (A : Nat → Prop) {l0 : Nat} {σ : gS} {res : (Int32 × gS)} (hf : X9_takeSemicolon_f E l0 σ = some res) : gCI l E D A yX9_takeSemicolon cX9_takeSemicolon 1 4 102 (some FieldType.boolean) [.ref l0] σ res := by
  refine gg_entI (own := RX9) (nm := "takeSemicolon") (ty := FieldType.boolean) (by decide +kernel) rfl rfl (Nat.le_of_ble_eq_true rfl) rfl ?_
  intro p e R s m args below meth c Q ls hC hw hQ hl
  have hl : lv_has ls 1 [(0, .ref l0)] := hl
  exact X9_takeSemicolon_W hC hQ hf hw hl

def X6_startText (E : gE) (l0 : Nat) (l1 : Int32) (σ : gS) : Option gS :=
  ob (gfI σ l0 5 1) fun x1 =>
  ob (gpf E σ l0 5 2 (.int (gmin l1 x1))) fun σ5 =>
  ob (gpf E σ5 l0 5 5 (.int (0 : Int32))) fun σ7 =>
  ob (gcl σ7 l0 5) fun _ =>
  ob (X6_next_f E l0 σ7) fun x9 =>
  some x9
set_option maxHeartbeats 4000000 in
set_option maxRecDepth 100000 in
theorem X6_startText_W {σ : gS} {l0 : Nat} {l1 : Int32} {σz : gS} {ls : Array Slot} (hC : gC E D A p R s m args meth c cX6_startText 2 RX6 "startText" 4 102) (hQ : gQV E D A p l e R s m args below meth c Q cX6_startText σz) (hf : X6_startText E l0 l1 σ = some σz) (hw : gW E D A s σ H locs) (hl : lv_has ls 2 [(0, .ref l0), (1, .int l1)]) : W p l e R s m args below meth c H locs cells slots Q (F0 m 0 ls []) := by
  have hC0 := hC
  obtain ⟨hx, hb, hml, hown, hts, -⟩ := hC0
  unfold X6_startText at hf
  refine lv_aload_n hx hb dX6_startText_0 rfl (lv_at hl 0 rfl) ?_
  refine lv_iload_n hx hb dX6_startText_1 rfl (lv_at hl 1 rfl) ?_
  refine lv_aload_n hx hb dX6_startText_2 rfl (lv_at hl 0 rfl) ?_
  obtain ⟨x1, h2, hf⟩ := ob_some hf
  refine rI_fl_X6_15 hC hw h2 dX6_startText_3 ?_
  refine gg_mmin hC hw ml_X6_19 rfl hl.1 (Nat.le_of_ble_eq_true rfl) (Nat.le_of_ble_eq_true rfl) (Nat.le_of_ble_eq_true rfl) dX6_startText_6 (fun cells slots => ?_)
  obtain ⟨σ5, h6, hf⟩ := ob_some hf
  refine p_fl_X6_25 hC hw h6 rfl rfl dX6_startText_9 (fun H locs hw => ?_)
  refine lv_aload_n hx hb dX6_startText_12 rfl (lv_at hl 0 rfl) ?_
  refine lv_iconst (v := 0) hx hb dX6_startText_13 (by decide) ?_
  obtain ⟨σ7, h8, hf⟩ := ob_some hf
  refine p_fl_X6_28 hC hw h8 rfl rfl dX6_startText_14 (fun H locs hw => ?_)
  refine lv_aload_n hx hb dX6_startText_17 rfl (lv_at hl 0 rfl) ?_
  obtain ⟨_, h11, hf⟩ := ob_some hf
  obtain ⟨x9, h10, hf⟩ := ob_some hf
  refine gg_cVV (As := []) hC hw (X6_next_M l E D A h10) h11 rfl g_ml_X6_31 hd_X6_next (Nat.le_of_ble_eq_true rfl) (Nat.le_of_ble_eq_true rfl) hl.1 rfl (Nat.le_of_ble_eq_true rfl) dX6_startText_18 (fun H locs cells slots hw => ?_)
  cases hf
  exact hQ _ _ _ _ _ _ dX6_startText_21 hw

def X6_startText_f (E : gE) (l0 : Nat) (l1 : Int32) (σ : gS) : Option gS := X6_startText E l0 l1 σ
set_option maxRecDepth 100000 in
theorem X6_startText_M (l : Launch) (E : gE) (D : va_G) (A : Nat → Prop) {l0 : Nat} {l1 : Int32} {σ : gS} {σz : gS} (hf : X6_startText_f E l0 l1 σ = some σz) : gCV l E D A yX6_startText cX6_startText 2 4 102 none [.ref l0, .int l1] σ σz := by
  refine gg_entV (own := RX6) (nm := "startText") (by decide +kernel) rfl rfl (Nat.le_of_ble_eq_true rfl) rfl ?_
  intro p e R s m args below meth c Q ls hC hw hQ hl
  have hl : lv_has ls 2 [(0, .ref l0), (1, .int l1)] := hl
  exact X6_startText_W hC hQ hf hw hl

def X9_start (E : gE) (l0 : Nat) (l1 : Int32) (σ : gS) : Option gS :=
  ob (gpf E σ l0 7 1 (.int (0 : Int32))) fun σ1 =>
  ob (gpf E σ1 l0 7 2 (.int (-1 : Int32))) fun σ3 =>
  ob (gpf E σ3 l0 7 5 (.int (0 : Int32))) fun σ5 =>
  ob (gpf E σ5 l0 7 8 (.int (0 : Int32))) fun σ7 =>
  ob (gfR σ7 l0 7 0) fun x9 =>
  ob (gcl σ7 x9 5) fun _ =>
  ob (X6_startText_f E x9 l1 σ7) fun x11 =>
  some x11
set_option maxHeartbeats 4000000 in
set_option maxRecDepth 100000 in
theorem X9_start_W {σ : gS} {l0 : Nat} {l1 : Int32} {σz : gS} {ls : Array Slot} (hC : gC E D A p R s m args meth c cX9_start 2 RX9 "start" 5 123) (hQ : gQV E D A p l e R s m args below meth c Q cX9_start σz) (hf : X9_start E l0 l1 σ = some σz) (hw : gW E D A s σ H locs) (hl : lv_has ls 2 [(0, .ref l0), (1, .int l1)]) : W p l e R s m args below meth c H locs cells slots Q (F0 m 0 ls []) := by
  have hC0 := hC
  obtain ⟨hx, hb, hml, hown, hts, -⟩ := hC0
  unfold X9_start at hf
  refine lv_aload_n hx hb dX9_start_0 rfl (lv_at hl 0 rfl) ?_
  refine lv_iconst (v := 0) hx hb dX9_start_1 (by decide) ?_
  obtain ⟨σ1, h2, hf⟩ := ob_some hf
  refine p_fl_X9_30 hC hw h2 rfl rfl dX9_start_2 (fun H locs hw => ?_)
  refine lv_aload_n hx hb dX9_start_5 rfl (lv_at hl 0 rfl) ?_
  refine lv_iconst (v := -1) hx hb dX9_start_6 (by decide) ?_
  obtain ⟨σ3, h4, hf⟩ := ob_some hf
  refine p_fl_X9_9 hC hw h4 rfl rfl dX9_start_7 (fun H locs hw => ?_)
  refine lv_aload_n hx hb dX9_start_10 rfl (lv_at hl 0 rfl) ?_
  refine lv_iconst (v := 0) hx hb dX9_start_11 (by decide) ?_
  obtain ⟨σ5, h6, hf⟩ := ob_some hf
  refine p_fl_X9_36 hC hw h6 rfl rfl dX9_start_12 (fun H locs hw => ?_)
  refine lv_aload_n hx hb dX9_start_15 rfl (lv_at hl 0 rfl) ?_
  refine lv_iconst (v := 0) hx hb dX9_start_16 (by decide) ?_
  obtain ⟨σ7, h8, hf⟩ := ob_some hf
  refine p_fl_X9_39 hC hw h8 rfl rfl dX9_start_17 (fun H locs hw => ?_)
  refine lv_aload_n hx hb dX9_start_20 rfl (lv_at hl 0 rfl) ?_
  obtain ⟨x9, h10, hf⟩ := ob_some hf
  refine rR_fl_X9_25 hC hw h10 dX9_start_21 ?_
  refine lv_iload_n hx hb dX9_start_24 rfl (lv_at hl 1 rfl) ?_
  obtain ⟨_, h13, hf⟩ := ob_some hf
  obtain ⟨x11, h12, hf⟩ := ob_some hf
  refine gg_cVV (As := [.int l1]) hC hw (X6_startText_M l E D A h12) h13 rfl g_ml_X9_75 hd_X6_startText (Nat.le_of_ble_eq_true rfl) (Nat.le_of_ble_eq_true rfl) hl.1 rfl (Nat.le_of_ble_eq_true rfl) dX9_start_25 (fun H locs cells slots hw => ?_)
  cases hf
  exact hQ _ _ _ _ _ _ dX9_start_28 hw

def X9_start_f (E : gE) (l0 : Nat) (l1 : Int32) (σ : gS) : Option gS := X9_start E l0 l1 σ
set_option maxRecDepth 100000 in
theorem X9_start_M (l : Launch) (E : gE) (D : va_G) (A : Nat → Prop) {l0 : Nat} {l1 : Int32} {σ : gS} {σz : gS} (hf : X9_start_f E l0 l1 σ = some σz) : gCV l E D A yX9_start cX9_start 2 5 123 none [.ref l0, .int l1] σ σz := by
  refine gg_entV (own := RX9) (nm := "start") (by decide +kernel) rfl rfl (Nat.le_of_ble_eq_true rfl) rfl ?_
  intro p e R s m args below meth c Q ls hC hw hQ hl
  have hl : lv_has ls 2 [(0, .ref l0), (1, .int l1)] := hl
  exact X9_start_W hC hQ hf hw hl

def X9_takeInteger_45 (E : gE) (l2 : Int32) (s0 : Int32) (s1 : Nat) (σ : gS) : Option (Int32 × gS) :=
  ob (gpf E σ s1 7 3 (.int s0)) fun σ1 =>
  ob (gz l2) fun _ =>
  some (l2, σ1)
set_option maxHeartbeats 4000000 in
set_option maxRecDepth 100000 in
theorem X9_takeInteger_45_W {σ : gS} {l2 : Int32} {s0 : Int32} {s1 : Nat} {res : (Int32 × gS)} {ls : Array Slot} (hC : gC E D A p R s m args meth c cX9_takeInteger 3 RX9 "takeInteger" 5 124) (hQ : gQI E D A p l e R s m args below meth c Q cX9_takeInteger FieldType.boolean res) (hf : X9_takeInteger_45 E l2 s0 s1 σ = some res) (hw : gW E D A s σ H locs) (hl : lv_has ls 3 [(2, .int l2)]) : W p l e R s m args below meth c H locs cells slots Q (F0 m 45 ls [.int s0, .ref s1]) := by
  have hC0 := hC
  obtain ⟨hx, hb, hml, hown, hts, -⟩ := hC0
  unfold X9_takeInteger_45 at hf
  obtain ⟨σ1, h2, hf⟩ := ob_some hf
  refine p_fl_X9_91 hC hw h2 rfl rfl dX9_takeInteger_45 (fun H locs hw => ?_)
  refine lv_iload_n hx hb dX9_takeInteger_48 rfl (lv_at hl 0 rfl) ?_
  obtain ⟨_, h3, hf⟩ := ob_some hf
  cases hf
  exact hQ _ _ _ _ _ _ dX9_takeInteger_49 (gz_some h3) hw

def X9_takeInteger_19 (E : gE) (l0 : Nat) (l1 : Int32) (σ : gS) : Option (Int32 × gS) :=
  ob (gcl σ l0 7) fun _ =>
  ob (X9_takeNumber_f E l0 (0 : Int32) (9999 : Int32) σ) fun x4 =>
  if l1 = 0 then
    ob (gfI x4.2 l0 7 3) fun x7 =>
    X9_takeInteger_45 E x4.1 x7 l0 x4.2
  else
    ob (gfI x4.2 l0 7 3) fun x9 =>
    X9_takeInteger_45 E x4.1 (-x9) l0 x4.2
set_option maxHeartbeats 4000000 in
set_option maxRecDepth 100000 in
theorem X9_takeInteger_19_W {σ : gS} {l0 : Nat} {l1 : Int32} {res : (Int32 × gS)} {ls : Array Slot} (hC : gC E D A p R s m args meth c cX9_takeInteger 3 RX9 "takeInteger" 5 124) (hQ : gQI E D A p l e R s m args below meth c Q cX9_takeInteger FieldType.boolean res) (hf : X9_takeInteger_19 E l0 l1 σ = some res) (hw : gW E D A s σ H locs) (hl : lv_has ls 3 [(0, .ref l0), (1, .int l1)]) : W p l e R s m args below meth c H locs cells slots Q (F0 m 19 ls []) := by
  have hC0 := hC
  obtain ⟨hx, hb, hml, hown, hts, -⟩ := hC0
  unfold X9_takeInteger_19 at hf
  refine lv_aload_n hx hb dX9_takeInteger_19 rfl (lv_at hl 0 rfl) ?_
  refine lv_iconst (v := 0) hx hb dX9_takeInteger_20 (by decide) ?_
  refine lv_sipush (v := 9999) hx hb dX9_takeInteger_21 (by decide) ?_
  obtain ⟨_, h6, hf⟩ := ob_some hf
  obtain ⟨x4, h5, hf⟩ := ob_some hf
  refine gg_cVI (As := [.int (0 : Int32), .int (9999 : Int32)]) hC hw (X9_takeNumber_M l E D A h5) h6 rfl g_ml_X9_87 hd_X9_takeNumber (Nat.le_of_ble_eq_true rfl) (Nat.le_of_ble_eq_true rfl) hl.1 rfl (Nat.le_of_ble_eq_true rfl) dX9_takeInteger_24 (fun H locs cells slots hw => ?_)
  refine lv_istore_n (lv' := [(2, .int x4.1), (0, .ref l0), (1, .int l1)]) hx hb dX9_takeInteger_27 rfl hl (by decide) rfl (fun ls hl => ?_)
  refine lv_aload_n hx hb dX9_takeInteger_28 rfl (lv_at hl 1 rfl) ?_
  refine lv_iload_n hx hb dX9_takeInteger_29 rfl (lv_at hl 2 rfl) ?_
  refine lv_if_eq (tgt := 41) hx hb dX9_takeInteger_30 (by decide) (fun c11 => ?_) (fun c11 => ?_)
  · replace hf := (if_pos c11).symm.trans hf
    refine lv_aload_n hx hb dX9_takeInteger_41 rfl (lv_at hl 1 rfl) ?_
    obtain ⟨x7, h8, hf⟩ := ob_some hf
    refine rI_fl_X9_91 hC hw h8 dX9_takeInteger_42 ?_
    exact X9_takeInteger_45_W hC hQ hf hw (lv_sub hl [0] rfl)
  · replace hf := (if_neg c11).symm.trans hf
    refine lv_aload_n hx hb dX9_takeInteger_33 rfl (lv_at hl 1 rfl) ?_
    obtain ⟨x9, h10, hf⟩ := ob_some hf
    refine rI_fl_X9_91 hC hw h10 dX9_takeInteger_34 ?_
    refine lv_ineg hx hb dX9_takeInteger_37 ?_
    refine lv_goto (tgt := 45) hx hb dX9_takeInteger_38 (by decide) ?_
    exact X9_takeInteger_45_W hC hQ hf hw (lv_sub hl [0] rfl)

def X9_takeInteger (E : gE) (l0 : Nat) (σ : gS) : Option (Int32 × gS) :=
  ob (gfR σ l0 7 0) fun x12 =>
  ob (gcl σ x12 5) fun _ =>
  ob (X6_isMinus_f E σ x12) fun x14 =>
  if x14 = 0 then
    X9_takeInteger_19 E l0 x14 σ
  else
    ob (gfR σ l0 7 0) fun x17 =>
    ob (gcl σ x17 5) fun _ =>
    ob (X6_next_f E x17 σ) fun x19 =>
    X9_takeInteger_19 E l0 x14 x19
set_option maxHeartbeats 4000000 in
set_option maxRecDepth 100000 in
theorem X9_takeInteger_W {σ : gS} {l0 : Nat} {res : (Int32 × gS)} {ls : Array Slot} (hC : gC E D A p R s m args meth c cX9_takeInteger 3 RX9 "takeInteger" 5 124) (hQ : gQI E D A p l e R s m args below meth c Q cX9_takeInteger FieldType.boolean res) (hf : X9_takeInteger E l0 σ = some res) (hw : gW E D A s σ H locs) (hl : lv_has ls 3 [(0, .ref l0)]) : W p l e R s m args below meth c H locs cells slots Q (F0 m 0 ls []) := by
  have hC0 := hC
  obtain ⟨hx, hb, hml, hown, hts, -⟩ := hC0
  unfold X9_takeInteger at hf
  refine lv_aload_n hx hb dX9_takeInteger_0 rfl (lv_at hl 0 rfl) ?_
  obtain ⟨x12, h13, hf⟩ := ob_some hf
  refine rR_fl_X9_25 hC hw h13 dX9_takeInteger_1 ?_
  obtain ⟨_, h16, hf⟩ := ob_some hf
  obtain ⟨x14, h15, hf⟩ := ob_some hf
  refine gg_cVI (As := []) hC hw (X6_isMinus_M l E D A h15) h16 rfl g_ml_X9_97 hd_X6_isMinus (Nat.le_of_ble_eq_true rfl) (Nat.le_of_ble_eq_true rfl) hl.1 rfl (Nat.le_of_ble_eq_true rfl) dX9_takeInteger_4 (fun H locs cells slots hw => ?_)
  refine lv_istore_n (lv' := [(1, .int x14), (0, .ref l0)]) hx hb dX9_takeInteger_7 rfl hl (by decide) rfl (fun ls hl => ?_)
  refine lv_iload_n hx hb dX9_takeInteger_8 rfl (lv_at hl 0 rfl) ?_
  refine lv_if_eq (tgt := 19) hx hb dX9_takeInteger_9 (by decide) (fun c22 => ?_) (fun c22 => ?_)
  · replace hf := (if_pos c22).symm.trans hf
    exact X9_takeInteger_19_W hC hQ hf hw (lv_sub hl [1, 0] rfl)
  · replace hf := (if_neg c22).symm.trans hf
    refine lv_aload_n hx hb dX9_takeInteger_12 rfl (lv_at hl 1 rfl) ?_
    obtain ⟨x17, h18, hf⟩ := ob_some hf
    refine rR_fl_X9_25 hC hw h18 dX9_takeInteger_13 ?_
    obtain ⟨_, h21, hf⟩ := ob_some hf
    obtain ⟨x19, h20, hf⟩ := ob_some hf
    refine gg_cVV (As := []) hC hw (X6_next_M l E D A h20) h21 rfl g_ml_X9_120 hd_X6_next (Nat.le_of_ble_eq_true rfl) (Nat.le_of_ble_eq_true rfl) hl.1 rfl (Nat.le_of_ble_eq_true rfl) dX9_takeInteger_16 (fun H locs cells slots hw => ?_)
    exact X9_takeInteger_19_W hC hQ hf hw (lv_sub hl [1, 0] rfl)

def X9_takeInteger_f (E : gE) (l0 : Nat) (σ : gS) : Option (Int32 × gS) := X9_takeInteger E l0 σ
set_option maxRecDepth 100000 in
theorem X9_takeInteger_M (l : Launch) (E : gE) (D : va_G) (A : Nat → Prop) {l0 : Nat} {σ : gS} {res : (Int32 × gS)} (hf : X9_takeInteger_f E l0 σ = some res) : gCI l E D A yX9_takeInteger cX9_takeInteger 3 5 124 (some FieldType.boolean) [.ref l0] σ res := by
  refine gg_entI (own := RX9) (nm := "takeInteger") (ty := FieldType.boolean) (by decide +kernel) rfl rfl (Nat.le_of_ble_eq_true rfl) rfl ?_
  intro p e R s m args below meth c Q ls hC hw hQ hl
  have hl : lv_has ls 3 [(0, .ref l0)] := hl
  exact X9_takeInteger_W hC hQ hf hw hl

def X6_isWord_24 (E : gE) (σ : gS) : Option Int32 :=
  some (0 : Int32)
set_option maxHeartbeats 4000000 in
set_option maxRecDepth 100000 in
theorem X6_isWord_24_W {σ : gS} {res : Int32} {ls : Array Slot} (hC : gC E D A p R s m args meth c cX6_isWord 3 RX6 "isWord" 5 106) (hQ : gQI E D A p l e R s m args below meth c Q cX6_isWord FieldType.boolean (res, σ)) (hf : X6_isWord_24 E σ = some res) (hw : gW E D A s σ H locs) (hl : lv_has ls 3 []) : W p l e R s m args below meth c H locs cells slots Q (F0 m 24 ls []) := by
  have hC0 := hC
  obtain ⟨hx, hb, hml, hown, hts, -⟩ := hC0
  unfold X6_isWord_24 at hf
  refine lv_iconst (v := 0) hx hb dX6_isWord_24 (by decide) ?_
  cases hf
  exact hQ _ _ _ _ _ _ dX6_isWord_25 gz0 hw

def X6_isWord_28_s (E : gE) (σ : gS) (r_28 : Nat → Nat → Int32 → Option Int32) (l0 : Nat) (l1 : Nat) (l2 : Int32) : Option Int32 :=
  ob (gxc E l1 100) fun _ =>
  ob (J0_length_8abf5_f E σ l1) fun x1 =>
  if x1 ≤ l2 then
    some (1 : Int32)
  else
    ob (gfR σ l0 5 0) fun x4 =>
    ob (gfI σ l0 5 4) fun x6 =>
    ob (graI E 1 σ x4 (x6 + l2)) fun x8 =>
    ob (gxc E l1 100) fun _ =>
    ob (J0_charAt_5068e_f E σ l1 l2) fun x10 =>
    if x8 = x10 then
      r_28 l0 l1 (l2 + 1)
    else
      some (0 : Int32)
set_option maxHeartbeats 4000000 in
set_option maxRecDepth 100000 in
theorem X6_isWord_28_s_W {σ : gS} {l0 : Nat} {l1 : Nat} {l2 : Int32} {res : Int32} {ls : Array Slot} (hC : gC E D A p R s m args meth c cX6_isWord 3 RX6 "isWord" 5 106) (hQ : gQI E D A p l e R s m args below meth c Q cX6_isWord FieldType.boolean (res, σ)) {r_28 : Nat → Nat → Int32 → Option Int32} (h_28 : ∀ {l0 : Nat} {l1 : Nat} {l2 : Int32} {H : Heap} {locs : List Loc} {cells slots : Nat} {ls : Array Slot}, r_28 l0 l1 l2 = some res → gW E D A s σ H locs → lv_has ls 3 [(0, .ref l0), (1, .ref l1), (2, .int l2)] → W p l e R s m args below meth c H locs cells slots Q (F0 m 28 ls [])) (hf : X6_isWord_28_s E σ r_28 l0 l1 l2 = some res) (hw : gW E D A s σ H locs) (hl : lv_has ls 3 [(0, .ref l0), (1, .ref l1), (2, .int l2)]) : W p l e R s m args below meth c H locs cells slots Q (F0 m 28 ls []) := by
  have hC0 := hC
  obtain ⟨hx, hb, hml, hown, hts, -⟩ := hC0
  unfold X6_isWord_28_s at hf
  refine lv_iload_n hx hb dX6_isWord_28 rfl (lv_at hl 2 rfl) ?_
  refine lv_aload_n hx hb dX6_isWord_29 rfl (lv_at hl 1 rfl) ?_
  obtain ⟨_, h3, hf⟩ := ob_some hf
  obtain ⟨x1, h2, hf⟩ := ob_some hf
  refine gg_cXI (As := []) hC hw (J0_length_8abf5_M l E D A h2) h3 rfl g_ml_X6_48 hd_J0_length_8abf5 (Nat.le_of_ble_eq_true rfl) (Nat.le_of_ble_eq_true rfl) hl.1 rfl (Nat.le_of_ble_eq_true rfl) dX6_isWord_30 (fun H locs cells slots hw => ?_)
  refine lv_icmp_ge (tgt := 63) hx hb dX6_isWord_33 (by decide) (fun c14 => ?_) (fun c14 => ?_)
  · replace hf := (if_pos c14).symm.trans hf
    refine lv_iconst (v := 1) hx hb dX6_isWord_63 (by decide) ?_
    cases hf
    exact hQ _ _ _ _ _ _ dX6_isWord_64 gz1 hw
  · replace hf := (if_neg c14).symm.trans hf
    refine lv_aload_n hx hb dX6_isWord_36 rfl (lv_at hl 0 rfl) ?_
    obtain ⟨x4, h5, hf⟩ := ob_some hf
    refine rR_fl_X6_9 hC hw h5 dX6_isWord_37 ?_
    refine lv_aload_n hx hb dX6_isWord_40 rfl (lv_at hl 0 rfl) ?_
    obtain ⟨x6, h7, hf⟩ := ob_some hf
    refine rI_fl_X6_38 hC hw h7 dX6_isWord_41 ?_
    refine lv_iload_n hx hb dX6_isWord_44 rfl (lv_at hl 2 rfl) ?_
    refine lv_iadd hx hb dX6_isWord_45 ?_
    obtain ⟨x8, h9, hf⟩ := ob_some hf
    refine gg_aldB hC hw h9 dX6_isWord_46 ?_
    refine lv_aload_n hx hb dX6_isWord_47 rfl (lv_at hl 1 rfl) ?_
    refine lv_iload_n hx hb dX6_isWord_48 rfl (lv_at hl 2 rfl) ?_
    obtain ⟨_, h12, hf⟩ := ob_some hf
    obtain ⟨x10, h11, hf⟩ := ob_some hf
    refine gg_cXI (As := [.int l2]) hC hw (J0_charAt_5068e_M l E D A h11) h12 rfl g_ml_X6_54 hd_J0_charAt_5068e (Nat.le_of_ble_eq_true rfl) (Nat.le_of_ble_eq_true rfl) hl.1 rfl (Nat.le_of_ble_eq_true rfl) dX6_isWord_49 (fun H locs cells slots hw => ?_)
    refine lv_icmp_eq (tgt := 57) hx hb dX6_isWord_52 (by decide) (fun c13 => ?_) (fun c13 => ?_)
    · replace hf := (if_pos c13).symm.trans hf
      refine lv_iinc (v := (l2 + 1)) (lv' := [(2, .int (l2 + 1)), (0, .ref l0), (1, .ref l1)]) hx hb dX6_isWord_57 hl (k := 2) rfl rfl (by decide) rfl (fun ls hl => ?_)
      refine lv_goto (tgt := 28) hx hb dX6_isWord_60 (by decide) ?_
      exact h_28 hf hw (lv_sub hl [1, 2, 0] rfl)
    · replace hf := (if_neg c13).symm.trans hf
      refine lv_iconst (v := 0) hx hb dX6_isWord_55 (by decide) ?_
      cases hf
      exact hQ _ _ _ _ _ _ dX6_isWord_56 gz0 hw
def X6_isWord_28 (E : gE) (σ : gS) : Nat → Nat → Nat → Int32 → Option Int32
  | 0 => fun _ _ _ => none
  | n + 1 => X6_isWord_28_s E σ (X6_isWord_28 E σ n)
theorem X6_isWord_28_W {σ : gS} {res : Int32} (hC : gC E D A p R s m args meth c cX6_isWord 3 RX6 "isWord" 5 106) (hQ : gQI E D A p l e R s m args below meth c Q cX6_isWord FieldType.boolean (res, σ)) : ∀ (n : Nat), ∀ {l0 : Nat} {l1 : Nat} {l2 : Int32} {H : Heap} {locs : List Loc} {cells slots : Nat} {ls : Array Slot}, X6_isWord_28 E σ n l0 l1 l2 = some res → gW E D A s σ H locs → lv_has ls 3 [(0, .ref l0), (1, .ref l1), (2, .int l2)] → W p l e R s m args below meth c H locs cells slots Q (F0 m 28 ls []) := by
  intro n
  induction n with
  | zero =>
    intros
    rename_i hf _ _
    exact absurd hf (fun h => by cases (show (none : Option Int32) = some res from h))
  | succ n ih =>
    intros
    rename_i hf hw hl
    exact X6_isWord_28_s_W hC hQ ih hf hw hl

def X6_isWord (E : gE) (σ : gS) (l0 : Nat) (l1 : Nat) : Option Int32 :=
  ob (gfI σ l0 5 3) fun x15 =>
  if x15 = (2 : Int32) then
    ob (gfI σ l0 5 5) fun x17 =>
    ob (gfI σ l0 5 4) fun x19 =>
    ob (gxc E l1 100) fun _ =>
    ob (J0_length_8abf5_f E σ l1) fun x21 =>
    if (x17 - x19) = x21 then
      X6_isWord_28 E σ (gN E) l0 l1 (0 : Int32)
    else
      X6_isWord_24 E σ
  else
    X6_isWord_24 E σ
set_option maxHeartbeats 4000000 in
set_option maxRecDepth 100000 in
theorem X6_isWord_W {σ : gS} {l0 : Nat} {l1 : Nat} {res : Int32} {ls : Array Slot} (hC : gC E D A p R s m args meth c cX6_isWord 3 RX6 "isWord" 5 106) (hQ : gQI E D A p l e R s m args below meth c Q cX6_isWord FieldType.boolean (res, σ)) (hf : X6_isWord E σ l0 l1 = some res) (hw : gW E D A s σ H locs) (hl : lv_has ls 3 [(0, .ref l0), (1, .ref l1)]) : W p l e R s m args below meth c H locs cells slots Q (F0 m 0 ls []) := by
  have hC0 := hC
  obtain ⟨hx, hb, hml, hown, hts, -⟩ := hC0
  unfold X6_isWord at hf
  refine lv_aload_n hx hb dX6_isWord_0 rfl (lv_at hl 0 rfl) ?_
  obtain ⟨x15, h16, hf⟩ := ob_some hf
  refine rI_fl_X6_41 hC hw h16 dX6_isWord_1 ?_
  refine lv_iconst (v := 2) hx hb dX6_isWord_4 (by decide) ?_
  refine lv_icmp_ne (tgt := 24) hx hb dX6_isWord_5 (by decide) (fun c25 => ?_) (fun c25 => ?_)
  · replace hf := (if_neg c25).symm.trans hf
    exact X6_isWord_24_W hC hQ hf hw (lv_sub hl [] rfl)
  · replace hf := (if_pos c25).symm.trans hf
    refine lv_aload_n hx hb dX6_isWord_8 rfl (lv_at hl 0 rfl) ?_
    obtain ⟨x17, h18, hf⟩ := ob_some hf
    refine rI_fl_X6_28 hC hw h18 dX6_isWord_9 ?_
    refine lv_aload_n hx hb dX6_isWord_12 rfl (lv_at hl 0 rfl) ?_
    obtain ⟨x19, h20, hf⟩ := ob_some hf
    refine rI_fl_X6_38 hC hw h20 dX6_isWord_13 ?_
    refine lv_isub hx hb dX6_isWord_16 ?_
    refine lv_aload_n hx hb dX6_isWord_17 rfl (lv_at hl 1 rfl) ?_
    obtain ⟨_, h23, hf⟩ := ob_some hf
    obtain ⟨x21, h22, hf⟩ := ob_some hf
    refine gg_cXI (As := []) hC hw (J0_length_8abf5_M l E D A h22) h23 rfl g_ml_X6_48 hd_J0_length_8abf5 (Nat.le_of_ble_eq_true rfl) (Nat.le_of_ble_eq_true rfl) hl.1 rfl (Nat.le_of_ble_eq_true rfl) dX6_isWord_18 (fun H locs cells slots hw => ?_)
    refine lv_icmp_eq (tgt := 26) hx hb dX6_isWord_21 (by decide) (fun c24 => ?_) (fun c24 => ?_)
    · replace hf := (if_pos c24).symm.trans hf
      refine lv_iconst (v := 0) hx hb dX6_isWord_26 (by decide) ?_
      refine lv_istore_n (lv' := [(2, .int (0 : Int32)), (0, .ref l0), (1, .ref l1)]) hx hb dX6_isWord_27 rfl hl (by decide) rfl (fun ls hl => ?_)
      exact X6_isWord_28_W hC hQ (gN E) hf hw (lv_sub hl [1, 2, 0] rfl)
    · replace hf := (if_neg c24).symm.trans hf
      exact X6_isWord_24_W hC hQ hf hw (lv_sub hl [] rfl)

def X6_isWord_f (E : gE) (σ : gS) (l0 : Nat) (l1 : Nat) : Option Int32 := X6_isWord E σ l0 l1
set_option maxRecDepth 100000 in
theorem X6_isWord_M (l : Launch) (E : gE) (D : va_G) (A : Nat → Prop) {l0 : Nat} {l1 : Nat} {σ : gS} {res : Int32} (hf : X6_isWord_f E σ l0 l1 = some res) : gCI l E D A yX6_isWord cX6_isWord 3 5 106 (some FieldType.boolean) [.ref l0, .ref l1] σ (res, σ) := by
  refine gg_entI (own := RX6) (nm := "isWord") (ty := FieldType.boolean) (by decide +kernel) rfl rfl (Nat.le_of_ble_eq_true rfl) rfl ?_
  intro p e R s m args below meth c Q ls hC hw hQ hl
  have hl : lv_has ls 3 [(0, .ref l0), (1, .ref l1)] := hl
  exact X6_isWord_W hC hQ hf hw hl

def X9_takeRow_2_s (E : gE) (r_2 : Nat → Nat → Int32 → Int32 → gS → Option (Int32 × gS)) (l0 : Nat) (l1 : Nat) (l2 : Int32) (l3 : Int32) (σ : gS) : Option (Int32 × gS) :=
  ob (gfI σ l0 7 4) fun x1 =>
  if x1 ≤ l3 then
    some ((1 : Int32), σ)
  else
    ob (gcl σ l0 7) fun _ =>
    ob (X9_takeInteger_f E l0 σ) fun x3 =>
    if x3.1 = 0 then
      some ((0 : Int32), x3.2)
    else
      ob (gfI x3.2 l0 7 3) fun x6 =>
      ob (gwaI E x3.2 l1 (l2 + l3) x6) fun σ8 =>
      r_2 l0 l1 l2 (l3 + 1) σ8
set_option maxHeartbeats 4000000 in
set_option maxRecDepth 100000 in
theorem X9_takeRow_2_s_W {σ : gS} {l0 : Nat} {l1 : Nat} {l2 : Int32} {l3 : Int32} {res : (Int32 × gS)} {ls : Array Slot} (hC : gC E D A p R s m args meth c cX9_takeRow 4 RX9 "takeRow" 6 146) (hQ : gQI E D A p l e R s m args below meth c Q cX9_takeRow FieldType.boolean res) {r_2 : Nat → Nat → Int32 → Int32 → gS → Option (Int32 × gS)} (h_2 : ∀ {l0 : Nat} {l1 : Nat} {l2 : Int32} {l3 : Int32} {σ : gS} {H : Heap} {locs : List Loc} {cells slots : Nat} {ls : Array Slot}, r_2 l0 l1 l2 l3 σ = some res → gW E D A s σ H locs → lv_has ls 4 [(0, .ref l0), (1, .ref l1), (2, .int l2), (3, .int l3)] → W p l e R s m args below meth c H locs cells slots Q (F0 m 2 ls [])) (hf : X9_takeRow_2_s E r_2 l0 l1 l2 l3 σ = some res) (hw : gW E D A s σ H locs) (hl : lv_has ls 4 [(0, .ref l0), (1, .ref l1), (2, .int l2), (3, .int l3)]) : W p l e R s m args below meth c H locs cells slots Q (F0 m 2 ls []) := by
  have hC0 := hC
  obtain ⟨hx, hb, hml, hown, hts, -⟩ := hC0
  unfold X9_takeRow_2_s at hf
  refine lv_iload_n hx hb dX9_takeRow_2 rfl (lv_at hl 3 rfl) ?_
  refine lv_aload_n hx hb dX9_takeRow_3 rfl (lv_at hl 0 rfl) ?_
  obtain ⟨x1, h2, hf⟩ := ob_some hf
  refine rI_fl_X9_33 hC hw h2 dX9_takeRow_4 ?_
  refine lv_icmp_ge (tgt := 34) hx hb dX9_takeRow_7 (by decide) (fun c11 => ?_) (fun c11 => ?_)
  · replace hf := (if_pos c11).symm.trans hf
    refine lv_iconst (v := 1) hx hb dX9_takeRow_34 (by decide) ?_
    cases hf
    exact hQ _ _ _ _ _ _ dX9_takeRow_35 gz1 hw
  · replace hf := (if_neg c11).symm.trans hf
    refine lv_aload_n hx hb dX9_takeRow_10 rfl (lv_at hl 0 rfl) ?_
    obtain ⟨_, h5, hf⟩ := ob_some hf
    obtain ⟨x3, h4, hf⟩ := ob_some hf
    refine gg_cVI (As := []) hC hw (X9_takeInteger_M l E D A h4) h5 rfl g_ml_X9_109 hd_X9_takeInteger (Nat.le_of_ble_eq_true rfl) (Nat.le_of_ble_eq_true rfl) hl.1 rfl (Nat.le_of_ble_eq_true rfl) dX9_takeRow_11 (fun H locs cells slots hw => ?_)
    refine lv_if_ne (tgt := 19) hx hb dX9_takeRow_14 (by decide) (fun c10 => ?_) (fun c10 => ?_)
    · replace hf := (if_neg c10).symm.trans hf
      refine lv_aload_n hx hb dX9_takeRow_19 rfl (lv_at hl 1 rfl) ?_
      refine lv_iload_n hx hb dX9_takeRow_20 rfl (lv_at hl 2 rfl) ?_
      refine lv_iload_n hx hb dX9_takeRow_21 rfl (lv_at hl 3 rfl) ?_
      refine lv_iadd hx hb dX9_takeRow_22 ?_
      refine lv_aload_n hx hb dX9_takeRow_23 rfl (lv_at hl 0 rfl) ?_
      obtain ⟨x6, h7, hf⟩ := ob_some hf
      refine rI_fl_X9_91 hC hw h7 dX9_takeRow_24 ?_
      obtain ⟨σ8, h9, hf⟩ := ob_some hf
      refine gg_astI hC hw h9 dX9_takeRow_27 (fun H locs hw => ?_)
      refine lv_iinc (v := (l3 + 1)) (lv' := [(3, .int (l3 + 1)), (0, .ref l0), (1, .ref l1), (2, .int l2)]) hx hb dX9_takeRow_28 hl (k := 3) rfl rfl (by decide) rfl (fun ls hl => ?_)
      refine lv_goto (tgt := 2) hx hb dX9_takeRow_31 (by decide) ?_
      exact h_2 hf hw (lv_sub hl [1, 2, 3, 0] rfl)
    · replace hf := (if_pos c10).symm.trans hf
      refine lv_iconst (v := 0) hx hb dX9_takeRow_17 (by decide) ?_
      cases hf
      exact hQ _ _ _ _ _ _ dX9_takeRow_18 gz0 hw
def X9_takeRow_2 (E : gE) : Nat → Nat → Nat → Int32 → Int32 → gS → Option (Int32 × gS)
  | 0 => fun _ _ _ _ _ => none
  | n + 1 => X9_takeRow_2_s E (X9_takeRow_2 E n)
theorem X9_takeRow_2_W {res : (Int32 × gS)} (hC : gC E D A p R s m args meth c cX9_takeRow 4 RX9 "takeRow" 6 146) (hQ : gQI E D A p l e R s m args below meth c Q cX9_takeRow FieldType.boolean res) : ∀ (n : Nat), ∀ {l0 : Nat} {l1 : Nat} {l2 : Int32} {l3 : Int32} {σ : gS} {H : Heap} {locs : List Loc} {cells slots : Nat} {ls : Array Slot}, X9_takeRow_2 E n l0 l1 l2 l3 σ = some res → gW E D A s σ H locs → lv_has ls 4 [(0, .ref l0), (1, .ref l1), (2, .int l2), (3, .int l3)] → W p l e R s m args below meth c H locs cells slots Q (F0 m 2 ls []) := by
  intro n
  induction n with
  | zero =>
    intros
    rename_i hf _ _
    exact absurd hf (fun h => by cases (show (none : Option (Int32 × gS)) = some res from h))
  | succ n ih =>
    intros
    rename_i hf hw hl
    exact X9_takeRow_2_s_W hC hQ ih hf hw hl

def X9_takeRow (E : gE) (l0 : Nat) (l1 : Nat) (l2 : Int32) (σ : gS) : Option (Int32 × gS) :=
  X9_takeRow_2 E (gN E) l0 l1 l2 (0 : Int32) σ
set_option maxHeartbeats 4000000 in
set_option maxRecDepth 100000 in
theorem X9_takeRow_W {σ : gS} {l0 : Nat} {l1 : Nat} {l2 : Int32} {res : (Int32 × gS)} {ls : Array Slot} (hC : gC E D A p R s m args meth c cX9_takeRow 4 RX9 "takeRow" 6 146) (hQ : gQI E D A p l e R s m args below meth c Q cX9_takeRow FieldType.boolean res) (hf : X9_takeRow E l0 l1 l2 σ = some res) (hw : gW E D A s σ H locs) (hl : lv_has ls 4 [(0, .ref l0), (1, .ref l1), (2, .int l2)]) : W p l e R s m args below meth c H locs cells slots Q (F0 m 0 ls []) := by
  have hC0 := hC
  obtain ⟨hx, hb, hml, hown, hts, -⟩ := hC0
  unfold X9_takeRow at hf
  refine lv_iconst (v := 0) hx hb dX9_takeRow_0 (by decide) ?_
  refine lv_istore_n (lv' := [(3, .int (0 : Int32)), (0, .ref l0), (1, .ref l1), (2, .int l2)]) hx hb dX9_takeRow_1 rfl hl (by decide) rfl (fun ls hl => ?_)
  exact X9_takeRow_2_W hC hQ (gN E) hf hw (lv_sub hl [1, 2, 3, 0] rfl)

def X9_takeRow_f (E : gE) (l0 : Nat) (l1 : Nat) (l2 : Int32) (σ : gS) : Option (Int32 × gS) := X9_takeRow E l0 l1 l2 σ
set_option maxRecDepth 100000 in
theorem X9_takeRow_M (l : Launch) (E : gE) (D : va_G) (A : Nat → Prop) {l0 : Nat} {l1 : Nat} {l2 : Int32} {σ : gS} {res : (Int32 × gS)} (hf : X9_takeRow_f E l0 l1 l2 σ = some res) : gCI l E D A yX9_takeRow cX9_takeRow 4 6 146 (some FieldType.boolean) [.ref l0, .ref l1, .int l2] σ res := by
  refine gg_entI (own := RX9) (nm := "takeRow") (ty := FieldType.boolean) (by decide +kernel) rfl rfl (Nat.le_of_ble_eq_true rfl) rfl ?_
  intro p e R s m args below meth c Q ls hC hw hQ hl
  have hl : lv_has ls 4 [(0, .ref l0), (1, .ref l1), (2, .int l2)] := hl
  exact X9_takeRow_W hC hQ hf hw hl

def X9_takeWord (E : gE) (l0 : Nat) (l1 : Nat) (σ : gS) : Option (Int32 × gS) :=
  ob (gfR σ l0 7 0) fun x1 =>
  ob (gcl σ x1 5) fun _ =>
  ob (X6_isWord_f E σ x1 l1) fun x3 =>
  if x3 = 0 then
    ob (gcl σ l0 7) fun _ =>
    ob (X9_fail_f E l0 (1 : Int32) σ) fun x11 =>
    ob (gz x11.1) fun _ =>
    some (x11.1, x11.2)
  else
    ob (gfR σ l0 7 0) fun x6 =>
    ob (gcl σ x6 5) fun _ =>
    ob (X6_next_f E x6 σ) fun x8 =>
    some ((1 : Int32), x8)
set_option maxHeartbeats 4000000 in
set_option maxRecDepth 100000 in
theorem X9_takeWord_W {σ : gS} {l0 : Nat} {l1 : Nat} {res : (Int32 × gS)} {ls : Array Slot} (hC : gC E D A p R s m args meth c cX9_takeWord 2 RX9 "takeWord" 6 128) (hQ : gQI E D A p l e R s m args below meth c Q cX9_takeWord FieldType.boolean res) (hf : X9_takeWord E l0 l1 σ = some res) (hw : gW E D A s σ H locs) (hl : lv_has ls 2 [(0, .ref l0), (1, .ref l1)]) : W p l e R s m args below meth c H locs cells slots Q (F0 m 0 ls []) := by
  have hC0 := hC
  obtain ⟨hx, hb, hml, hown, hts, -⟩ := hC0
  unfold X9_takeWord at hf
  refine lv_aload_n hx hb dX9_takeWord_0 rfl (lv_at hl 0 rfl) ?_
  obtain ⟨x1, h2, hf⟩ := ob_some hf
  refine rR_fl_X9_25 hC hw h2 dX9_takeWord_1 ?_
  refine lv_aload_n hx hb dX9_takeWord_4 rfl (lv_at hl 1 rfl) ?_
  obtain ⟨_, h5, hf⟩ := ob_some hf
  obtain ⟨x3, h4, hf⟩ := ob_some hf
  refine gg_cVI (As := [.ref l1]) hC hw (X6_isWord_M l E D A h4) h5 rfl g_ml_X9_133 hd_X6_isWord (Nat.le_of_ble_eq_true rfl) (Nat.le_of_ble_eq_true rfl) hl.1 rfl (Nat.le_of_ble_eq_true rfl) dX9_takeWord_5 (fun H locs cells slots hw => ?_)
  refine lv_if_ne (tgt := 17) hx hb dX9_takeWord_8 (by decide) (fun c15 => ?_) (fun c15 => ?_)
  · replace hf := (if_neg c15).symm.trans hf
    refine lv_aload_n hx hb dX9_takeWord_17 rfl (lv_at hl 0 rfl) ?_
    obtain ⟨x6, h7, hf⟩ := ob_some hf
    refine rR_fl_X9_25 hC hw h7 dX9_takeWord_18 ?_
    obtain ⟨_, h10, hf⟩ := ob_some hf
    obtain ⟨x8, h9, hf⟩ := ob_some hf
    refine gg_cVV (As := []) hC hw (X6_next_M l E D A h9) h10 rfl g_ml_X9_120 hd_X6_next (Nat.le_of_ble_eq_true rfl) (Nat.le_of_ble_eq_true rfl) hl.1 rfl (Nat.le_of_ble_eq_true rfl) dX9_takeWord_21 (fun H locs cells slots hw => ?_)
    refine lv_iconst (v := 1) hx hb dX9_takeWord_24 (by decide) ?_
    cases hf
    exact hQ _ _ _ _ _ _ dX9_takeWord_25 gz1 hw
  · replace hf := (if_pos c15).symm.trans hf
    refine lv_aload_n hx hb dX9_takeWord_11 rfl (lv_at hl 0 rfl) ?_
    refine lv_iconst (v := 1) hx hb dX9_takeWord_12 (by decide) ?_
    obtain ⟨_, h13, hf⟩ := ob_some hf
    obtain ⟨x11, h12, hf⟩ := ob_some hf
    refine gg_cVI (As := [.int (1 : Int32)]) hC hw (X9_fail_M l E D A h12) h13 rfl g_ml_X9_100 hd_X9_fail (Nat.le_of_ble_eq_true rfl) (Nat.le_of_ble_eq_true rfl) hl.1 rfl (Nat.le_of_ble_eq_true rfl) dX9_takeWord_13 (fun H locs cells slots hw => ?_)
    obtain ⟨_, h14, hf⟩ := ob_some hf
    cases hf
    exact hQ _ _ _ _ _ _ dX9_takeWord_16 (gz_some h14) hw

def X9_takeWord_f (E : gE) (l0 : Nat) (l1 : Nat) (σ : gS) : Option (Int32 × gS) := X9_takeWord E l0 l1 σ
set_option maxRecDepth 100000 in
theorem X9_takeWord_M (l : Launch) (E : gE) (D : va_G) (A : Nat → Prop) {l0 : Nat} {l1 : Nat} {σ : gS} {res : (Int32 × gS)} (hf : X9_takeWord_f E l0 l1 σ = some res) : gCI l E D A yX9_takeWord cX9_takeWord 2 6 128 (some FieldType.boolean) [.ref l0, .ref l1] σ res := by
  refine gg_entI (own := RX9) (nm := "takeWord") (ty := FieldType.boolean) (by decide +kernel) rfl rfl (Nat.le_of_ble_eq_true rfl) rfl ?_
  intro p e R s m args below meth c Q ls hC hw hQ hl
  have hl : lv_has ls 2 [(0, .ref l0), (1, .ref l1)] := hl
  exact X9_takeWord_W hC hQ hf hw hl

def X9_readRow_33 (E : gE) (σ : gS) : Option (Int32 × gS) :=
  some ((0 : Int32), σ)
set_option maxHeartbeats 4000000 in
set_option maxRecDepth 100000 in
theorem X9_readRow_33_W {σ : gS} {res : (Int32 × gS)} {ls : Array Slot} (hC : gC E D A p R s m args meth c cX9_readRow 3 RX9 "readRow" 7 169) (hQ : gQI E D A p l e R s m args below meth c Q cX9_readRow FieldType.boolean res) (hf : X9_readRow_33 E σ = some res) (hw : gW E D A s σ H locs) (hl : lv_has ls 3 []) : W p l e R s m args below meth c H locs cells slots Q (F0 m 33 ls []) := by
  have hC0 := hC
  obtain ⟨hx, hb, hml, hown, hts, -⟩ := hC0
  unfold X9_readRow_33 at hf
  refine lv_iconst (v := 0) hx hb dX9_readRow_33 (by decide) ?_
  cases hf
  exact hQ _ _ _ _ _ _ dX9_readRow_34 gz0 hw

def X9_readRow (E : gE) (l0 : Nat) (l1 : Int32) (l2 : Int32) (σ : gS) : Option (Int32 × gS) :=
  ob (gcl σ l0 7) fun _ =>
  ob (X9_start_f E l0 l1 σ) fun x1 =>
  ob (gpf E x1 l0 7 4 (.int l2)) fun σ4 =>
  ob (gfR σ4 l0 7 6) fun x6 =>
  ob (gcl σ4 l0 7) fun _ =>
  ob (X9_takeRow_f E l0 x6 (0 : Int32) σ4) fun x8 =>
  if x8.1 = 0 then
    X9_readRow_33 E x8.2
  else
    ob (gcl x8.2 l0 7) fun _ =>
    ob (X9_takeEnd_f E l0 x8.2) fun x11 =>
    if x11.1 = 0 then
      X9_readRow_33 E x11.2
    else
      some ((1 : Int32), x11.2)
set_option maxHeartbeats 4000000 in
set_option maxRecDepth 100000 in
theorem X9_readRow_W {σ : gS} {l0 : Nat} {l1 : Int32} {l2 : Int32} {res : (Int32 × gS)} {ls : Array Slot} (hC : gC E D A p R s m args meth c cX9_readRow 3 RX9 "readRow" 7 169) (hQ : gQI E D A p l e R s m args below meth c Q cX9_readRow FieldType.boolean res) (hf : X9_readRow E l0 l1 l2 σ = some res) (hw : gW E D A s σ H locs) (hl : lv_has ls 3 [(0, .ref l0), (1, .int l1), (2, .int l2)]) : W p l e R s m args below meth c H locs cells slots Q (F0 m 0 ls []) := by
  have hC0 := hC
  obtain ⟨hx, hb, hml, hown, hts, -⟩ := hC0
  unfold X9_readRow at hf
  refine lv_aload_n hx hb dX9_readRow_0 rfl (lv_at hl 0 rfl) ?_
  refine lv_iload_n hx hb dX9_readRow_1 rfl (lv_at hl 1 rfl) ?_
  obtain ⟨_, h3, hf⟩ := ob_some hf
  obtain ⟨x1, h2, hf⟩ := ob_some hf
  refine gg_cVV (As := [.int l1]) hC hw (X9_start_M l E D A h2) h3 rfl g_ml_X9_42 hd_X9_start (Nat.le_of_ble_eq_true rfl) (Nat.le_of_ble_eq_true rfl) hl.1 rfl (Nat.le_of_ble_eq_true rfl) dX9_readRow_2 (fun H locs cells slots hw => ?_)
  refine lv_aload_n hx hb dX9_readRow_5 rfl (lv_at hl 0 rfl) ?_
  refine lv_iload_n hx hb dX9_readRow_6 rfl (lv_at hl 2 rfl) ?_
  obtain ⟨σ4, h5, hf⟩ := ob_some hf
  refine p_fl_X9_33 hC hw h5 rfl rfl dX9_readRow_7 (fun H locs hw => ?_)
  refine lv_aload_n hx hb dX9_readRow_10 rfl (lv_at hl 0 rfl) ?_
  refine lv_aload_n hx hb dX9_readRow_11 rfl (lv_at hl 0 rfl) ?_
  obtain ⟨x6, h7, hf⟩ := ob_some hf
  refine rR_fl_X9_15 hC hw h7 dX9_readRow_12 ?_
  refine lv_iconst (v := 0) hx hb dX9_readRow_15 (by decide) ?_
  obtain ⟨_, h10, hf⟩ := ob_some hf
  obtain ⟨x8, h9, hf⟩ := ob_some hf
  refine gg_cVI (As := [.ref x6, .int (0 : Int32)]) hC hw (X9_takeRow_M l E D A h9) h10 rfl g_ml_X9_58 hd_X9_takeRow (Nat.le_of_ble_eq_true rfl) (Nat.le_of_ble_eq_true rfl) hl.1 rfl (Nat.le_of_ble_eq_true rfl) dX9_readRow_16 (fun H locs cells slots hw => ?_)
  refine lv_if_eq (tgt := 33) hx hb dX9_readRow_19 (by decide) (fun c15 => ?_) (fun c15 => ?_)
  · replace hf := (if_pos c15).symm.trans hf
    exact X9_readRow_33_W hC hQ hf hw (lv_sub hl [] rfl)
  · replace hf := (if_neg c15).symm.trans hf
    refine lv_aload_n hx hb dX9_readRow_22 rfl (lv_at hl 0 rfl) ?_
    obtain ⟨_, h13, hf⟩ := ob_some hf
    obtain ⟨x11, h12, hf⟩ := ob_some hf
    refine gg_cVI (As := []) hC hw (X9_takeEnd_M l E D A h12) h13 rfl g_ml_X9_62 hd_X9_takeEnd (Nat.le_of_ble_eq_true rfl) (Nat.le_of_ble_eq_true rfl) hl.1 rfl (Nat.le_of_ble_eq_true rfl) dX9_readRow_23 (fun H locs cells slots hw => ?_)
    refine lv_if_eq (tgt := 33) hx hb dX9_readRow_26 (by decide) (fun c14 => ?_) (fun c14 => ?_)
    · replace hf := (if_pos c14).symm.trans hf
      exact X9_readRow_33_W hC hQ hf hw (lv_sub hl [] rfl)
    · replace hf := (if_neg c14).symm.trans hf
      refine lv_iconst (v := 1) hx hb dX9_readRow_29 (by decide) ?_
      refine lv_goto (tgt := 34) hx hb dX9_readRow_30 (by decide) ?_
      cases hf
      exact hQ _ _ _ _ _ _ dX9_readRow_34 gz1 hw

def X9_readRow_f (E : gE) (l0 : Nat) (l1 : Int32) (l2 : Int32) (σ : gS) : Option (Int32 × gS) := X9_readRow E l0 l1 l2 σ
set_option maxRecDepth 100000 in
theorem X9_readRow_M (l : Launch) (E : gE) (D : va_G) (A : Nat → Prop) {l0 : Nat} {l1 : Int32} {l2 : Int32} {σ : gS} {res : (Int32 × gS)} (hf : X9_readRow_f E l0 l1 l2 σ = some res) : gCI l E D A yX9_readRow cX9_readRow 3 7 169 (some FieldType.boolean) [.ref l0, .int l1, .int l2] σ res := by
  refine gg_entI (own := RX9) (nm := "readRow") (ty := FieldType.boolean) (by decide +kernel) rfl rfl (Nat.le_of_ble_eq_true rfl) rfl ?_
  intro p e R s m args below meth c Q ls hC hw hQ hl
  have hl : lv_has ls 3 [(0, .ref l0), (1, .int l1), (2, .int l2)] := hl
  exact X9_readRow_W hC hQ hf hw hl

def X9_takeHead_19 (E : gE) (σ : gS) : Option (Int32 × gS) :=
  some ((0 : Int32), σ)
set_option maxHeartbeats 4000000 in
set_option maxRecDepth 100000 in
theorem X9_takeHead_19_W {σ : gS} {res : (Int32 × gS)} {ls : Array Slot} (hC : gC E D A p R s m args meth c cX9_takeHead 1 RX9 "takeHead" 7 149) (hQ : gQI E D A p l e R s m args below meth c Q cX9_takeHead FieldType.boolean res) (hf : X9_takeHead_19 E σ = some res) (hw : gW E D A s σ H locs) (hl : lv_has ls 1 []) : W p l e R s m args below meth c H locs cells slots Q (F0 m 19 ls []) := by
  have hC0 := hC
  obtain ⟨hx, hb, hml, hown, hts, -⟩ := hC0
  unfold X9_takeHead_19 at hf
  refine lv_iconst (v := 0) hx hb dX9_takeHead_19 (by decide) ?_
  cases hf
  exact hQ _ _ _ _ _ _ dX9_takeHead_20 gz0 hw

def X9_takeHead (E : gE) (l0 : Nat) (σ : gS) : Option (Int32 × gS) :=
  ob (gcl σ l0 7) fun _ =>
  ob (X9_takeWord_f E l0 (gst E 0) σ) fun x1 =>
  if x1.1 = 0 then
    X9_takeHead_19 E x1.2
  else
    ob (gcl x1.2 l0 7) fun _ =>
    ob (X9_takeNumber_f E l0 (1 : Int32) (6 : Int32) x1.2) fun x4 =>
    if x4.1 = 0 then
      X9_takeHead_19 E x4.2
    else
      ob (gfI x4.2 l0 7 3) fun x7 =>
      ob (gpf E x4.2 l0 7 4 (.int x7)) fun σ9 =>
      ob (gcl σ9 l0 7) fun _ =>
      ob (X9_takeSemicolon_f E l0 σ9) fun x11 =>
      ob (gz x11.1) fun _ =>
      some (x11.1, x11.2)
set_option maxHeartbeats 4000000 in
set_option maxRecDepth 100000 in
theorem X9_takeHead_W {σ : gS} {l0 : Nat} {res : (Int32 × gS)} {ls : Array Slot} (hC : gC E D A p R s m args meth c cX9_takeHead 1 RX9 "takeHead" 7 149) (hQ : gQI E D A p l e R s m args below meth c Q cX9_takeHead FieldType.boolean res) (hf : X9_takeHead E l0 σ = some res) (hw : gW E D A s σ H locs) (hl : lv_has ls 1 [(0, .ref l0)]) : W p l e R s m args below meth c H locs cells slots Q (F0 m 0 ls []) := by
  have hC0 := hC
  obtain ⟨hx, hb, hml, hown, hts, -⟩ := hC0
  unfold X9_takeHead at hf
  refine lv_aload_n hx hb dX9_takeHead_0 rfl (lv_at hl 0 rfl) ?_
  refine gg_ldcS hC (k := 0) rfl rfl rfl dX9_takeHead_1 ?_
  obtain ⟨_, h3, hf⟩ := ob_some hf
  obtain ⟨x1, h2, hf⟩ := ob_some hf
  refine gg_cVI (As := [.ref (gst E 0)]) hC hw (X9_takeWord_M l E D A h2) h3 rfl g_ml_X9_83 hd_X9_takeWord (Nat.le_of_ble_eq_true rfl) (Nat.le_of_ble_eq_true rfl) hl.1 rfl (Nat.le_of_ble_eq_true rfl) dX9_takeHead_3 (fun H locs cells slots hw => ?_)
  refine lv_if_eq (tgt := 19) hx hb dX9_takeHead_6 (by decide) (fun c16 => ?_) (fun c16 => ?_)
  · replace hf := (if_pos c16).symm.trans hf
    exact X9_takeHead_19_W hC hQ hf hw (lv_sub hl [] rfl)
  · replace hf := (if_neg c16).symm.trans hf
    refine lv_aload_n hx hb dX9_takeHead_9 rfl (lv_at hl 0 rfl) ?_
    refine lv_iconst (v := 1) hx hb dX9_takeHead_10 (by decide) ?_
    refine lv_bipush (v := 6) hx hb dX9_takeHead_11 (by decide) ?_
    obtain ⟨_, h6, hf⟩ := ob_some hf
    obtain ⟨x4, h5, hf⟩ := ob_some hf
    refine gg_cVI (As := [.int (1 : Int32), .int (6 : Int32)]) hC hw (X9_takeNumber_M l E D A h5) h6 rfl g_ml_X9_87 hd_X9_takeNumber (Nat.le_of_ble_eq_true rfl) (Nat.le_of_ble_eq_true rfl) hl.1 rfl (Nat.le_of_ble_eq_true rfl) dX9_takeHead_13 (fun H locs cells slots hw => ?_)
    refine lv_if_ne (tgt := 21) hx hb dX9_takeHead_16 (by decide) (fun c15 => ?_) (fun c15 => ?_)
    · replace hf := (if_neg c15).symm.trans hf
      refine lv_aload_n hx hb dX9_takeHead_21 rfl (lv_at hl 0 rfl) ?_
      refine lv_aload_n hx hb dX9_takeHead_22 rfl (lv_at hl 0 rfl) ?_
      obtain ⟨x7, h8, hf⟩ := ob_some hf
      refine rI_fl_X9_91 hC hw h8 dX9_takeHead_23 ?_
      obtain ⟨σ9, h10, hf⟩ := ob_some hf
      refine p_fl_X9_33 hC hw h10 rfl rfl dX9_takeHead_26 (fun H locs hw => ?_)
      refine lv_aload_n hx hb dX9_takeHead_29 rfl (lv_at hl 0 rfl) ?_
      obtain ⟨_, h13, hf⟩ := ob_some hf
      obtain ⟨x11, h12, hf⟩ := ob_some hf
      refine gg_cVI (As := []) hC hw (X9_takeSemicolon_M l E D A h12) h13 rfl g_ml_X9_72 hd_X9_takeSemicolon (Nat.le_of_ble_eq_true rfl) (Nat.le_of_ble_eq_true rfl) hl.1 rfl (Nat.le_of_ble_eq_true rfl) dX9_takeHead_30 (fun H locs cells slots hw => ?_)
      obtain ⟨_, h14, hf⟩ := ob_some hf
      cases hf
      exact hQ _ _ _ _ _ _ dX9_takeHead_33 (gz_some h14) hw
    · replace hf := (if_pos c15).symm.trans hf
      exact X9_takeHead_19_W hC hQ hf hw (lv_sub hl [] rfl)

def X9_takeHead_f (E : gE) (l0 : Nat) (σ : gS) : Option (Int32 × gS) := X9_takeHead E l0 σ
set_option maxRecDepth 100000 in
theorem X9_takeHead_M (l : Launch) (E : gE) (D : va_G) (A : Nat → Prop) {l0 : Nat} {σ : gS} {res : (Int32 × gS)} (hf : X9_takeHead_f E l0 σ = some res) : gCI l E D A yX9_takeHead cX9_takeHead 1 7 149 (some FieldType.boolean) [.ref l0] σ res := by
  refine gg_entI (own := RX9) (nm := "takeHead") (ty := FieldType.boolean) (by decide +kernel) rfl rfl (Nat.le_of_ble_eq_true rfl) rfl ?_
  intro p e R s m args below meth c Q ls hC hw hQ hl
  have hl : lv_has ls 1 [(0, .ref l0)] := hl
  exact X9_takeHead_W hC hQ hf hw hl

def X9_takeTableRow_41 (E : gE) (σ : gS) : Option (Int32 × gS) :=
  some ((0 : Int32), σ)
set_option maxHeartbeats 4000000 in
set_option maxRecDepth 100000 in
theorem X9_takeTableRow_41_W {σ : gS} {res : (Int32 × gS)} {ls : Array Slot} (hC : gC E D A p R s m args meth c cX9_takeTableRow 1 RX9 "takeTableRow" 7 169) (hQ : gQI E D A p l e R s m args below meth c Q cX9_takeTableRow FieldType.boolean res) (hf : X9_takeTableRow_41 E σ = some res) (hw : gW E D A s σ H locs) (hl : lv_has ls 1 []) : W p l e R s m args below meth c H locs cells slots Q (F0 m 41 ls []) := by
  have hC0 := hC
  obtain ⟨hx, hb, hml, hown, hts, -⟩ := hC0
  unfold X9_takeTableRow_41 at hf
  refine lv_iconst (v := 0) hx hb dX9_takeTableRow_41 (by decide) ?_
  cases hf
  exact hQ _ _ _ _ _ _ dX9_takeTableRow_42 gz0 hw

def X9_takeTableRow (E : gE) (l0 : Nat) (σ : gS) : Option (Int32 × gS) :=
  ob (gfI σ l0 7 5) fun x1 =>
  if x1 = (60 : Int32) then
    ob (gcl σ l0 7) fun _ =>
    ob (X9_failAtExtraRow_f E l0 σ) fun x21 =>
    ob (gz x21.1) fun _ =>
    some (x21.1, x21.2)
  else
    ob (gfR σ l0 7 6) fun x3 =>
    ob (gfI σ l0 7 5) fun x5 =>
    ob (gfI σ l0 7 4) fun x7 =>
    ob (gcl σ l0 7) fun _ =>
    ob (X9_takeRow_f E l0 x3 (x5 * x7) σ) fun x9 =>
    if x9.1 = 0 then
      X9_takeTableRow_41 E x9.2
    else
      ob (gcl x9.2 l0 7) fun _ =>
      ob (X9_takeSemicolon_f E l0 x9.2) fun x12 =>
      if x12.1 = 0 then
        X9_takeTableRow_41 E x12.2
      else
        ob (gfI x12.2 l0 7 5) fun x15 =>
        ob (gpf E x12.2 l0 7 5 (.int (x15 + (1 : Int32)))) fun σ17 =>
        some ((1 : Int32), σ17)
set_option maxHeartbeats 4000000 in
set_option maxRecDepth 100000 in
theorem X9_takeTableRow_W {σ : gS} {l0 : Nat} {res : (Int32 × gS)} {ls : Array Slot} (hC : gC E D A p R s m args meth c cX9_takeTableRow 1 RX9 "takeTableRow" 7 169) (hQ : gQI E D A p l e R s m args below meth c Q cX9_takeTableRow FieldType.boolean res) (hf : X9_takeTableRow E l0 σ = some res) (hw : gW E D A s σ H locs) (hl : lv_has ls 1 [(0, .ref l0)]) : W p l e R s m args below meth c H locs cells slots Q (F0 m 0 ls []) := by
  have hC0 := hC
  obtain ⟨hx, hb, hml, hown, hts, -⟩ := hC0
  unfold X9_takeTableRow at hf
  refine lv_aload_n hx hb dX9_takeTableRow_0 rfl (lv_at hl 0 rfl) ?_
  obtain ⟨x1, h2, hf⟩ := ob_some hf
  refine rI_fl_X9_36 hC hw h2 dX9_takeTableRow_1 ?_
  refine lv_bipush (v := 60) hx hb dX9_takeTableRow_4 (by decide) ?_
  refine lv_icmp_ne (tgt := 14) hx hb dX9_takeTableRow_6 (by decide) (fun c25 => ?_) (fun c25 => ?_)
  · replace hf := (if_neg c25).symm.trans hf
    refine lv_aload_n hx hb dX9_takeTableRow_14 rfl (lv_at hl 0 rfl) ?_
    refine lv_aload_n hx hb dX9_takeTableRow_15 rfl (lv_at hl 0 rfl) ?_
    obtain ⟨x3, h4, hf⟩ := ob_some hf
    refine rR_fl_X9_15 hC hw h4 dX9_takeTableRow_16 ?_
    refine lv_aload_n hx hb dX9_takeTableRow_19 rfl (lv_at hl 0 rfl) ?_
    obtain ⟨x5, h6, hf⟩ := ob_some hf
    refine rI_fl_X9_36 hC hw h6 dX9_takeTableRow_20 ?_
    refine lv_aload_n hx hb dX9_takeTableRow_23 rfl (lv_at hl 0 rfl) ?_
    obtain ⟨x7, h8, hf⟩ := ob_some hf
    refine rI_fl_X9_33 hC hw h8 dX9_takeTableRow_24 ?_
    refine lv_imul hx hb dX9_takeTableRow_27 ?_
    obtain ⟨_, h11, hf⟩ := ob_some hf
    obtain ⟨x9, h10, hf⟩ := ob_some hf
    refine gg_cVI (As := [.ref x3, .int (x5 * x7)]) hC hw (X9_takeRow_M l E D A h10) h11 rfl g_ml_X9_58 hd_X9_takeRow (Nat.le_of_ble_eq_true rfl) (Nat.le_of_ble_eq_true rfl) hl.1 rfl (Nat.le_of_ble_eq_true rfl) dX9_takeTableRow_28 (fun H locs cells slots hw => ?_)
    refine lv_if_eq (tgt := 41) hx hb dX9_takeTableRow_31 (by decide) (fun c20 => ?_) (fun c20 => ?_)
    · replace hf := (if_pos c20).symm.trans hf
      exact X9_takeTableRow_41_W hC hQ hf hw (lv_sub hl [] rfl)
    · replace hf := (if_neg c20).symm.trans hf
      refine lv_aload_n hx hb dX9_takeTableRow_34 rfl (lv_at hl 0 rfl) ?_
      obtain ⟨_, h14, hf⟩ := ob_some hf
      obtain ⟨x12, h13, hf⟩ := ob_some hf
      refine gg_cVI (As := []) hC hw (X9_takeSemicolon_M l E D A h13) h14 rfl g_ml_X9_72 hd_X9_takeSemicolon (Nat.le_of_ble_eq_true rfl) (Nat.le_of_ble_eq_true rfl) hl.1 rfl (Nat.le_of_ble_eq_true rfl) dX9_takeTableRow_35 (fun H locs cells slots hw => ?_)
      refine lv_if_ne (tgt := 43) hx hb dX9_takeTableRow_38 (by decide) (fun c19 => ?_) (fun c19 => ?_)
      · replace hf := (if_neg c19).symm.trans hf
        refine lv_aload_n hx hb dX9_takeTableRow_43 rfl (lv_at hl 0 rfl) ?_
        refine lv_dup hx hb dX9_takeTableRow_44 rfl ?_
        obtain ⟨x15, h16, hf⟩ := ob_some hf
        refine rI_fl_X9_36 hC hw h16 dX9_takeTableRow_45 ?_
        refine lv_iconst (v := 1) hx hb dX9_takeTableRow_48 (by decide) ?_
        refine lv_iadd hx hb dX9_takeTableRow_49 ?_
        obtain ⟨σ17, h18, hf⟩ := ob_some hf
        refine p_fl_X9_36 hC hw h18 rfl rfl dX9_takeTableRow_50 (fun H locs hw => ?_)
        refine lv_iconst (v := 1) hx hb dX9_takeTableRow_53 (by decide) ?_
        cases hf
        exact hQ _ _ _ _ _ _ dX9_takeTableRow_54 gz1 hw
      · replace hf := (if_pos c19).symm.trans hf
        exact X9_takeTableRow_41_W hC hQ hf hw (lv_sub hl [] rfl)
  · replace hf := (if_pos c25).symm.trans hf
    refine lv_aload_n hx hb dX9_takeTableRow_9 rfl (lv_at hl 0 rfl) ?_
    obtain ⟨_, h23, hf⟩ := ob_some hf
    obtain ⟨x21, h22, hf⟩ := ob_some hf
    refine gg_cVI (As := []) hC hw (X9_failAtExtraRow_M l E D A h22) h23 rfl g_ml_X9_94 hd_X9_failAtExtraRow (Nat.le_of_ble_eq_true rfl) (Nat.le_of_ble_eq_true rfl) hl.1 rfl (Nat.le_of_ble_eq_true rfl) dX9_takeTableRow_10 (fun H locs cells slots hw => ?_)
    obtain ⟨_, h24, hf⟩ := ob_some hf
    cases hf
    exact hQ _ _ _ _ _ _ dX9_takeTableRow_13 (gz_some h24) hw

def X9_takeTableRow_f (E : gE) (l0 : Nat) (σ : gS) : Option (Int32 × gS) := X9_takeTableRow E l0 σ
set_option maxRecDepth 100000 in
theorem X9_takeTableRow_M (l : Launch) (E : gE) (D : va_G) (A : Nat → Prop) {l0 : Nat} {σ : gS} {res : (Int32 × gS)} (hf : X9_takeTableRow_f E l0 σ = some res) : gCI l E D A yX9_takeTableRow cX9_takeTableRow 1 7 169 (some FieldType.boolean) [.ref l0] σ res := by
  refine gg_entI (own := RX9) (nm := "takeTableRow") (ty := FieldType.boolean) (by decide +kernel) rfl rfl (Nat.le_of_ble_eq_true rfl) rfl ?_
  intro p e R s m args below meth c Q ls hC hw hQ hl
  have hl : lv_has ls 1 [(0, .ref l0)] := hl
  exact X9_takeTableRow_W hC hQ hf hw hl

def X9_readTable_47 (E : gE) (σ : gS) : Option (Int32 × gS) :=
  some ((1 : Int32), σ)
set_option maxHeartbeats 4000000 in
set_option maxRecDepth 100000 in
theorem X9_readTable_47_W {σ : gS} {res : (Int32 × gS)} {ls : Array Slot} (hC : gC E D A p R s m args meth c cX9_readTable 3 RX9 "readTable" 8 189) (hQ : gQI E D A p l e R s m args below meth c Q cX9_readTable FieldType.boolean res) (hf : X9_readTable_47 E σ = some res) (hw : gW E D A s σ H locs) (hl : lv_has ls 3 []) : W p l e R s m args below meth c H locs cells slots Q (F0 m 47 ls []) := by
  have hC0 := hC
  obtain ⟨hx, hb, hml, hown, hts, -⟩ := hC0
  unfold X9_readTable_47 at hf
  refine lv_iconst (v := 1) hx hb dX9_readTable_47 (by decide) ?_
  cases hf
  exact hQ _ _ _ _ _ _ dX9_readTable_48 gz1 hw

def X9_readTable_16_s (E : gE) (r_16 : Nat → Int32 → gS → Option (Int32 × gS)) (l0 : Nat) (l2 : Int32) (σ : gS) : Option (Int32 × gS) :=
  if (60 : Int32) < l2 then
    X9_readTable_47 E σ
  else
    ob (gfR σ l0 7 0) fun x1 =>
    ob (gcl σ x1 5) fun _ =>
    ob (X6_isAtEnd_f E σ x1) fun x3 =>
    if x3 = 0 then
      ob (gcl σ l0 7) fun _ =>
      ob (X9_takeTableRow_f E l0 σ) fun x6 =>
      if x6.1 = 0 then
        some ((0 : Int32), x6.2)
      else
        r_16 l0 (l2 + 1) x6.2
    else
      X9_readTable_47 E σ
set_option maxHeartbeats 4000000 in
set_option maxRecDepth 100000 in
theorem X9_readTable_16_s_W {σ : gS} {l0 : Nat} {l2 : Int32} {res : (Int32 × gS)} {ls : Array Slot} (hC : gC E D A p R s m args meth c cX9_readTable 3 RX9 "readTable" 8 189) (hQ : gQI E D A p l e R s m args below meth c Q cX9_readTable FieldType.boolean res) {r_16 : Nat → Int32 → gS → Option (Int32 × gS)} (h_16 : ∀ {l0 : Nat} {l2 : Int32} {σ : gS} {H : Heap} {locs : List Loc} {cells slots : Nat} {ls : Array Slot}, r_16 l0 l2 σ = some res → gW E D A s σ H locs → lv_has ls 3 [(0, .ref l0), (2, .int l2)] → W p l e R s m args below meth c H locs cells slots Q (F0 m 16 ls [])) (hf : X9_readTable_16_s E r_16 l0 l2 σ = some res) (hw : gW E D A s σ H locs) (hl : lv_has ls 3 [(0, .ref l0), (2, .int l2)]) : W p l e R s m args below meth c H locs cells slots Q (F0 m 16 ls []) := by
  have hC0 := hC
  obtain ⟨hx, hb, hml, hown, hts, -⟩ := hC0
  unfold X9_readTable_16_s at hf
  refine lv_iload_n hx hb dX9_readTable_16 rfl (lv_at hl 1 rfl) ?_
  refine lv_bipush (v := 60) hx hb dX9_readTable_17 (by decide) ?_
  refine lv_icmp_gt (tgt := 47) hx hb dX9_readTable_19 (by decide) (fun c11 => ?_) (fun c11 => ?_)
  · replace hf := (if_pos c11).symm.trans hf
    exact X9_readTable_47_W hC hQ hf hw (lv_sub hl [] rfl)
  · replace hf := (if_neg c11).symm.trans hf
    refine lv_aload_n hx hb dX9_readTable_22 rfl (lv_at hl 0 rfl) ?_
    obtain ⟨x1, h2, hf⟩ := ob_some hf
    refine rR_fl_X9_25 hC hw h2 dX9_readTable_23 ?_
    obtain ⟨_, h5, hf⟩ := ob_some hf
    obtain ⟨x3, h4, hf⟩ := ob_some hf
    refine gg_cVI (As := []) hC hw (X6_isAtEnd_M l E D A h4) h5 rfl g_ml_X9_50 hd_X6_isAtEnd (Nat.le_of_ble_eq_true rfl) (Nat.le_of_ble_eq_true rfl) hl.1 rfl (Nat.le_of_ble_eq_true rfl) dX9_readTable_26 (fun H locs cells slots hw => ?_)
    refine lv_if_ne (tgt := 47) hx hb dX9_readTable_29 (by decide) (fun c10 => ?_) (fun c10 => ?_)
    · replace hf := (if_neg c10).symm.trans hf
      exact X9_readTable_47_W hC hQ hf hw (lv_sub hl [] rfl)
    · replace hf := (if_pos c10).symm.trans hf
      refine lv_aload_n hx hb dX9_readTable_32 rfl (lv_at hl 0 rfl) ?_
      obtain ⟨_, h8, hf⟩ := ob_some hf
      obtain ⟨x6, h7, hf⟩ := ob_some hf
      refine gg_cVI (As := []) hC hw (X9_takeTableRow_M l E D A h7) h8 rfl g_ml_X9_55 hd_X9_takeTableRow (Nat.le_of_ble_eq_true rfl) (Nat.le_of_ble_eq_true rfl) hl.1 rfl (Nat.le_of_ble_eq_true rfl) dX9_readTable_33 (fun H locs cells slots hw => ?_)
      refine lv_if_ne (tgt := 41) hx hb dX9_readTable_36 (by decide) (fun c9 => ?_) (fun c9 => ?_)
      · replace hf := (if_neg c9).symm.trans hf
        refine lv_iinc (v := (l2 + 1)) (lv' := [(2, .int (l2 + 1)), (0, .ref l0)]) hx hb dX9_readTable_41 hl (k := 1) rfl rfl (by decide) rfl (fun ls hl => ?_)
        refine lv_goto (tgt := 16) hx hb dX9_readTable_44 (by decide) ?_
        exact h_16 hf hw (lv_sub hl [1, 0] rfl)
      · replace hf := (if_pos c9).symm.trans hf
        refine lv_iconst (v := 0) hx hb dX9_readTable_39 (by decide) ?_
        cases hf
        exact hQ _ _ _ _ _ _ dX9_readTable_40 gz0 hw
def X9_readTable_16 (E : gE) : Nat → Nat → Int32 → gS → Option (Int32 × gS)
  | 0 => fun _ _ _ => none
  | n + 1 => X9_readTable_16_s E (X9_readTable_16 E n)
theorem X9_readTable_16_W {res : (Int32 × gS)} (hC : gC E D A p R s m args meth c cX9_readTable 3 RX9 "readTable" 8 189) (hQ : gQI E D A p l e R s m args below meth c Q cX9_readTable FieldType.boolean res) : ∀ (n : Nat), ∀ {l0 : Nat} {l2 : Int32} {σ : gS} {H : Heap} {locs : List Loc} {cells slots : Nat} {ls : Array Slot}, X9_readTable_16 E n l0 l2 σ = some res → gW E D A s σ H locs → lv_has ls 3 [(0, .ref l0), (2, .int l2)] → W p l e R s m args below meth c H locs cells slots Q (F0 m 16 ls []) := by
  intro n
  induction n with
  | zero =>
    intros
    rename_i hf _ _
    exact absurd hf (fun h => by cases (show (none : Option (Int32 × gS)) = some res from h))
  | succ n ih =>
    intros
    rename_i hf hw hl
    exact X9_readTable_16_s_W hC hQ ih hf hw hl

def X9_readTable (E : gE) (l0 : Nat) (l1 : Int32) (σ : gS) : Option (Int32 × gS) :=
  ob (gcl σ l0 7) fun _ =>
  ob (X9_start_f E l0 l1 σ) fun x12 =>
  ob (gcl x12 l0 7) fun _ =>
  ob (X9_takeHead_f E l0 x12) fun x15 =>
  if x15.1 = 0 then
    some ((0 : Int32), x15.2)
  else
    X9_readTable_16 E (gN E) l0 (0 : Int32) x15.2
set_option maxHeartbeats 4000000 in
set_option maxRecDepth 100000 in
theorem X9_readTable_W {σ : gS} {l0 : Nat} {l1 : Int32} {res : (Int32 × gS)} {ls : Array Slot} (hC : gC E D A p R s m args meth c cX9_readTable 3 RX9 "readTable" 8 189) (hQ : gQI E D A p l e R s m args below meth c Q cX9_readTable FieldType.boolean res) (hf : X9_readTable E l0 l1 σ = some res) (hw : gW E D A s σ H locs) (hl : lv_has ls 3 [(0, .ref l0), (1, .int l1)]) : W p l e R s m args below meth c H locs cells slots Q (F0 m 0 ls []) := by
  have hC0 := hC
  obtain ⟨hx, hb, hml, hown, hts, -⟩ := hC0
  unfold X9_readTable at hf
  refine lv_aload_n hx hb dX9_readTable_0 rfl (lv_at hl 0 rfl) ?_
  refine lv_iload_n hx hb dX9_readTable_1 rfl (lv_at hl 1 rfl) ?_
  obtain ⟨_, h14, hf⟩ := ob_some hf
  obtain ⟨x12, h13, hf⟩ := ob_some hf
  refine gg_cVV (As := [.int l1]) hC hw (X9_start_M l E D A h13) h14 rfl g_ml_X9_42 hd_X9_start (Nat.le_of_ble_eq_true rfl) (Nat.le_of_ble_eq_true rfl) hl.1 rfl (Nat.le_of_ble_eq_true rfl) dX9_readTable_2 (fun H locs cells slots hw => ?_)
  refine lv_aload_n hx hb dX9_readTable_5 rfl (lv_at hl 0 rfl) ?_
  obtain ⟨_, h17, hf⟩ := ob_some hf
  obtain ⟨x15, h16, hf⟩ := ob_some hf
  refine gg_cVI (As := []) hC hw (X9_takeHead_M l E D A h16) h17 rfl g_ml_X9_46 hd_X9_takeHead (Nat.le_of_ble_eq_true rfl) (Nat.le_of_ble_eq_true rfl) hl.1 rfl (Nat.le_of_ble_eq_true rfl) dX9_readTable_6 (fun H locs cells slots hw => ?_)
  refine lv_if_ne (tgt := 14) hx hb dX9_readTable_9 (by decide) (fun c18 => ?_) (fun c18 => ?_)
  · replace hf := (if_neg c18).symm.trans hf
    refine lv_iconst (v := 0) hx hb dX9_readTable_14 (by decide) ?_
    refine lv_istore_n (lv' := [(2, .int (0 : Int32)), (0, .ref l0), (1, .int l1)]) hx hb dX9_readTable_15 rfl hl (by decide) rfl (fun ls hl => ?_)
    exact X9_readTable_16_W hC hQ (gN E) hf hw (lv_sub hl [1, 0] rfl)
  · replace hf := (if_pos c18).symm.trans hf
    refine lv_iconst (v := 0) hx hb dX9_readTable_12 (by decide) ?_
    cases hf
    exact hQ _ _ _ _ _ _ dX9_readTable_13 gz0 hw

def X9_readTable_f (E : gE) (l0 : Nat) (l1 : Int32) (σ : gS) : Option (Int32 × gS) := X9_readTable E l0 l1 σ
set_option maxRecDepth 100000 in
theorem X9_readTable_M (l : Launch) (E : gE) (D : va_G) (A : Nat → Prop) {l0 : Nat} {l1 : Int32} {σ : gS} {res : (Int32 × gS)} (hf : X9_readTable_f E l0 l1 σ = some res) : gCI l E D A yX9_readTable cX9_readTable 3 8 189 (some FieldType.boolean) [.ref l0, .int l1] σ res := by
  refine gg_entI (own := RX9) (nm := "readTable") (ty := FieldType.boolean) (by decide +kernel) rfl rfl (Nat.le_of_ble_eq_true rfl) rfl ?_
  intro p e R s m args below meth c Q ls hC hw hQ hl
  have hl : lv_has ls 3 [(0, .ref l0), (1, .int l1)] := hl
  exact X9_readTable_W hC hQ hf hw hl

end MB1
