/-! decompiled: X13_strictestCondition, X13_isSelected, X13_selectedCount, X13_selectedRow, X13_rejectedBy, X13_sumOf, X13_sumSelected, X13_extreme, X13_smallestSelected, X13_greatestSelected, X13_isFirstSelected, X13_distinctSelected, X13_meanSelected, X13_selectivity, X13_bitWidthWith, X13_putInOrder, X13_runsInOrder, X13_runsBy, X13_runsIfSorted, X13_bestSortColumn, X13_selectsByCodes -/
section MM3
variable {p : Program} {l : Launch} {e : Env} {R : Room} {s : State} {m : MethodId} {args : Array Value} {below : List Frame} {meth : Method} {c : Code} {H : Heap} {locs : List Loc} {cells slots : Nat} {Q : State → Prop} {E : gE} {D : va_G} {A : Nat → Prop}
def X13_strictestCondition_42 (E : gE) (r_9 : Nat → Int32 → Int32 → gS → Option (Int32 × gS)) (l0 : Nat) (l2 : Int32) (s0 : Int32) (σ : gS) : Option (Int32 × gS) :=
  r_9 l0 s0 (l2 + 1) σ
set_option maxHeartbeats 4000000 in
set_option maxRecDepth 100000 in
theorem X13_strictestCondition_42_W {σ : gS} {l0 : Nat} {l2 : Int32} {s0 : Int32} {res : (Int32 × gS)} {ls : Array Slot} (hC : gC E D A p R s m args meth c cX13_strictestCondition 3 RX13 "strictestCondition" 4 91) (hQ : gQI E D A p l e R s m args below meth c Q cX13_strictestCondition FieldType.int res) {r_9 : Nat → Int32 → Int32 → gS → Option (Int32 × gS)} (h_9 : ∀ {l0 : Nat} {l1 : Int32} {l2 : Int32} {σ : gS} {H : Heap} {locs : List Loc} {cells slots : Nat} {ls : Array Slot}, r_9 l0 l1 l2 σ = some res → gW E D A s σ H locs → lv_has ls 3 [(0, .ref l0), (1, .int l1), (2, .int l2)] → W p l e R s m args below meth c H locs cells slots Q (F0 m 9 ls [])) (hf : X13_strictestCondition_42 E r_9 l0 l2 s0 σ = some res) (hw : gW E D A s σ H locs) (hl : lv_has ls 3 [(0, .ref l0), (2, .int l2)]) : W p l e R s m args below meth c H locs cells slots Q (F0 m 42 ls [.int s0]) := by
  have hC0 := hC
  obtain ⟨hx, hb, hml, hown, hts, -⟩ := hC0
  unfold X13_strictestCondition_42 at hf
  refine lv_istore_n (lv' := [(1, .int s0), (0, .ref l0), (2, .int l2)]) hx hb dX13_strictestCondition_42 rfl hl (by decide) rfl (fun ls hl => ?_)
  refine lv_iinc (v := (l2 + 1)) (lv' := [(2, .int (l2 + 1)), (1, .int s0), (0, .ref l0)]) hx hb dX13_strictestCondition_43 hl (k := 2) rfl rfl (by decide) rfl (fun ls hl => ?_)
  refine lv_goto (tgt := 9) hx hb dX13_strictestCondition_46 (by decide) ?_
  exact h_9 hf hw (lv_sub hl [2, 1, 0] rfl)

def X13_strictestCondition_37 (E : gE) (r_9 : Nat → Int32 → Int32 → gS → Option (Int32 × gS)) (l0 : Nat) (l2 : Int32) (σ : gS) : Option (Int32 × gS) :=
  X13_strictestCondition_42 E r_9 l0 l2 l2 σ
set_option maxHeartbeats 4000000 in
set_option maxRecDepth 100000 in
theorem X13_strictestCondition_37_W {σ : gS} {l0 : Nat} {l2 : Int32} {res : (Int32 × gS)} {ls : Array Slot} (hC : gC E D A p R s m args meth c cX13_strictestCondition 3 RX13 "strictestCondition" 4 91) (hQ : gQI E D A p l e R s m args below meth c Q cX13_strictestCondition FieldType.int res) {r_9 : Nat → Int32 → Int32 → gS → Option (Int32 × gS)} (h_9 : ∀ {l0 : Nat} {l1 : Int32} {l2 : Int32} {σ : gS} {H : Heap} {locs : List Loc} {cells slots : Nat} {ls : Array Slot}, r_9 l0 l1 l2 σ = some res → gW E D A s σ H locs → lv_has ls 3 [(0, .ref l0), (1, .int l1), (2, .int l2)] → W p l e R s m args below meth c H locs cells slots Q (F0 m 9 ls [])) (hf : X13_strictestCondition_37 E r_9 l0 l2 σ = some res) (hw : gW E D A s σ H locs) (hl : lv_has ls 3 [(0, .ref l0), (2, .int l2)]) : W p l e R s m args below meth c H locs cells slots Q (F0 m 37 ls []) := by
  have hC0 := hC
  obtain ⟨hx, hb, hml, hown, hts, -⟩ := hC0
  unfold X13_strictestCondition_37 at hf
  refine lv_iload_n hx hb dX13_strictestCondition_37 rfl (lv_at hl 1 rfl) ?_
  refine lv_goto (tgt := 42) hx hb dX13_strictestCondition_38 (by decide) ?_
  exact X13_strictestCondition_42_W hC hQ h_9 hf hw (lv_sub hl [0, 1] rfl)

def X13_strictestCondition_9_s (E : gE) (r_9 : Nat → Int32 → Int32 → gS → Option (Int32 × gS)) (l0 : Nat) (l1 : Int32) (l2 : Int32) (σ : gS) : Option (Int32 × gS) :=
  ob (gfR σ l0 11 8) fun x1 =>
  ob (graI E 0 σ x1 (2 : Int32)) fun x3 =>
  if x3 ≤ l2 then
    some (l1, σ)
  else
    if l1 = (-1 : Int32) then
      X13_strictestCondition_37 E r_9 l0 l2 σ
    else
      ob (gcl σ l0 11) fun _ =>
      ob (X13_countMatches_f E σ l0 l2) fun x5 =>
      ob (gcl σ l0 11) fun _ =>
      ob (X13_countMatches_f E σ l0 l1) fun x8 =>
      if x8 ≤ x5 then
        X13_strictestCondition_42 E r_9 l0 l2 l1 σ
      else
        X13_strictestCondition_37 E r_9 l0 l2 σ
set_option maxHeartbeats 4000000 in
set_option maxRecDepth 100000 in
theorem X13_strictestCondition_9_s_W {σ : gS} {l0 : Nat} {l1 : Int32} {l2 : Int32} {res : (Int32 × gS)} {ls : Array Slot} (hC : gC E D A p R s m args meth c cX13_strictestCondition 3 RX13 "strictestCondition" 4 91) (hQ : gQI E D A p l e R s m args below meth c Q cX13_strictestCondition FieldType.int res) {r_9 : Nat → Int32 → Int32 → gS → Option (Int32 × gS)} (h_9 : ∀ {l0 : Nat} {l1 : Int32} {l2 : Int32} {σ : gS} {H : Heap} {locs : List Loc} {cells slots : Nat} {ls : Array Slot}, r_9 l0 l1 l2 σ = some res → gW E D A s σ H locs → lv_has ls 3 [(0, .ref l0), (1, .int l1), (2, .int l2)] → W p l e R s m args below meth c H locs cells slots Q (F0 m 9 ls [])) (hf : X13_strictestCondition_9_s E r_9 l0 l1 l2 σ = some res) (hw : gW E D A s σ H locs) (hl : lv_has ls 3 [(0, .ref l0), (1, .int l1), (2, .int l2)]) : W p l e R s m args below meth c H locs cells slots Q (F0 m 9 ls []) := by
  have hC0 := hC
  obtain ⟨hx, hb, hml, hown, hts, -⟩ := hC0
  unfold X13_strictestCondition_9_s at hf
  refine lv_iload_n hx hb dX13_strictestCondition_9 rfl (lv_at hl 2 rfl) ?_
  refine lv_aload_n hx hb dX13_strictestCondition_10 rfl (lv_at hl 0 rfl) ?_
  obtain ⟨x1, h2, hf⟩ := ob_some hf
  refine rR_fl_X13_35 hC hw h2 dX13_strictestCondition_11 ?_
  refine lv_iconst (v := 2) hx hb dX13_strictestCondition_14 (by decide) ?_
  obtain ⟨x3, h4, hf⟩ := ob_some hf
  refine gg_aldI hC hw h4 dX13_strictestCondition_15 ?_
  refine lv_icmp_ge (tgt := 49) hx hb dX13_strictestCondition_16 (by decide) (fun c13 => ?_) (fun c13 => ?_)
  · replace hf := (if_pos c13).symm.trans hf
    refine lv_iload_n hx hb dX13_strictestCondition_49 rfl (lv_at hl 1 rfl) ?_
    cases hf
    exact hQ _ _ _ _ _ _ dX13_strictestCondition_50 rfl hw
  · replace hf := (if_neg c13).symm.trans hf
    refine lv_iload_n hx hb dX13_strictestCondition_19 rfl (lv_at hl 1 rfl) ?_
    refine lv_iconst (v := -1) hx hb dX13_strictestCondition_20 (by decide) ?_
    refine lv_icmp_eq (tgt := 37) hx hb dX13_strictestCondition_21 (by decide) (fun c12 => ?_) (fun c12 => ?_)
    · replace hf := (if_pos c12).symm.trans hf
      exact X13_strictestCondition_37_W hC hQ h_9 hf hw (lv_sub hl [0, 2] rfl)
    · replace hf := (if_neg c12).symm.trans hf
      refine lv_aload_n hx hb dX13_strictestCondition_24 rfl (lv_at hl 0 rfl) ?_
      refine lv_iload_n hx hb dX13_strictestCondition_25 rfl (lv_at hl 2 rfl) ?_
      obtain ⟨_, h7, hf⟩ := ob_some hf
      obtain ⟨x5, h6, hf⟩ := ob_some hf
      refine gg_cVI (As := [.int l2]) hC hw (X13_countMatches_M l E D A h6) h7 rfl g_ml_X13_195 hd_X13_countMatches (Nat.le_of_ble_eq_true rfl) (Nat.le_of_ble_eq_true rfl) hl.1 rfl (Nat.le_of_ble_eq_true rfl) dX13_strictestCondition_26 (fun H locs cells slots hw => ?_)
      refine lv_aload_n hx hb dX13_strictestCondition_29 rfl (lv_at hl 0 rfl) ?_
      refine lv_iload_n hx hb dX13_strictestCondition_30 rfl (lv_at hl 1 rfl) ?_
      obtain ⟨_, h10, hf⟩ := ob_some hf
      obtain ⟨x8, h9, hf⟩ := ob_some hf
      refine gg_cVI (As := [.int l1]) hC hw (X13_countMatches_M l E D A h9) h10 rfl g_ml_X13_195 hd_X13_countMatches (Nat.le_of_ble_eq_true rfl) (Nat.le_of_ble_eq_true rfl) hl.1 rfl (Nat.le_of_ble_eq_true rfl) dX13_strictestCondition_31 (fun H locs cells slots hw => ?_)
      refine lv_icmp_ge (tgt := 41) hx hb dX13_strictestCondition_34 (by decide) (fun c11 => ?_) (fun c11 => ?_)
      · replace hf := (if_pos c11).symm.trans hf
        refine lv_iload_n hx hb dX13_strictestCondition_41 rfl (lv_at hl 1 rfl) ?_
        exact X13_strictestCondition_42_W hC hQ h_9 hf hw (lv_sub hl [0, 2] rfl)
      · replace hf := (if_neg c11).symm.trans hf
        exact X13_strictestCondition_37_W hC hQ h_9 hf hw (lv_sub hl [0, 2] rfl)
def X13_strictestCondition_9 (E : gE) : Nat → Nat → Int32 → Int32 → gS → Option (Int32 × gS)
  | 0 => fun _ _ _ _ => none
  | n + 1 => X13_strictestCondition_9_s E (X13_strictestCondition_9 E n)
theorem X13_strictestCondition_9_W {res : (Int32 × gS)} (hC : gC E D A p R s m args meth c cX13_strictestCondition 3 RX13 "strictestCondition" 4 91) (hQ : gQI E D A p l e R s m args below meth c Q cX13_strictestCondition FieldType.int res) : ∀ (n : Nat), ∀ {l0 : Nat} {l1 : Int32} {l2 : Int32} {σ : gS} {H : Heap} {locs : List Loc} {cells slots : Nat} {ls : Array Slot}, X13_strictestCondition_9 E n l0 l1 l2 σ = some res → gW E D A s σ H locs → lv_has ls 3 [(0, .ref l0), (1, .int l1), (2, .int l2)] → W p l e R s m args below meth c H locs cells slots Q (F0 m 9 ls []) := by
  intro n
  induction n with
  | zero =>
    intros
    rename_i hf _ _
    exact absurd hf (fun h => by cases (show (none : Option (Int32 × gS)) = some res from h))
  | succ n ih =>
    intros
    rename_i hf hw hl
    exact X13_strictestCondition_9_s_W hC hQ ih hf hw hl

def X13_strictestCondition (E : gE) (l0 : Nat) (σ : gS) : Option (Int32 × gS) :=
  ob (gpf E σ l0 11 10 (.int (0 : Int32))) fun σ14 =>
  X13_strictestCondition_9 E (gN E) l0 (-1 : Int32) (0 : Int32) σ14
set_option maxHeartbeats 4000000 in
set_option maxRecDepth 100000 in
theorem X13_strictestCondition_W {σ : gS} {l0 : Nat} {res : (Int32 × gS)} {ls : Array Slot} (hC : gC E D A p R s m args meth c cX13_strictestCondition 3 RX13 "strictestCondition" 4 91) (hQ : gQI E D A p l e R s m args below meth c Q cX13_strictestCondition FieldType.int res) (hf : X13_strictestCondition E l0 σ = some res) (hw : gW E D A s σ H locs) (hl : lv_has ls 3 [(0, .ref l0)]) : W p l e R s m args below meth c H locs cells slots Q (F0 m 0 ls []) := by
  have hC0 := hC
  obtain ⟨hx, hb, hml, hown, hts, -⟩ := hC0
  unfold X13_strictestCondition at hf
  refine lv_aload_n hx hb dX13_strictestCondition_0 rfl (lv_at hl 0 rfl) ?_
  refine lv_iconst (v := 0) hx hb dX13_strictestCondition_1 (by decide) ?_
  obtain ⟨σ14, h15, hf⟩ := ob_some hf
  refine p_fl_X13_85 hC hw h15 rfl rfl dX13_strictestCondition_2 (fun H locs hw => ?_)
  refine lv_iconst (v := -1) hx hb dX13_strictestCondition_5 (by decide) ?_
  refine lv_istore_n (lv' := [(1, .int (-1 : Int32)), (0, .ref l0)]) hx hb dX13_strictestCondition_6 rfl hl (by decide) rfl (fun ls hl => ?_)
  refine lv_iconst (v := 0) hx hb dX13_strictestCondition_7 (by decide) ?_
  refine lv_istore_n (lv' := [(2, .int (0 : Int32)), (1, .int (-1 : Int32)), (0, .ref l0)]) hx hb dX13_strictestCondition_8 rfl hl (by decide) rfl (fun ls hl => ?_)
  exact X13_strictestCondition_9_W hC hQ (gN E) hf hw (lv_sub hl [2, 1, 0] rfl)

def X13_strictestCondition_f (E : gE) (l0 : Nat) (σ : gS) : Option (Int32 × gS) := X13_strictestCondition E l0 σ
set_option maxRecDepth 100000 in
theorem X13_strictestCondition_M (l : Launch) (E : gE) (D : va_G) (A : Nat → Prop) {l0 : Nat} {σ : gS} {res : (Int32 × gS)} (hf : X13_strictestCondition_f E l0 σ = some res) : gCI l E D A yX13_strictestCondition cX13_strictestCondition 3 4 91 (some FieldType.int) [.ref l0] σ res := by
  refine gg_entI (own := RX13) (nm := "strictestCondition") (ty := FieldType.int) (by decide +kernel) rfl rfl (Nat.le_of_ble_eq_true rfl) rfl ?_
  intro p e R s m args below meth c Q ls hC hw hQ hl
  have hl : lv_has ls 3 [(0, .ref l0)] := hl
  exact X13_strictestCondition_W hC hQ hf hw hl

def X13_isSelected_24 (E : gE) (σ : gS) : Option (Int32 × gS) :=
  some ((0 : Int32), σ)
set_option maxHeartbeats 4000000 in
set_option maxRecDepth 100000 in
theorem X13_isSelected_24_W {σ : gS} {res : (Int32 × gS)} {ls : Array Slot} (hC : gC E D A p R s m args meth c cX13_isSelected 2 RX13 "isSelected" 5 111) (hQ : gQI E D A p l e R s m args below meth c Q cX13_isSelected FieldType.boolean res) (hf : X13_isSelected_24 E σ = some res) (hw : gW E D A s σ H locs) (hl : lv_has ls 2 []) : W p l e R s m args below meth c H locs cells slots Q (F0 m 24 ls []) := by
  have hC0 := hC
  obtain ⟨hx, hb, hml, hown, hts, -⟩ := hC0
  unfold X13_isSelected_24 at hf
  refine lv_iconst (v := 0) hx hb dX13_isSelected_24 (by decide) ?_
  cases hf
  exact hQ _ _ _ _ _ _ dX13_isSelected_25 gz0 hw

def X13_isSelected (E : gE) (l0 : Nat) (l1 : Int32) (σ : gS) : Option (Int32 × gS) :=
  ob (gcl σ l0 11) fun _ =>
  ob (X13_isRow_f E σ l0 l1) fun x1 =>
  ob (gcl σ l0 11) fun _ =>
  ob (X13_lacks_f E l0 x1 σ) fun x4 =>
  if x4.1 = 0 then
    ob (gcl x4.2 l0 11) fun _ =>
    ob (X13_selects_f E x4.2 l0 l1) fun x7 =>
    if x7 = 0 then
      X13_isSelected_24 E x4.2
    else
      some ((1 : Int32), x4.2)
  else
    X13_isSelected_24 E x4.2
set_option maxHeartbeats 4000000 in
set_option maxRecDepth 100000 in
theorem X13_isSelected_W {σ : gS} {l0 : Nat} {l1 : Int32} {res : (Int32 × gS)} {ls : Array Slot} (hC : gC E D A p R s m args meth c cX13_isSelected 2 RX13 "isSelected" 5 111) (hQ : gQI E D A p l e R s m args below meth c Q cX13_isSelected FieldType.boolean res) (hf : X13_isSelected E l0 l1 σ = some res) (hw : gW E D A s σ H locs) (hl : lv_has ls 2 [(0, .ref l0), (1, .int l1)]) : W p l e R s m args below meth c H locs cells slots Q (F0 m 0 ls []) := by
  have hC0 := hC
  obtain ⟨hx, hb, hml, hown, hts, -⟩ := hC0
  unfold X13_isSelected at hf
  refine lv_aload_n hx hb dX13_isSelected_0 rfl (lv_at hl 0 rfl) ?_
  refine lv_aload_n hx hb dX13_isSelected_1 rfl (lv_at hl 0 rfl) ?_
  refine lv_iload_n hx hb dX13_isSelected_2 rfl (lv_at hl 1 rfl) ?_
  obtain ⟨_, h3, hf⟩ := ob_some hf
  obtain ⟨x1, h2, hf⟩ := ob_some hf
  refine gg_cVI (As := [.int l1]) hC hw (X13_isRow_M l E D A h2) h3 rfl g_ml_X13_127 hd_X13_isRow (Nat.le_of_ble_eq_true rfl) (Nat.le_of_ble_eq_true rfl) hl.1 rfl (Nat.le_of_ble_eq_true rfl) dX13_isSelected_3 (fun H locs cells slots hw => ?_)
  obtain ⟨_, h6, hf⟩ := ob_some hf
  obtain ⟨x4, h5, hf⟩ := ob_some hf
  refine gg_cVI (As := [.int x1]) hC hw (X13_lacks_M l E D A h5) h6 rfl g_ml_X13_88 hd_X13_lacks (Nat.le_of_ble_eq_true rfl) (Nat.le_of_ble_eq_true rfl) hl.1 rfl (Nat.le_of_ble_eq_true rfl) dX13_isSelected_6 (fun H locs cells slots hw => ?_)
  refine lv_if_ne (tgt := 24) hx hb dX13_isSelected_9 (by decide) (fun c11 => ?_) (fun c11 => ?_)
  · replace hf := (if_neg c11).symm.trans hf
    exact X13_isSelected_24_W hC hQ hf hw (lv_sub hl [] rfl)
  · replace hf := (if_pos c11).symm.trans hf
    refine lv_aload_n hx hb dX13_isSelected_12 rfl (lv_at hl 0 rfl) ?_
    refine lv_iload_n hx hb dX13_isSelected_13 rfl (lv_at hl 1 rfl) ?_
    obtain ⟨_, h9, hf⟩ := ob_some hf
    obtain ⟨x7, h8, hf⟩ := ob_some hf
    refine gg_cVI (As := [.int l1]) hC hw (X13_selects_M l E D A h8) h9 rfl g_ml_X13_183 hd_X13_selects (Nat.le_of_ble_eq_true rfl) (Nat.le_of_ble_eq_true rfl) hl.1 rfl (Nat.le_of_ble_eq_true rfl) dX13_isSelected_14 (fun H locs cells slots hw => ?_)
    refine lv_if_eq (tgt := 24) hx hb dX13_isSelected_17 (by decide) (fun c10 => ?_) (fun c10 => ?_)
    · replace hf := (if_pos c10).symm.trans hf
      exact X13_isSelected_24_W hC hQ hf hw (lv_sub hl [] rfl)
    · replace hf := (if_neg c10).symm.trans hf
      refine lv_iconst (v := 1) hx hb dX13_isSelected_20 (by decide) ?_
      refine lv_goto (tgt := 25) hx hb dX13_isSelected_21 (by decide) ?_
      cases hf
      exact hQ _ _ _ _ _ _ dX13_isSelected_25 gz1 hw

def X13_isSelected_f (E : gE) (l0 : Nat) (l1 : Int32) (σ : gS) : Option (Int32 × gS) := X13_isSelected E l0 l1 σ
set_option maxRecDepth 100000 in
theorem X13_isSelected_M (l : Launch) (E : gE) (D : va_G) (A : Nat → Prop) {l0 : Nat} {l1 : Int32} {σ : gS} {res : (Int32 × gS)} (hf : X13_isSelected_f E l0 l1 σ = some res) : gCI l E D A yX13_isSelected cX13_isSelected 2 5 111 (some FieldType.boolean) [.ref l0, .int l1] σ res := by
  refine gg_entI (own := RX13) (nm := "isSelected") (ty := FieldType.boolean) (by decide +kernel) rfl rfl (Nat.le_of_ble_eq_true rfl) rfl ?_
  intro p e R s m args below meth c Q ls hC hw hQ hl
  have hl : lv_has ls 2 [(0, .ref l0), (1, .int l1)] := hl
  exact X13_isSelected_W hC hQ hf hw hl

def X13_selectedCount (E : gE) (l0 : Nat) (σ : gS) : Option (Int32 × gS) :=
  ob (gpf E σ l0 11 10 (.int (0 : Int32))) fun σ1 =>
  ob (gcl σ1 l0 11) fun _ =>
  ob (X13_countSelected_f E σ1 l0) fun x3 =>
  some (x3, σ1)
set_option maxHeartbeats 4000000 in
set_option maxRecDepth 100000 in
theorem X13_selectedCount_W {σ : gS} {l0 : Nat} {res : (Int32 × gS)} {ls : Array Slot} (hC : gC E D A p R s m args meth c cX13_selectedCount 1 RX13 "selectedCount" 6 133) (hQ : gQI E D A p l e R s m args below meth c Q cX13_selectedCount FieldType.int res) (hf : X13_selectedCount E l0 σ = some res) (hw : gW E D A s σ H locs) (hl : lv_has ls 1 [(0, .ref l0)]) : W p l e R s m args below meth c H locs cells slots Q (F0 m 0 ls []) := by
  have hC0 := hC
  obtain ⟨hx, hb, hml, hown, hts, -⟩ := hC0
  unfold X13_selectedCount at hf
  refine lv_aload_n hx hb dX13_selectedCount_0 rfl (lv_at hl 0 rfl) ?_
  refine lv_iconst (v := 0) hx hb dX13_selectedCount_1 (by decide) ?_
  obtain ⟨σ1, h2, hf⟩ := ob_some hf
  refine p_fl_X13_85 hC hw h2 rfl rfl dX13_selectedCount_2 (fun H locs hw => ?_)
  refine lv_aload_n hx hb dX13_selectedCount_5 rfl (lv_at hl 0 rfl) ?_
  obtain ⟨_, h5, hf⟩ := ob_some hf
  obtain ⟨x3, h4, hf⟩ := ob_some hf
  refine gg_cVI (As := []) hC hw (X13_countSelected_M l E D A h4) h5 rfl g_ml_X13_198 hd_X13_countSelected (Nat.le_of_ble_eq_true rfl) (Nat.le_of_ble_eq_true rfl) hl.1 rfl (Nat.le_of_ble_eq_true rfl) dX13_selectedCount_6 (fun H locs cells slots hw => ?_)
  cases hf
  exact hQ _ _ _ _ _ _ dX13_selectedCount_9 rfl hw

def X13_selectedCount_f (E : gE) (l0 : Nat) (σ : gS) : Option (Int32 × gS) := X13_selectedCount E l0 σ
set_option maxRecDepth 100000 in
theorem X13_selectedCount_M (l : Launch) (E : gE) (D : va_G) (A : Nat → Prop) {l0 : Nat} {σ : gS} {res : (Int32 × gS)} (hf : X13_selectedCount_f E l0 σ = some res) : gCI l E D A yX13_selectedCount cX13_selectedCount 1 6 133 (some FieldType.int) [.ref l0] σ res := by
  refine gg_entI (own := RX13) (nm := "selectedCount") (ty := FieldType.int) (by decide +kernel) rfl rfl (Nat.le_of_ble_eq_true rfl) rfl ?_
  intro p e R s m args below meth c Q ls hC hw hQ hl
  have hl : lv_has ls 1 [(0, .ref l0)] := hl
  exact X13_selectedCount_W hC hQ hf hw hl

def X13_selectedRow_40 (E : gE) (r_9 : Nat → Int32 → Int32 → gS → Option (Int32 × gS)) (l0 : Nat) (l2 : Int32) (l3 : Int32) (σ : gS) : Option (Int32 × gS) :=
  r_9 l0 l2 (l3 + 1) σ
set_option maxHeartbeats 4000000 in
set_option maxRecDepth 100000 in
theorem X13_selectedRow_40_W {σ : gS} {l0 : Nat} {l2 : Int32} {l3 : Int32} {res : (Int32 × gS)} {ls : Array Slot} (hC : gC E D A p R s m args meth c cX13_selectedRow 4 RX13 "selectedRow" 5 111) (hQ : gQI E D A p l e R s m args below meth c Q cX13_selectedRow FieldType.int res) {r_9 : Nat → Int32 → Int32 → gS → Option (Int32 × gS)} (h_9 : ∀ {l0 : Nat} {l2 : Int32} {l3 : Int32} {σ : gS} {H : Heap} {locs : List Loc} {cells slots : Nat} {ls : Array Slot}, r_9 l0 l2 l3 σ = some res → gW E D A s σ H locs → lv_has ls 4 [(0, .ref l0), (2, .int l2), (3, .int l3)] → W p l e R s m args below meth c H locs cells slots Q (F0 m 9 ls [])) (hf : X13_selectedRow_40 E r_9 l0 l2 l3 σ = some res) (hw : gW E D A s σ H locs) (hl : lv_has ls 4 [(0, .ref l0), (2, .int l2), (3, .int l3)]) : W p l e R s m args below meth c H locs cells slots Q (F0 m 40 ls []) := by
  have hC0 := hC
  obtain ⟨hx, hb, hml, hown, hts, -⟩ := hC0
  unfold X13_selectedRow_40 at hf
  refine lv_iinc (v := (l3 + 1)) (lv' := [(3, .int (l3 + 1)), (0, .ref l0), (2, .int l2)]) hx hb dX13_selectedRow_40 hl (k := 2) rfl rfl (by decide) rfl (fun ls hl => ?_)
  refine lv_goto (tgt := 9) hx hb dX13_selectedRow_43 (by decide) ?_
  exact h_9 hf hw (lv_sub hl [1, 2, 0] rfl)

def X13_selectedRow_46 (E : gE) (σ : gS) : Option (Int32 × gS) :=
  some ((-1 : Int32), σ)
set_option maxHeartbeats 4000000 in
set_option maxRecDepth 100000 in
theorem X13_selectedRow_46_W {σ : gS} {res : (Int32 × gS)} {ls : Array Slot} (hC : gC E D A p R s m args meth c cX13_selectedRow 4 RX13 "selectedRow" 5 111) (hQ : gQI E D A p l e R s m args below meth c Q cX13_selectedRow FieldType.int res) (hf : X13_selectedRow_46 E σ = some res) (hw : gW E D A s σ H locs) (hl : lv_has ls 4 []) : W p l e R s m args below meth c H locs cells slots Q (F0 m 46 ls []) := by
  have hC0 := hC
  obtain ⟨hx, hb, hml, hown, hts, -⟩ := hC0
  unfold X13_selectedRow_46 at hf
  refine lv_iconst (v := -1) hx hb dX13_selectedRow_46 (by decide) ?_
  cases hf
  exact hQ _ _ _ _ _ _ dX13_selectedRow_47 rfl hw

def X13_selectedRow_9_s (E : gE) (r_9 : Nat → Int32 → Int32 → gS → Option (Int32 × gS)) (l0 : Nat) (l2 : Int32) (l3 : Int32) (σ : gS) : Option (Int32 × gS) :=
  ob (gfR σ l0 11 8) fun x1 =>
  ob (graI E 0 σ x1 (1 : Int32)) fun x3 =>
  if x3 ≤ l3 then
    X13_selectedRow_46 E σ
  else
    if l2 < 0 then
      X13_selectedRow_46 E σ
    else
      ob (gcl σ l0 11) fun _ =>
      ob (X13_selects_f E σ l0 l3) fun x5 =>
      if x5 = 0 then
        X13_selectedRow_40 E r_9 l0 l2 l3 σ
      else
        if l2 = 0 then
          some (l3, σ)
        else
          X13_selectedRow_40 E r_9 l0 (l2 + -1) l3 σ
set_option maxHeartbeats 4000000 in
set_option maxRecDepth 100000 in
theorem X13_selectedRow_9_s_W {σ : gS} {l0 : Nat} {l2 : Int32} {l3 : Int32} {res : (Int32 × gS)} {ls : Array Slot} (hC : gC E D A p R s m args meth c cX13_selectedRow 4 RX13 "selectedRow" 5 111) (hQ : gQI E D A p l e R s m args below meth c Q cX13_selectedRow FieldType.int res) {r_9 : Nat → Int32 → Int32 → gS → Option (Int32 × gS)} (h_9 : ∀ {l0 : Nat} {l2 : Int32} {l3 : Int32} {σ : gS} {H : Heap} {locs : List Loc} {cells slots : Nat} {ls : Array Slot}, r_9 l0 l2 l3 σ = some res → gW E D A s σ H locs → lv_has ls 4 [(0, .ref l0), (2, .int l2), (3, .int l3)] → W p l e R s m args below meth c H locs cells slots Q (F0 m 9 ls [])) (hf : X13_selectedRow_9_s E r_9 l0 l2 l3 σ = some res) (hw : gW E D A s σ H locs) (hl : lv_has ls 4 [(0, .ref l0), (2, .int l2), (3, .int l3)]) : W p l e R s m args below meth c H locs cells slots Q (F0 m 9 ls []) := by
  have hC0 := hC
  obtain ⟨hx, hb, hml, hown, hts, -⟩ := hC0
  unfold X13_selectedRow_9_s at hf
  refine lv_iload_n hx hb dX13_selectedRow_9 rfl (lv_at hl 2 rfl) ?_
  refine lv_aload_n hx hb dX13_selectedRow_10 rfl (lv_at hl 0 rfl) ?_
  obtain ⟨x1, h2, hf⟩ := ob_some hf
  refine rR_fl_X13_35 hC hw h2 dX13_selectedRow_11 ?_
  refine lv_iconst (v := 1) hx hb dX13_selectedRow_14 (by decide) ?_
  obtain ⟨x3, h4, hf⟩ := ob_some hf
  refine gg_aldI hC hw h4 dX13_selectedRow_15 ?_
  refine lv_icmp_ge (tgt := 46) hx hb dX13_selectedRow_16 (by decide) (fun c11 => ?_) (fun c11 => ?_)
  · replace hf := (if_pos c11).symm.trans hf
    exact X13_selectedRow_46_W hC hQ hf hw (lv_sub hl [] rfl)
  · replace hf := (if_neg c11).symm.trans hf
    refine lv_iload_n hx hb dX13_selectedRow_19 rfl (lv_at hl 1 rfl) ?_
    refine lv_if_lt (tgt := 46) hx hb dX13_selectedRow_20 (by decide) (fun c10 => ?_) (fun c10 => ?_)
    · replace hf := (if_pos c10).symm.trans hf
      exact X13_selectedRow_46_W hC hQ hf hw (lv_sub hl [] rfl)
    · replace hf := (if_neg c10).symm.trans hf
      refine lv_aload_n hx hb dX13_selectedRow_23 rfl (lv_at hl 0 rfl) ?_
      refine lv_iload_n hx hb dX13_selectedRow_24 rfl (lv_at hl 2 rfl) ?_
      obtain ⟨_, h7, hf⟩ := ob_some hf
      obtain ⟨x5, h6, hf⟩ := ob_some hf
      refine gg_cVI (As := [.int l3]) hC hw (X13_selects_M l E D A h6) h7 rfl g_ml_X13_183 hd_X13_selects (Nat.le_of_ble_eq_true rfl) (Nat.le_of_ble_eq_true rfl) hl.1 rfl (Nat.le_of_ble_eq_true rfl) dX13_selectedRow_25 (fun H locs cells slots hw => ?_)
      refine lv_if_eq (tgt := 40) hx hb dX13_selectedRow_28 (by decide) (fun c9 => ?_) (fun c9 => ?_)
      · replace hf := (if_pos c9).symm.trans hf
        exact X13_selectedRow_40_W hC hQ h_9 hf hw (lv_sub hl [0, 1, 2] rfl)
      · replace hf := (if_neg c9).symm.trans hf
        refine lv_iload_n hx hb dX13_selectedRow_31 rfl (lv_at hl 1 rfl) ?_
        refine lv_if_ne (tgt := 37) hx hb dX13_selectedRow_32 (by decide) (fun c8 => ?_) (fun c8 => ?_)
        · replace hf := (if_neg c8).symm.trans hf
          refine lv_iinc (v := (l2 + -1)) (lv' := [(2, .int (l2 + -1)), (0, .ref l0), (3, .int l3)]) hx hb dX13_selectedRow_37 hl (k := 1) rfl rfl (by decide) rfl (fun ls hl => ?_)
          exact X13_selectedRow_40_W hC hQ h_9 hf hw (lv_sub hl [1, 0, 2] rfl)
        · replace hf := (if_pos c8).symm.trans hf
          refine lv_iload_n hx hb dX13_selectedRow_35 rfl (lv_at hl 2 rfl) ?_
          cases hf
          exact hQ _ _ _ _ _ _ dX13_selectedRow_36 rfl hw
def X13_selectedRow_9 (E : gE) : Nat → Nat → Int32 → Int32 → gS → Option (Int32 × gS)
  | 0 => fun _ _ _ _ => none
  | n + 1 => X13_selectedRow_9_s E (X13_selectedRow_9 E n)
theorem X13_selectedRow_9_W {res : (Int32 × gS)} (hC : gC E D A p R s m args meth c cX13_selectedRow 4 RX13 "selectedRow" 5 111) (hQ : gQI E D A p l e R s m args below meth c Q cX13_selectedRow FieldType.int res) : ∀ (n : Nat), ∀ {l0 : Nat} {l2 : Int32} {l3 : Int32} {σ : gS} {H : Heap} {locs : List Loc} {cells slots : Nat} {ls : Array Slot}, X13_selectedRow_9 E n l0 l2 l3 σ = some res → gW E D A s σ H locs → lv_has ls 4 [(0, .ref l0), (2, .int l2), (3, .int l3)] → W p l e R s m args below meth c H locs cells slots Q (F0 m 9 ls []) := by
  intro n
  induction n with
  | zero =>
    intros
    rename_i hf _ _
    exact absurd hf (fun h => by cases (show (none : Option (Int32 × gS)) = some res from h))
  | succ n ih =>
    intros
    rename_i hf hw hl
    exact X13_selectedRow_9_s_W hC hQ ih hf hw hl

def X13_selectedRow (E : gE) (l0 : Nat) (l1 : Int32) (σ : gS) : Option (Int32 × gS) :=
  ob (gpf E σ l0 11 10 (.int (0 : Int32))) fun σ12 =>
  X13_selectedRow_9 E (gN E) l0 l1 (0 : Int32) σ12
set_option maxHeartbeats 4000000 in
set_option maxRecDepth 100000 in
theorem X13_selectedRow_W {σ : gS} {l0 : Nat} {l1 : Int32} {res : (Int32 × gS)} {ls : Array Slot} (hC : gC E D A p R s m args meth c cX13_selectedRow 4 RX13 "selectedRow" 5 111) (hQ : gQI E D A p l e R s m args below meth c Q cX13_selectedRow FieldType.int res) (hf : X13_selectedRow E l0 l1 σ = some res) (hw : gW E D A s σ H locs) (hl : lv_has ls 4 [(0, .ref l0), (1, .int l1)]) : W p l e R s m args below meth c H locs cells slots Q (F0 m 0 ls []) := by
  have hC0 := hC
  obtain ⟨hx, hb, hml, hown, hts, -⟩ := hC0
  unfold X13_selectedRow at hf
  refine lv_aload_n hx hb dX13_selectedRow_0 rfl (lv_at hl 0 rfl) ?_
  refine lv_iconst (v := 0) hx hb dX13_selectedRow_1 (by decide) ?_
  obtain ⟨σ12, h13, hf⟩ := ob_some hf
  refine p_fl_X13_85 hC hw h13 rfl rfl dX13_selectedRow_2 (fun H locs hw => ?_)
  refine lv_iload_n hx hb dX13_selectedRow_5 rfl (lv_at hl 1 rfl) ?_
  refine lv_istore_n (lv' := [(2, .int l1), (0, .ref l0), (1, .int l1)]) hx hb dX13_selectedRow_6 rfl hl (by decide) rfl (fun ls hl => ?_)
  refine lv_iconst (v := 0) hx hb dX13_selectedRow_7 (by decide) ?_
  refine lv_istore_n (lv' := [(3, .int (0 : Int32)), (2, .int l1), (0, .ref l0), (1, .int l1)]) hx hb dX13_selectedRow_8 rfl hl (by decide) rfl (fun ls hl => ?_)
  exact X13_selectedRow_9_W hC hQ (gN E) hf hw (lv_sub hl [2, 1, 0] rfl)

def X13_selectedRow_f (E : gE) (l0 : Nat) (l1 : Int32) (σ : gS) : Option (Int32 × gS) := X13_selectedRow E l0 l1 σ
set_option maxRecDepth 100000 in
theorem X13_selectedRow_M (l : Launch) (E : gE) (D : va_G) (A : Nat → Prop) {l0 : Nat} {l1 : Int32} {σ : gS} {res : (Int32 × gS)} (hf : X13_selectedRow_f E l0 l1 σ = some res) : gCI l E D A yX13_selectedRow cX13_selectedRow 4 5 111 (some FieldType.int) [.ref l0, .int l1] σ res := by
  refine gg_entI (own := RX13) (nm := "selectedRow") (ty := FieldType.int) (by decide +kernel) rfl rfl (Nat.le_of_ble_eq_true rfl) rfl ?_
  intro p e R s m args below meth c Q ls hC hw hQ hl
  have hl : lv_has ls 4 [(0, .ref l0), (1, .int l1)] := hl
  exact X13_selectedRow_W hC hQ hf hw hl

def X13_rejectedBy (E : gE) (l0 : Nat) (l1 : Int32) (σ : gS) : Option (Int32 × gS) :=
  ob (gcl σ l0 11) fun _ =>
  ob (X13_isRow_f E σ l0 l1) fun x1 =>
  ob (gcl σ l0 11) fun _ =>
  ob (X13_lacks_f E l0 x1 σ) fun x4 =>
  if x4.1 = 0 then
    ob (gcl x4.2 l0 11) fun _ =>
    ob (X13_rejection_f E x4.2 l0 l1) fun x7 =>
    some (x7, x4.2)
  else
    some ((0 : Int32), x4.2)
set_option maxHeartbeats 4000000 in
set_option maxRecDepth 100000 in
theorem X13_rejectedBy_W {σ : gS} {l0 : Nat} {l1 : Int32} {res : (Int32 × gS)} {ls : Array Slot} (hC : gC E D A p R s m args meth c cX13_rejectedBy 2 RX13 "rejectedBy" 4 90) (hQ : gQI E D A p l e R s m args below meth c Q cX13_rejectedBy FieldType.int res) (hf : X13_rejectedBy E l0 l1 σ = some res) (hw : gW E D A s σ H locs) (hl : lv_has ls 2 [(0, .ref l0), (1, .int l1)]) : W p l e R s m args below meth c H locs cells slots Q (F0 m 0 ls []) := by
  have hC0 := hC
  obtain ⟨hx, hb, hml, hown, hts, -⟩ := hC0
  unfold X13_rejectedBy at hf
  refine lv_aload_n hx hb dX13_rejectedBy_0 rfl (lv_at hl 0 rfl) ?_
  refine lv_aload_n hx hb dX13_rejectedBy_1 rfl (lv_at hl 0 rfl) ?_
  refine lv_iload_n hx hb dX13_rejectedBy_2 rfl (lv_at hl 1 rfl) ?_
  obtain ⟨_, h3, hf⟩ := ob_some hf
  obtain ⟨x1, h2, hf⟩ := ob_some hf
  refine gg_cVI (As := [.int l1]) hC hw (X13_isRow_M l E D A h2) h3 rfl g_ml_X13_127 hd_X13_isRow (Nat.le_of_ble_eq_true rfl) (Nat.le_of_ble_eq_true rfl) hl.1 rfl (Nat.le_of_ble_eq_true rfl) dX13_rejectedBy_3 (fun H locs cells slots hw => ?_)
  obtain ⟨_, h6, hf⟩ := ob_some hf
  obtain ⟨x4, h5, hf⟩ := ob_some hf
  refine gg_cVI (As := [.int x1]) hC hw (X13_lacks_M l E D A h5) h6 rfl g_ml_X13_88 hd_X13_lacks (Nat.le_of_ble_eq_true rfl) (Nat.le_of_ble_eq_true rfl) hl.1 rfl (Nat.le_of_ble_eq_true rfl) dX13_rejectedBy_6 (fun H locs cells slots hw => ?_)
  refine lv_if_eq (tgt := 16) hx hb dX13_rejectedBy_9 (by decide) (fun c10 => ?_) (fun c10 => ?_)
  · replace hf := (if_pos c10).symm.trans hf
    refine lv_aload_n hx hb dX13_rejectedBy_16 rfl (lv_at hl 0 rfl) ?_
    refine lv_iload_n hx hb dX13_rejectedBy_17 rfl (lv_at hl 1 rfl) ?_
    obtain ⟨_, h9, hf⟩ := ob_some hf
    obtain ⟨x7, h8, hf⟩ := ob_some hf
    refine gg_cVI (As := [.int l1]) hC hw (X13_rejection_M l E D A h8) h9 rfl g_ml_X13_180 hd_X13_rejection (Nat.le_of_ble_eq_true rfl) (Nat.le_of_ble_eq_true rfl) hl.1 rfl (Nat.le_of_ble_eq_true rfl) dX13_rejectedBy_18 (fun H locs cells slots hw => ?_)
    cases hf
    exact hQ _ _ _ _ _ _ dX13_rejectedBy_21 rfl hw
  · replace hf := (if_neg c10).symm.trans hf
    refine lv_iconst (v := 0) hx hb dX13_rejectedBy_12 (by decide) ?_
    refine lv_goto (tgt := 21) hx hb dX13_rejectedBy_13 (by decide) ?_
    cases hf
    exact hQ _ _ _ _ _ _ dX13_rejectedBy_21 rfl hw

def X13_rejectedBy_f (E : gE) (l0 : Nat) (l1 : Int32) (σ : gS) : Option (Int32 × gS) := X13_rejectedBy E l0 l1 σ
set_option maxRecDepth 100000 in
theorem X13_rejectedBy_M (l : Launch) (E : gE) (D : va_G) (A : Nat → Prop) {l0 : Nat} {l1 : Int32} {σ : gS} {res : (Int32 × gS)} (hf : X13_rejectedBy_f E l0 l1 σ = some res) : gCI l E D A yX13_rejectedBy cX13_rejectedBy 2 4 90 (some FieldType.int) [.ref l0, .int l1] σ res := by
  refine gg_entI (own := RX13) (nm := "rejectedBy") (ty := FieldType.int) (by decide +kernel) rfl rfl (Nat.le_of_ble_eq_true rfl) rfl ?_
  intro p e R s m args below meth c Q ls hC hw hQ hl
  have hl : lv_has ls 2 [(0, .ref l0), (1, .int l1)] := hl
  exact X13_rejectedBy_W hC hQ hf hw hl

def X13_sumOf_38 (E : gE) (σ : gS) (r_5 : Nat → Int32 → Int64 → Int32 → Option Int64) (l0 : Nat) (l1 : Int32) (l4 : Int32) (s0 : Int64) (s1 : Int64) : Option Int64 :=
  r_5 l0 l1 (s1 + s0) (l4 + 1)
set_option maxHeartbeats 4000000 in
set_option maxRecDepth 100000 in
theorem X13_sumOf_38_W {σ : gS} {l0 : Nat} {l1 : Int32} {l4 : Int32} {s0 : Int64} {s1 : Int64} {res : Int64} {ls : Array Slot} (hC : gC E D A p R s m args meth c cX13_sumOf 5 RX13 "sumOf" 5 111) (hQ : gQJ E D A p l e R s m args below meth c Q cX13_sumOf (res, σ)) {r_5 : Nat → Int32 → Int64 → Int32 → Option Int64} (h_5 : ∀ {l0 : Nat} {l1 : Int32} {l2 : Int64} {l4 : Int32} {H : Heap} {locs : List Loc} {cells slots : Nat} {ls : Array Slot}, r_5 l0 l1 l2 l4 = some res → gW E D A s σ H locs → lv_has ls 5 [(0, .ref l0), (1, .int l1), (2, .long l2), (4, .int l4)] → W p l e R s m args below meth c H locs cells slots Q (F0 m 5 ls [])) (hf : X13_sumOf_38 E σ r_5 l0 l1 l4 s0 s1 = some res) (hw : gW E D A s σ H locs) (hl : lv_has ls 5 [(0, .ref l0), (1, .int l1), (4, .int l4)]) : W p l e R s m args below meth c H locs cells slots Q (F0 m 38 ls [.long s0, .long s1]) := by
  have hC0 := hC
  obtain ⟨hx, hb, hml, hown, hts, -⟩ := hC0
  unfold X13_sumOf_38 at hf
  refine lv_ladd hx hb dX13_sumOf_38 ?_
  refine lv_lstore_n (lv' := [(2, .long (s1 + s0)), (0, .ref l0), (1, .int l1), (4, .int l4)]) hx hb dX13_sumOf_39 rfl hl (by decide) rfl (fun ls hl => ?_)
  refine lv_iinc (v := (l4 + 1)) (lv' := [(4, .int (l4 + 1)), (2, .long (s1 + s0)), (0, .ref l0), (1, .int l1)]) hx hb dX13_sumOf_40 hl (k := 3) rfl rfl (by decide) rfl (fun ls hl => ?_)
  refine lv_goto (tgt := 5) hx hb dX13_sumOf_43 (by decide) ?_
  exact h_5 hf hw (lv_sub hl [2, 3, 1, 0] rfl)

def X13_sumOf_5_s (E : gE) (σ : gS) (r_5 : Nat → Int32 → Int64 → Int32 → Option Int64) (l0 : Nat) (l1 : Int32) (l2 : Int64) (l4 : Int32) : Option Int64 :=
  ob (gfR σ l0 11 8) fun x1 =>
  ob (graI E 0 σ x1 (1 : Int32)) fun x3 =>
  if x3 ≤ l4 then
    some l2
  else
    ob (gcl σ l0 11) fun _ =>
    ob (X13_selects_f E σ l0 l4) fun x5 =>
    if x5 = 0 then
      X13_sumOf_38 E σ r_5 l0 l1 l4 (0 : Int64) l2
    else
      ob (gcl σ l0 11) fun _ =>
      ob (X13_at_f E σ l0 l1 l4) fun x8 =>
      X13_sumOf_38 E σ r_5 l0 l1 l4 x8.toInt64 l2
set_option maxHeartbeats 4000000 in
set_option maxRecDepth 100000 in
theorem X13_sumOf_5_s_W {σ : gS} {l0 : Nat} {l1 : Int32} {l2 : Int64} {l4 : Int32} {res : Int64} {ls : Array Slot} (hC : gC E D A p R s m args meth c cX13_sumOf 5 RX13 "sumOf" 5 111) (hQ : gQJ E D A p l e R s m args below meth c Q cX13_sumOf (res, σ)) {r_5 : Nat → Int32 → Int64 → Int32 → Option Int64} (h_5 : ∀ {l0 : Nat} {l1 : Int32} {l2 : Int64} {l4 : Int32} {H : Heap} {locs : List Loc} {cells slots : Nat} {ls : Array Slot}, r_5 l0 l1 l2 l4 = some res → gW E D A s σ H locs → lv_has ls 5 [(0, .ref l0), (1, .int l1), (2, .long l2), (4, .int l4)] → W p l e R s m args below meth c H locs cells slots Q (F0 m 5 ls [])) (hf : X13_sumOf_5_s E σ r_5 l0 l1 l2 l4 = some res) (hw : gW E D A s σ H locs) (hl : lv_has ls 5 [(0, .ref l0), (1, .int l1), (2, .long l2), (4, .int l4)]) : W p l e R s m args below meth c H locs cells slots Q (F0 m 5 ls []) := by
  have hC0 := hC
  obtain ⟨hx, hb, hml, hown, hts, -⟩ := hC0
  unfold X13_sumOf_5_s at hf
  refine lv_iload hx hb dX13_sumOf_5 (lv_at hl 3 rfl) ?_
  refine lv_aload_n hx hb dX13_sumOf_7 rfl (lv_at hl 0 rfl) ?_
  obtain ⟨x1, h2, hf⟩ := ob_some hf
  refine rR_fl_X13_35 hC hw h2 dX13_sumOf_8 ?_
  refine lv_iconst (v := 1) hx hb dX13_sumOf_11 (by decide) ?_
  obtain ⟨x3, h4, hf⟩ := ob_some hf
  refine gg_aldI hC hw h4 dX13_sumOf_12 ?_
  refine lv_icmp_ge (tgt := 46) hx hb dX13_sumOf_13 (by decide) (fun c12 => ?_) (fun c12 => ?_)
  · replace hf := (if_pos c12).symm.trans hf
    refine lv_lload_n hx hb dX13_sumOf_46 rfl (lv_at hl 2 rfl) ?_
    cases hf
    exact hQ _ _ _ _ _ _ dX13_sumOf_47 hw
  · replace hf := (if_neg c12).symm.trans hf
    refine lv_lload_n hx hb dX13_sumOf_16 rfl (lv_at hl 2 rfl) ?_
    refine lv_aload_n hx hb dX13_sumOf_17 rfl (lv_at hl 0 rfl) ?_
    refine lv_iload hx hb dX13_sumOf_18 (lv_at hl 3 rfl) ?_
    obtain ⟨_, h7, hf⟩ := ob_some hf
    obtain ⟨x5, h6, hf⟩ := ob_some hf
    refine gg_cVI (As := [.int l4]) hC hw (X13_selects_M l E D A h6) h7 rfl g_ml_X13_183 hd_X13_selects (Nat.le_of_ble_eq_true rfl) (Nat.le_of_ble_eq_true rfl) hl.1 rfl (Nat.le_of_ble_eq_true rfl) dX13_sumOf_20 (fun H locs cells slots hw => ?_)
    refine lv_if_eq (tgt := 37) hx hb dX13_sumOf_23 (by decide) (fun c11 => ?_) (fun c11 => ?_)
    · replace hf := (if_pos c11).symm.trans hf
      refine lv_lconst (v := 0) hx hb dX13_sumOf_37 (by decide) ?_
      exact X13_sumOf_38_W hC hQ h_5 hf hw (lv_sub hl [0, 1, 3] rfl)
    · replace hf := (if_neg c11).symm.trans hf
      refine lv_aload_n hx hb dX13_sumOf_26 rfl (lv_at hl 0 rfl) ?_
      refine lv_iload_n hx hb dX13_sumOf_27 rfl (lv_at hl 1 rfl) ?_
      refine lv_iload hx hb dX13_sumOf_28 (lv_at hl 3 rfl) ?_
      obtain ⟨_, h10, hf⟩ := ob_some hf
      obtain ⟨x8, h9, hf⟩ := ob_some hf
      refine gg_cVI (As := [.int l1, .int l4]) hC hw (X13_at_M l E D A h9) h10 rfl g_ml_X13_118 hd_X13_at (Nat.le_of_ble_eq_true rfl) (Nat.le_of_ble_eq_true rfl) hl.1 rfl (Nat.le_of_ble_eq_true rfl) dX13_sumOf_30 (fun H locs cells slots hw => ?_)
      refine lv_i2l (v := x8.toInt64) hx hb dX13_sumOf_33 rfl ?_
      refine lv_goto (tgt := 38) hx hb dX13_sumOf_34 (by decide) ?_
      exact X13_sumOf_38_W hC hQ h_5 hf hw (lv_sub hl [0, 1, 3] rfl)
def X13_sumOf_5 (E : gE) (σ : gS) : Nat → Nat → Int32 → Int64 → Int32 → Option Int64
  | 0 => fun _ _ _ _ => none
  | n + 1 => X13_sumOf_5_s E σ (X13_sumOf_5 E σ n)
theorem X13_sumOf_5_W {σ : gS} {res : Int64} (hC : gC E D A p R s m args meth c cX13_sumOf 5 RX13 "sumOf" 5 111) (hQ : gQJ E D A p l e R s m args below meth c Q cX13_sumOf (res, σ)) : ∀ (n : Nat), ∀ {l0 : Nat} {l1 : Int32} {l2 : Int64} {l4 : Int32} {H : Heap} {locs : List Loc} {cells slots : Nat} {ls : Array Slot}, X13_sumOf_5 E σ n l0 l1 l2 l4 = some res → gW E D A s σ H locs → lv_has ls 5 [(0, .ref l0), (1, .int l1), (2, .long l2), (4, .int l4)] → W p l e R s m args below meth c H locs cells slots Q (F0 m 5 ls []) := by
  intro n
  induction n with
  | zero =>
    intros
    rename_i hf _ _
    exact absurd hf (fun h => by cases (show (none : Option Int64) = some res from h))
  | succ n ih =>
    intros
    rename_i hf hw hl
    exact X13_sumOf_5_s_W hC hQ ih hf hw hl

def X13_sumOf (E : gE) (σ : gS) (l0 : Nat) (l1 : Int32) : Option Int64 :=
  X13_sumOf_5 E σ (gN E) l0 l1 (0 : Int64) (0 : Int32)
set_option maxHeartbeats 4000000 in
set_option maxRecDepth 100000 in
theorem X13_sumOf_W {σ : gS} {l0 : Nat} {l1 : Int32} {res : Int64} {ls : Array Slot} (hC : gC E D A p R s m args meth c cX13_sumOf 5 RX13 "sumOf" 5 111) (hQ : gQJ E D A p l e R s m args below meth c Q cX13_sumOf (res, σ)) (hf : X13_sumOf E σ l0 l1 = some res) (hw : gW E D A s σ H locs) (hl : lv_has ls 5 [(0, .ref l0), (1, .int l1)]) : W p l e R s m args below meth c H locs cells slots Q (F0 m 0 ls []) := by
  have hC0 := hC
  obtain ⟨hx, hb, hml, hown, hts, -⟩ := hC0
  unfold X13_sumOf at hf
  refine lv_lconst (v := 0) hx hb dX13_sumOf_0 (by decide) ?_
  refine lv_lstore_n (lv' := [(2, .long (0 : Int64)), (0, .ref l0), (1, .int l1)]) hx hb dX13_sumOf_1 rfl hl (by decide) rfl (fun ls hl => ?_)
  refine lv_iconst (v := 0) hx hb dX13_sumOf_2 (by decide) ?_
  refine lv_istore (lv' := [(4, .int (0 : Int32)), (2, .long (0 : Int64)), (0, .ref l0), (1, .int l1)]) hx hb dX13_sumOf_3 hl (by decide) rfl (fun ls hl => ?_)
  exact X13_sumOf_5_W hC hQ (gN E) hf hw (lv_sub hl [2, 3, 1, 0] rfl)

def X13_sumOf_f (E : gE) (σ : gS) (l0 : Nat) (l1 : Int32) : Option Int64 := X13_sumOf E σ l0 l1
set_option maxRecDepth 100000 in
theorem X13_sumOf_M (l : Launch) (E : gE) (D : va_G) (A : Nat → Prop) {l0 : Nat} {l1 : Int32} {σ : gS} {res : Int64} (hf : X13_sumOf_f E σ l0 l1 = some res) : gCJ l E D A yX13_sumOf cX13_sumOf 5 5 111 (some FieldType.long) [.ref l0, .int l1] σ (res, σ) := by
  refine gg_entJ (own := RX13) (nm := "sumOf") (by decide +kernel) rfl rfl (Nat.le_of_ble_eq_true rfl) rfl ?_
  intro p e R s m args below meth c Q ls hC hw hQ hl
  have hl : lv_has ls 5 [(0, .ref l0), (1, .int l1)] := hl
  exact X13_sumOf_W hC hQ hf hw hl

def X13_sumSelected (E : gE) (l0 : Nat) (l1 : Int32) (σ : gS) : Option (Int64 × gS) :=
  ob (gcl σ l0 11) fun _ =>
  ob (X13_isColumn_f E σ l0 l1) fun x1 =>
  ob (gcl σ l0 11) fun _ =>
  ob (X13_lacks_f E l0 x1 σ) fun x4 =>
  if x4.1 = 0 then
    ob (gcl x4.2 l0 11) fun _ =>
    ob (X13_sumOf_f E x4.2 l0 l1) fun x7 =>
    some (x7, x4.2)
  else
    some ((0 : Int64), x4.2)
set_option maxHeartbeats 4000000 in
set_option maxRecDepth 100000 in
theorem X13_sumSelected_W {σ : gS} {l0 : Nat} {l1 : Int32} {res : (Int64 × gS)} {ls : Array Slot} (hC : gC E D A p R s m args meth c cX13_sumSelected 2 RX13 "sumSelected" 6 135) (hQ : gQJ E D A p l e R s m args below meth c Q cX13_sumSelected res) (hf : X13_sumSelected E l0 l1 σ = some res) (hw : gW E D A s σ H locs) (hl : lv_has ls 2 [(0, .ref l0), (1, .int l1)]) : W p l e R s m args below meth c H locs cells slots Q (F0 m 0 ls []) := by
  have hC0 := hC
  obtain ⟨hx, hb, hml, hown, hts, -⟩ := hC0
  unfold X13_sumSelected at hf
  refine lv_aload_n hx hb dX13_sumSelected_0 rfl (lv_at hl 0 rfl) ?_
  refine lv_aload_n hx hb dX13_sumSelected_1 rfl (lv_at hl 0 rfl) ?_
  refine lv_iload_n hx hb dX13_sumSelected_2 rfl (lv_at hl 1 rfl) ?_
  obtain ⟨_, h3, hf⟩ := ob_some hf
  obtain ⟨x1, h2, hf⟩ := ob_some hf
  refine gg_cVI (As := [.int l1]) hC hw (X13_isColumn_M l E D A h2) h3 rfl g_ml_X13_112 hd_X13_isColumn (Nat.le_of_ble_eq_true rfl) (Nat.le_of_ble_eq_true rfl) hl.1 rfl (Nat.le_of_ble_eq_true rfl) dX13_sumSelected_3 (fun H locs cells slots hw => ?_)
  obtain ⟨_, h6, hf⟩ := ob_some hf
  obtain ⟨x4, h5, hf⟩ := ob_some hf
  refine gg_cVI (As := [.int x1]) hC hw (X13_lacks_M l E D A h5) h6 rfl g_ml_X13_88 hd_X13_lacks (Nat.le_of_ble_eq_true rfl) (Nat.le_of_ble_eq_true rfl) hl.1 rfl (Nat.le_of_ble_eq_true rfl) dX13_sumSelected_6 (fun H locs cells slots hw => ?_)
  refine lv_if_eq (tgt := 16) hx hb dX13_sumSelected_9 (by decide) (fun c10 => ?_) (fun c10 => ?_)
  · replace hf := (if_pos c10).symm.trans hf
    refine lv_aload_n hx hb dX13_sumSelected_16 rfl (lv_at hl 0 rfl) ?_
    refine lv_iload_n hx hb dX13_sumSelected_17 rfl (lv_at hl 1 rfl) ?_
    obtain ⟨_, h9, hf⟩ := ob_some hf
    obtain ⟨x7, h8, hf⟩ := ob_some hf
    refine gg_cVJ (As := [.int l1]) hC hw (X13_sumOf_M l E D A h8) h9 rfl g_ml_X13_201 hd_X13_sumOf (Nat.le_of_ble_eq_true rfl) (Nat.le_of_ble_eq_true rfl) hl.1 rfl (Nat.le_of_ble_eq_true rfl) dX13_sumSelected_18 (fun H locs cells slots hw => ?_)
    cases hf
    exact hQ _ _ _ _ _ _ dX13_sumSelected_21 hw
  · replace hf := (if_neg c10).symm.trans hf
    refine lv_lconst (v := 0) hx hb dX13_sumSelected_12 (by decide) ?_
    refine lv_goto (tgt := 21) hx hb dX13_sumSelected_13 (by decide) ?_
    cases hf
    exact hQ _ _ _ _ _ _ dX13_sumSelected_21 hw

def X13_sumSelected_f (E : gE) (l0 : Nat) (l1 : Int32) (σ : gS) : Option (Int64 × gS) := X13_sumSelected E l0 l1 σ
set_option maxRecDepth 100000 in
theorem X13_sumSelected_M (l : Launch) (E : gE) (D : va_G) (A : Nat → Prop) {l0 : Nat} {l1 : Int32} {σ : gS} {res : (Int64 × gS)} (hf : X13_sumSelected_f E l0 l1 σ = some res) : gCJ l E D A yX13_sumSelected cX13_sumSelected 2 6 135 (some FieldType.long) [.ref l0, .int l1] σ res := by
  refine gg_entJ (own := RX13) (nm := "sumSelected") (by decide +kernel) rfl rfl (Nat.le_of_ble_eq_true rfl) rfl ?_
  intro p e R s m args below meth c Q ls hC hw hQ hl
  have hl : lv_has ls 2 [(0, .ref l0), (1, .int l1)] := hl
  exact X13_sumSelected_W hC hQ hf hw hl

def X13_extreme_67 (E : gE) (σ : gS) (r_9 : Nat → Int32 → Int32 → Int32 → Int32 → Option Int32) (l0 : Nat) (l1 : Int32) (l2 : Int32) (l4 : Int32) (s0 : Int32) : Option Int32 :=
  r_9 l0 l1 l2 s0 (l4 + 1)
set_option maxHeartbeats 4000000 in
set_option maxRecDepth 100000 in
theorem X13_extreme_67_W {σ : gS} {l0 : Nat} {l1 : Int32} {l2 : Int32} {l4 : Int32} {s0 : Int32} {res : Int32} {ls : Array Slot} (hC : gC E D A p R s m args meth c cX13_extreme 6 RX13 "extreme" 5 111) (hQ : gQI E D A p l e R s m args below meth c Q cX13_extreme FieldType.int (res, σ)) {r_9 : Nat → Int32 → Int32 → Int32 → Int32 → Option Int32} (h_9 : ∀ {l0 : Nat} {l1 : Int32} {l2 : Int32} {l3 : Int32} {l4 : Int32} {H : Heap} {locs : List Loc} {cells slots : Nat} {ls : Array Slot}, r_9 l0 l1 l2 l3 l4 = some res → gW E D A s σ H locs → lv_has ls 6 [(0, .ref l0), (1, .int l1), (2, .int l2), (3, .int l3), (4, .int l4)] → W p l e R s m args below meth c H locs cells slots Q (F0 m 9 ls [])) (hf : X13_extreme_67 E σ r_9 l0 l1 l2 l4 s0 = some res) (hw : gW E D A s σ H locs) (hl : lv_has ls 6 [(0, .ref l0), (1, .int l1), (2, .int l2), (4, .int l4)]) : W p l e R s m args below meth c H locs cells slots Q (F0 m 67 ls [.int s0]) := by
  have hC0 := hC
  obtain ⟨hx, hb, hml, hown, hts, -⟩ := hC0
  unfold X13_extreme_67 at hf
  refine lv_istore_n (lv' := [(3, .int s0), (0, .ref l0), (1, .int l1), (2, .int l2), (4, .int l4)]) hx hb dX13_extreme_67 rfl hl (by decide) rfl (fun ls hl => ?_)
  refine lv_iinc (v := (l4 + 1)) (lv' := [(4, .int (l4 + 1)), (3, .int s0), (0, .ref l0), (1, .int l1), (2, .int l2)]) hx hb dX13_extreme_68 hl (k := 4) rfl rfl (by decide) rfl (fun ls hl => ?_)
  refine lv_goto (tgt := 9) hx hb dX13_extreme_71 (by decide) ?_
  exact h_9 hf hw (lv_sub hl [2, 3, 4, 1, 0] rfl)

def X13_extreme_49 (E : gE) (σ : gS) (r_9 : Nat → Int32 → Int32 → Int32 → Int32 → Option Int32) (l0 : Nat) (l1 : Int32) (l2 : Int32) (l3 : Int32) (l4 : Int32) (s0 : Int32) : Option Int32 :=
  if s0 = 0 then
    X13_extreme_67 E σ r_9 l0 l1 l2 l4 l3
  else
    ob (gcl σ l0 11) fun _ =>
    ob (X13_at_f E σ l0 l1 l4) fun x1 =>
    X13_extreme_67 E σ r_9 l0 l1 l2 l4 x1
set_option maxHeartbeats 4000000 in
set_option maxRecDepth 100000 in
theorem X13_extreme_49_W {σ : gS} {l0 : Nat} {l1 : Int32} {l2 : Int32} {l3 : Int32} {l4 : Int32} {s0 : Int32} {res : Int32} {ls : Array Slot} (hC : gC E D A p R s m args meth c cX13_extreme 6 RX13 "extreme" 5 111) (hQ : gQI E D A p l e R s m args below meth c Q cX13_extreme FieldType.int (res, σ)) {r_9 : Nat → Int32 → Int32 → Int32 → Int32 → Option Int32} (h_9 : ∀ {l0 : Nat} {l1 : Int32} {l2 : Int32} {l3 : Int32} {l4 : Int32} {H : Heap} {locs : List Loc} {cells slots : Nat} {ls : Array Slot}, r_9 l0 l1 l2 l3 l4 = some res → gW E D A s σ H locs → lv_has ls 6 [(0, .ref l0), (1, .int l1), (2, .int l2), (3, .int l3), (4, .int l4)] → W p l e R s m args below meth c H locs cells slots Q (F0 m 9 ls [])) (hf : X13_extreme_49 E σ r_9 l0 l1 l2 l3 l4 s0 = some res) (hw : gW E D A s σ H locs) (hl : lv_has ls 6 [(0, .ref l0), (1, .int l1), (2, .int l2), (3, .int l3), (4, .int l4)]) : W p l e R s m args below meth c H locs cells slots Q (F0 m 49 ls [.int s0]) := by
  have hC0 := hC
  obtain ⟨hx, hb, hml, hown, hts, -⟩ := hC0
  unfold X13_extreme_49 at hf
  refine lv_istore (lv' := [(5, .int s0), (0, .ref l0), (1, .int l1), (2, .int l2), (3, .int l3), (4, .int l4)]) hx hb dX13_extreme_49 hl (by decide) rfl (fun ls hl => ?_)
  refine lv_iload hx hb dX13_extreme_51 (lv_at hl 0 rfl) ?_
  refine lv_if_eq (tgt := 66) hx hb dX13_extreme_53 (by decide) (fun c4 => ?_) (fun c4 => ?_)
  · replace hf := (if_pos c4).symm.trans hf
    refine lv_iload_n hx hb dX13_extreme_66 rfl (lv_at hl 4 rfl) ?_
    exact X13_extreme_67_W hC hQ h_9 hf hw (lv_sub hl [1, 2, 3, 5] rfl)
  · replace hf := (if_neg c4).symm.trans hf
    refine lv_aload_n hx hb dX13_extreme_56 rfl (lv_at hl 1 rfl) ?_
    refine lv_iload_n hx hb dX13_extreme_57 rfl (lv_at hl 2 rfl) ?_
    refine lv_iload hx hb dX13_extreme_58 (lv_at hl 5 rfl) ?_
    obtain ⟨_, h3, hf⟩ := ob_some hf
    obtain ⟨x1, h2, hf⟩ := ob_some hf
    refine gg_cVI (As := [.int l1, .int l4]) hC hw (X13_at_M l E D A h2) h3 rfl g_ml_X13_118 hd_X13_at (Nat.le_of_ble_eq_true rfl) (Nat.le_of_ble_eq_true rfl) hl.1 rfl (Nat.le_of_ble_eq_true rfl) dX13_extreme_60 (fun H locs cells slots hw => ?_)
    refine lv_goto (tgt := 67) hx hb dX13_extreme_63 (by decide) ?_
    exact X13_extreme_67_W hC hQ h_9 hf hw (lv_sub hl [1, 2, 3, 5] rfl)

def X13_extreme_48 (E : gE) (σ : gS) (r_9 : Nat → Int32 → Int32 → Int32 → Int32 → Option Int32) (l0 : Nat) (l1 : Int32) (l2 : Int32) (l3 : Int32) (l4 : Int32) : Option Int32 :=
  X13_extreme_49 E σ r_9 l0 l1 l2 l3 l4 (0 : Int32)
set_option maxHeartbeats 4000000 in
set_option maxRecDepth 100000 in
theorem X13_extreme_48_W {σ : gS} {l0 : Nat} {l1 : Int32} {l2 : Int32} {l3 : Int32} {l4 : Int32} {res : Int32} {ls : Array Slot} (hC : gC E D A p R s m args meth c cX13_extreme 6 RX13 "extreme" 5 111) (hQ : gQI E D A p l e R s m args below meth c Q cX13_extreme FieldType.int (res, σ)) {r_9 : Nat → Int32 → Int32 → Int32 → Int32 → Option Int32} (h_9 : ∀ {l0 : Nat} {l1 : Int32} {l2 : Int32} {l3 : Int32} {l4 : Int32} {H : Heap} {locs : List Loc} {cells slots : Nat} {ls : Array Slot}, r_9 l0 l1 l2 l3 l4 = some res → gW E D A s σ H locs → lv_has ls 6 [(0, .ref l0), (1, .int l1), (2, .int l2), (3, .int l3), (4, .int l4)] → W p l e R s m args below meth c H locs cells slots Q (F0 m 9 ls [])) (hf : X13_extreme_48 E σ r_9 l0 l1 l2 l3 l4 = some res) (hw : gW E D A s σ H locs) (hl : lv_has ls 6 [(0, .ref l0), (1, .int l1), (2, .int l2), (3, .int l3), (4, .int l4)]) : W p l e R s m args below meth c H locs cells slots Q (F0 m 48 ls []) := by
  have hC0 := hC
  obtain ⟨hx, hb, hml, hown, hts, -⟩ := hC0
  unfold X13_extreme_48 at hf
  refine lv_iconst (v := 0) hx hb dX13_extreme_48 (by decide) ?_
  exact X13_extreme_49_W hC hQ h_9 hf hw (lv_sub hl [0, 1, 2, 3, 4] rfl)

def X13_extreme_9_s (E : gE) (σ : gS) (r_9 : Nat → Int32 → Int32 → Int32 → Int32 → Option Int32) (l0 : Nat) (l1 : Int32) (l2 : Int32) (l3 : Int32) (l4 : Int32) : Option Int32 :=
  ob (gfR σ l0 11 8) fun x5 =>
  ob (graI E 0 σ x5 (1 : Int32)) fun x7 =>
  if x7 ≤ l4 then
    some l3
  else
    ob (gcl σ l0 11) fun _ =>
    ob (X13_selects_f E σ l0 l4) fun x9 =>
    if x9 = 0 then
      X13_extreme_48 E σ r_9 l0 l1 l2 l3 l4
    else
      ob (gcl σ l0 11) fun _ =>
      ob (X13_at_f E σ l0 l1 l4) fun x12 =>
      if (l2 * l3) ≤ (l2 * x12) then
        X13_extreme_48 E σ r_9 l0 l1 l2 l3 l4
      else
        X13_extreme_49 E σ r_9 l0 l1 l2 l3 l4 (1 : Int32)
set_option maxHeartbeats 4000000 in
set_option maxRecDepth 100000 in
theorem X13_extreme_9_s_W {σ : gS} {l0 : Nat} {l1 : Int32} {l2 : Int32} {l3 : Int32} {l4 : Int32} {res : Int32} {ls : Array Slot} (hC : gC E D A p R s m args meth c cX13_extreme 6 RX13 "extreme" 5 111) (hQ : gQI E D A p l e R s m args below meth c Q cX13_extreme FieldType.int (res, σ)) {r_9 : Nat → Int32 → Int32 → Int32 → Int32 → Option Int32} (h_9 : ∀ {l0 : Nat} {l1 : Int32} {l2 : Int32} {l3 : Int32} {l4 : Int32} {H : Heap} {locs : List Loc} {cells slots : Nat} {ls : Array Slot}, r_9 l0 l1 l2 l3 l4 = some res → gW E D A s σ H locs → lv_has ls 6 [(0, .ref l0), (1, .int l1), (2, .int l2), (3, .int l3), (4, .int l4)] → W p l e R s m args below meth c H locs cells slots Q (F0 m 9 ls [])) (hf : X13_extreme_9_s E σ r_9 l0 l1 l2 l3 l4 = some res) (hw : gW E D A s σ H locs) (hl : lv_has ls 6 [(0, .ref l0), (1, .int l1), (2, .int l2), (3, .int l3), (4, .int l4)]) : W p l e R s m args below meth c H locs cells slots Q (F0 m 9 ls []) := by
  have hC0 := hC
  obtain ⟨hx, hb, hml, hown, hts, -⟩ := hC0
  unfold X13_extreme_9_s at hf
  refine lv_iload hx hb dX13_extreme_9 (lv_at hl 4 rfl) ?_
  refine lv_aload_n hx hb dX13_extreme_11 rfl (lv_at hl 0 rfl) ?_
  obtain ⟨x5, h6, hf⟩ := ob_some hf
  refine rR_fl_X13_35 hC hw h6 dX13_extreme_12 ?_
  refine lv_iconst (v := 1) hx hb dX13_extreme_15 (by decide) ?_
  obtain ⟨x7, h8, hf⟩ := ob_some hf
  refine gg_aldI hC hw h8 dX13_extreme_16 ?_
  refine lv_icmp_ge (tgt := 74) hx hb dX13_extreme_17 (by decide) (fun c17 => ?_) (fun c17 => ?_)
  · replace hf := (if_pos c17).symm.trans hf
    refine lv_iload_n hx hb dX13_extreme_74 rfl (lv_at hl 3 rfl) ?_
    cases hf
    exact hQ _ _ _ _ _ _ dX13_extreme_75 rfl hw
  · replace hf := (if_neg c17).symm.trans hf
    refine lv_aload_n hx hb dX13_extreme_20 rfl (lv_at hl 0 rfl) ?_
    refine lv_iload hx hb dX13_extreme_21 (lv_at hl 4 rfl) ?_
    obtain ⟨_, h11, hf⟩ := ob_some hf
    obtain ⟨x9, h10, hf⟩ := ob_some hf
    refine gg_cVI (As := [.int l4]) hC hw (X13_selects_M l E D A h10) h11 rfl g_ml_X13_183 hd_X13_selects (Nat.le_of_ble_eq_true rfl) (Nat.le_of_ble_eq_true rfl) hl.1 rfl (Nat.le_of_ble_eq_true rfl) dX13_extreme_23 (fun H locs cells slots hw => ?_)
    refine lv_if_eq (tgt := 48) hx hb dX13_extreme_26 (by decide) (fun c16 => ?_) (fun c16 => ?_)
    · replace hf := (if_pos c16).symm.trans hf
      exact X13_extreme_48_W hC hQ h_9 hf hw (lv_sub hl [0, 1, 2, 3, 4] rfl)
    · replace hf := (if_neg c16).symm.trans hf
      refine lv_iload_n hx hb dX13_extreme_29 rfl (lv_at hl 2 rfl) ?_
      refine lv_aload_n hx hb dX13_extreme_30 rfl (lv_at hl 0 rfl) ?_
      refine lv_iload_n hx hb dX13_extreme_31 rfl (lv_at hl 1 rfl) ?_
      refine lv_iload hx hb dX13_extreme_32 (lv_at hl 4 rfl) ?_
      obtain ⟨_, h14, hf⟩ := ob_some hf
      obtain ⟨x12, h13, hf⟩ := ob_some hf
      refine gg_cVI (As := [.int l1, .int l4]) hC hw (X13_at_M l E D A h13) h14 rfl g_ml_X13_118 hd_X13_at (Nat.le_of_ble_eq_true rfl) (Nat.le_of_ble_eq_true rfl) hl.1 rfl (Nat.le_of_ble_eq_true rfl) dX13_extreme_34 (fun H locs cells slots hw => ?_)
      refine lv_imul hx hb dX13_extreme_37 ?_
      refine lv_iload_n hx hb dX13_extreme_38 rfl (lv_at hl 2 rfl) ?_
      refine lv_iload_n hx hb dX13_extreme_39 rfl (lv_at hl 3 rfl) ?_
      refine lv_imul hx hb dX13_extreme_40 ?_
      refine lv_icmp_ge (tgt := 48) hx hb dX13_extreme_41 (by decide) (fun c15 => ?_) (fun c15 => ?_)
      · replace hf := (if_pos c15).symm.trans hf
        exact X13_extreme_48_W hC hQ h_9 hf hw (lv_sub hl [0, 1, 2, 3, 4] rfl)
      · replace hf := (if_neg c15).symm.trans hf
        refine lv_iconst (v := 1) hx hb dX13_extreme_44 (by decide) ?_
        refine lv_goto (tgt := 49) hx hb dX13_extreme_45 (by decide) ?_
        exact X13_extreme_49_W hC hQ h_9 hf hw (lv_sub hl [0, 1, 2, 3, 4] rfl)
def X13_extreme_9 (E : gE) (σ : gS) : Nat → Nat → Int32 → Int32 → Int32 → Int32 → Option Int32
  | 0 => fun _ _ _ _ _ => none
  | n + 1 => X13_extreme_9_s E σ (X13_extreme_9 E σ n)
theorem X13_extreme_9_W {σ : gS} {res : Int32} (hC : gC E D A p R s m args meth c cX13_extreme 6 RX13 "extreme" 5 111) (hQ : gQI E D A p l e R s m args below meth c Q cX13_extreme FieldType.int (res, σ)) : ∀ (n : Nat), ∀ {l0 : Nat} {l1 : Int32} {l2 : Int32} {l3 : Int32} {l4 : Int32} {H : Heap} {locs : List Loc} {cells slots : Nat} {ls : Array Slot}, X13_extreme_9 E σ n l0 l1 l2 l3 l4 = some res → gW E D A s σ H locs → lv_has ls 6 [(0, .ref l0), (1, .int l1), (2, .int l2), (3, .int l3), (4, .int l4)] → W p l e R s m args below meth c H locs cells slots Q (F0 m 9 ls []) := by
  intro n
  induction n with
  | zero =>
    intros
    rename_i hf _ _
    exact absurd hf (fun h => by cases (show (none : Option Int32) = some res from h))
  | succ n ih =>
    intros
    rename_i hf hw hl
    exact X13_extreme_9_s_W hC hQ ih hf hw hl

def X13_extreme (E : gE) (σ : gS) (l0 : Nat) (l1 : Int32) (l2 : Int32) : Option Int32 :=
  X13_extreme_9 E σ (gN E) l0 l1 l2 (l2 * (10000 : Int32)) (0 : Int32)
set_option maxHeartbeats 4000000 in
set_option maxRecDepth 100000 in
theorem X13_extreme_W {σ : gS} {l0 : Nat} {l1 : Int32} {l2 : Int32} {res : Int32} {ls : Array Slot} (hC : gC E D A p R s m args meth c cX13_extreme 6 RX13 "extreme" 5 111) (hQ : gQI E D A p l e R s m args below meth c Q cX13_extreme FieldType.int (res, σ)) (hf : X13_extreme E σ l0 l1 l2 = some res) (hw : gW E D A s σ H locs) (hl : lv_has ls 6 [(0, .ref l0), (1, .int l1), (2, .int l2)]) : W p l e R s m args below meth c H locs cells slots Q (F0 m 0 ls []) := by
  have hC0 := hC
  obtain ⟨hx, hb, hml, hown, hts, -⟩ := hC0
  unfold X13_extreme at hf
  refine lv_iload_n hx hb dX13_extreme_0 rfl (lv_at hl 2 rfl) ?_
  refine lv_sipush (v := 10000) hx hb dX13_extreme_1 (by decide) ?_
  refine lv_imul hx hb dX13_extreme_4 ?_
  refine lv_istore_n (lv' := [(3, .int (l2 * (10000 : Int32))), (0, .ref l0), (1, .int l1), (2, .int l2)]) hx hb dX13_extreme_5 rfl hl (by decide) rfl (fun ls hl => ?_)
  refine lv_iconst (v := 0) hx hb dX13_extreme_6 (by decide) ?_
  refine lv_istore (lv' := [(4, .int (0 : Int32)), (3, .int (l2 * (10000 : Int32))), (0, .ref l0), (1, .int l1), (2, .int l2)]) hx hb dX13_extreme_7 hl (by decide) rfl (fun ls hl => ?_)
  exact X13_extreme_9_W hC hQ (gN E) hf hw (lv_sub hl [2, 3, 4, 1, 0] rfl)

def X13_extreme_f (E : gE) (σ : gS) (l0 : Nat) (l1 : Int32) (l2 : Int32) : Option Int32 := X13_extreme E σ l0 l1 l2
set_option maxRecDepth 100000 in
theorem X13_extreme_M (l : Launch) (E : gE) (D : va_G) (A : Nat → Prop) {l0 : Nat} {l1 : Int32} {l2 : Int32} {σ : gS} {res : Int32} (hf : X13_extreme_f E σ l0 l1 l2 = some res) : gCI l E D A yX13_extreme cX13_extreme 6 5 111 (some FieldType.int) [.ref l0, .int l1, .int l2] σ (res, σ) := by
  refine gg_entI (own := RX13) (nm := "extreme") (ty := FieldType.int) (by decide +kernel) rfl rfl (Nat.le_of_ble_eq_true rfl) rfl ?_
  intro p e R s m args below meth c Q ls hC hw hQ hl
  have hl : lv_has ls 6 [(0, .ref l0), (1, .int l1), (2, .int l2)] := hl
  exact X13_extreme_W hC hQ hf hw hl

def X13_smallestSelected_18 (E : gE) (l0 : Nat) (l1 : Int32) (s0 : Int32) (s1 : Int32) (s2 : Nat) (σ : gS) : Option (Int32 × gS) :=
  ob (gcl σ s2 11) fun _ =>
  ob (X13_lacksBoth_f E s2 s1 s0 σ) fun x1 =>
  if x1.1 = 0 then
    ob (gcl x1.2 l0 11) fun _ =>
    ob (X13_extreme_f E x1.2 l0 l1 (1 : Int32)) fun x4 =>
    some (x4, x1.2)
  else
    some ((0 : Int32), x1.2)
set_option maxHeartbeats 4000000 in
set_option maxRecDepth 100000 in
theorem X13_smallestSelected_18_W {σ : gS} {l0 : Nat} {l1 : Int32} {s0 : Int32} {s1 : Int32} {s2 : Nat} {res : (Int32 × gS)} {ls : Array Slot} (hC : gC E D A p R s m args meth c cX13_smallestSelected 2 RX13 "smallestSelected" 6 136) (hQ : gQI E D A p l e R s m args below meth c Q cX13_smallestSelected FieldType.int res) (hf : X13_smallestSelected_18 E l0 l1 s0 s1 s2 σ = some res) (hw : gW E D A s σ H locs) (hl : lv_has ls 2 [(0, .ref l0), (1, .int l1)]) : W p l e R s m args below meth c H locs cells slots Q (F0 m 18 ls [.int s0, .int s1, .ref s2]) := by
  have hC0 := hC
  obtain ⟨hx, hb, hml, hown, hts, -⟩ := hC0
  unfold X13_smallestSelected_18 at hf
  obtain ⟨_, h3, hf⟩ := ob_some hf
  obtain ⟨x1, h2, hf⟩ := ob_some hf
  refine gg_cVI (As := [.int s1, .int s0]) hC hw (X13_lacksBoth_M l E D A h2) h3 rfl g_ml_X13_205 hd_X13_lacksBoth (Nat.le_of_ble_eq_true rfl) (Nat.le_of_ble_eq_true rfl) hl.1 rfl (Nat.le_of_ble_eq_true rfl) dX13_smallestSelected_18 (fun H locs cells slots hw => ?_)
  refine lv_if_eq (tgt := 28) hx hb dX13_smallestSelected_21 (by decide) (fun c7 => ?_) (fun c7 => ?_)
  · replace hf := (if_pos c7).symm.trans hf
    refine lv_aload_n hx hb dX13_smallestSelected_28 rfl (lv_at hl 0 rfl) ?_
    refine lv_iload_n hx hb dX13_smallestSelected_29 rfl (lv_at hl 1 rfl) ?_
    refine lv_iconst (v := 1) hx hb dX13_smallestSelected_30 (by decide) ?_
    obtain ⟨_, h6, hf⟩ := ob_some hf
    obtain ⟨x4, h5, hf⟩ := ob_some hf
    refine gg_cVI (As := [.int l1, .int (1 : Int32)]) hC hw (X13_extreme_M l E D A h5) h6 rfl g_ml_X13_209 hd_X13_extreme (Nat.le_of_ble_eq_true rfl) (Nat.le_of_ble_eq_true rfl) hl.1 rfl (Nat.le_of_ble_eq_true rfl) dX13_smallestSelected_31 (fun H locs cells slots hw => ?_)
    cases hf
    exact hQ _ _ _ _ _ _ dX13_smallestSelected_34 rfl hw
  · replace hf := (if_neg c7).symm.trans hf
    refine lv_iconst (v := 0) hx hb dX13_smallestSelected_24 (by decide) ?_
    refine lv_goto (tgt := 34) hx hb dX13_smallestSelected_25 (by decide) ?_
    cases hf
    exact hQ _ _ _ _ _ _ dX13_smallestSelected_34 rfl hw

def X13_smallestSelected (E : gE) (l0 : Nat) (l1 : Int32) (σ : gS) : Option (Int32 × gS) :=
  ob (gcl σ l0 11) fun _ =>
  ob (X13_isColumn_f E σ l0 l1) fun x8 =>
  ob (gcl σ l0 11) fun _ =>
  ob (X13_countSelected_f E σ l0) fun x11 =>
  if x11 ≤ 0 then
    X13_smallestSelected_18 E l0 l1 (0 : Int32) x8 l0 σ
  else
    X13_smallestSelected_18 E l0 l1 (1 : Int32) x8 l0 σ
set_option maxHeartbeats 4000000 in
set_option maxRecDepth 100000 in
theorem X13_smallestSelected_W {σ : gS} {l0 : Nat} {l1 : Int32} {res : (Int32 × gS)} {ls : Array Slot} (hC : gC E D A p R s m args meth c cX13_smallestSelected 2 RX13 "smallestSelected" 6 136) (hQ : gQI E D A p l e R s m args below meth c Q cX13_smallestSelected FieldType.int res) (hf : X13_smallestSelected E l0 l1 σ = some res) (hw : gW E D A s σ H locs) (hl : lv_has ls 2 [(0, .ref l0), (1, .int l1)]) : W p l e R s m args below meth c H locs cells slots Q (F0 m 0 ls []) := by
  have hC0 := hC
  obtain ⟨hx, hb, hml, hown, hts, -⟩ := hC0
  unfold X13_smallestSelected at hf
  refine lv_aload_n hx hb dX13_smallestSelected_0 rfl (lv_at hl 0 rfl) ?_
  refine lv_aload_n hx hb dX13_smallestSelected_1 rfl (lv_at hl 0 rfl) ?_
  refine lv_iload_n hx hb dX13_smallestSelected_2 rfl (lv_at hl 1 rfl) ?_
  obtain ⟨_, h10, hf⟩ := ob_some hf
  obtain ⟨x8, h9, hf⟩ := ob_some hf
  refine gg_cVI (As := [.int l1]) hC hw (X13_isColumn_M l E D A h9) h10 rfl g_ml_X13_112 hd_X13_isColumn (Nat.le_of_ble_eq_true rfl) (Nat.le_of_ble_eq_true rfl) hl.1 rfl (Nat.le_of_ble_eq_true rfl) dX13_smallestSelected_3 (fun H locs cells slots hw => ?_)
  refine lv_aload_n hx hb dX13_smallestSelected_6 rfl (lv_at hl 0 rfl) ?_
  obtain ⟨_, h13, hf⟩ := ob_some hf
  obtain ⟨x11, h12, hf⟩ := ob_some hf
  refine gg_cVI (As := []) hC hw (X13_countSelected_M l E D A h12) h13 rfl g_ml_X13_198 hd_X13_countSelected (Nat.le_of_ble_eq_true rfl) (Nat.le_of_ble_eq_true rfl) hl.1 rfl (Nat.le_of_ble_eq_true rfl) dX13_smallestSelected_7 (fun H locs cells slots hw => ?_)
  refine lv_if_le (tgt := 17) hx hb dX13_smallestSelected_10 (by decide) (fun c14 => ?_) (fun c14 => ?_)
  · replace hf := (if_pos c14).symm.trans hf
    refine lv_iconst (v := 0) hx hb dX13_smallestSelected_17 (by decide) ?_
    exact X13_smallestSelected_18_W hC hQ hf hw (lv_sub hl [0, 1] rfl)
  · replace hf := (if_neg c14).symm.trans hf
    refine lv_iconst (v := 1) hx hb dX13_smallestSelected_13 (by decide) ?_
    refine lv_goto (tgt := 18) hx hb dX13_smallestSelected_14 (by decide) ?_
    exact X13_smallestSelected_18_W hC hQ hf hw (lv_sub hl [0, 1] rfl)

def X13_smallestSelected_f (E : gE) (l0 : Nat) (l1 : Int32) (σ : gS) : Option (Int32 × gS) := X13_smallestSelected E l0 l1 σ
set_option maxRecDepth 100000 in
theorem X13_smallestSelected_M (l : Launch) (E : gE) (D : va_G) (A : Nat → Prop) {l0 : Nat} {l1 : Int32} {σ : gS} {res : (Int32 × gS)} (hf : X13_smallestSelected_f E l0 l1 σ = some res) : gCI l E D A yX13_smallestSelected cX13_smallestSelected 2 6 136 (some FieldType.int) [.ref l0, .int l1] σ res := by
  refine gg_entI (own := RX13) (nm := "smallestSelected") (ty := FieldType.int) (by decide +kernel) rfl rfl (Nat.le_of_ble_eq_true rfl) rfl ?_
  intro p e R s m args below meth c Q ls hC hw hQ hl
  have hl : lv_has ls 2 [(0, .ref l0), (1, .int l1)] := hl
  exact X13_smallestSelected_W hC hQ hf hw hl

def X13_greatestSelected_18 (E : gE) (l0 : Nat) (l1 : Int32) (s0 : Int32) (s1 : Int32) (s2 : Nat) (σ : gS) : Option (Int32 × gS) :=
  ob (gcl σ s2 11) fun _ =>
  ob (X13_lacksBoth_f E s2 s1 s0 σ) fun x1 =>
  if x1.1 = 0 then
    ob (gcl x1.2 l0 11) fun _ =>
    ob (X13_extreme_f E x1.2 l0 l1 (-1 : Int32)) fun x4 =>
    some (x4, x1.2)
  else
    some ((0 : Int32), x1.2)
set_option maxHeartbeats 4000000 in
set_option maxRecDepth 100000 in
theorem X13_greatestSelected_18_W {σ : gS} {l0 : Nat} {l1 : Int32} {s0 : Int32} {s1 : Int32} {s2 : Nat} {res : (Int32 × gS)} {ls : Array Slot} (hC : gC E D A p R s m args meth c cX13_greatestSelected 2 RX13 "greatestSelected" 6 136) (hQ : gQI E D A p l e R s m args below meth c Q cX13_greatestSelected FieldType.int res) (hf : X13_greatestSelected_18 E l0 l1 s0 s1 s2 σ = some res) (hw : gW E D A s σ H locs) (hl : lv_has ls 2 [(0, .ref l0), (1, .int l1)]) : W p l e R s m args below meth c H locs cells slots Q (F0 m 18 ls [.int s0, .int s1, .ref s2]) := by
  have hC0 := hC
  obtain ⟨hx, hb, hml, hown, hts, -⟩ := hC0
  unfold X13_greatestSelected_18 at hf
  obtain ⟨_, h3, hf⟩ := ob_some hf
  obtain ⟨x1, h2, hf⟩ := ob_some hf
  refine gg_cVI (As := [.int s1, .int s0]) hC hw (X13_lacksBoth_M l E D A h2) h3 rfl g_ml_X13_205 hd_X13_lacksBoth (Nat.le_of_ble_eq_true rfl) (Nat.le_of_ble_eq_true rfl) hl.1 rfl (Nat.le_of_ble_eq_true rfl) dX13_greatestSelected_18 (fun H locs cells slots hw => ?_)
  refine lv_if_eq (tgt := 28) hx hb dX13_greatestSelected_21 (by decide) (fun c7 => ?_) (fun c7 => ?_)
  · replace hf := (if_pos c7).symm.trans hf
    refine lv_aload_n hx hb dX13_greatestSelected_28 rfl (lv_at hl 0 rfl) ?_
    refine lv_iload_n hx hb dX13_greatestSelected_29 rfl (lv_at hl 1 rfl) ?_
    refine lv_iconst (v := -1) hx hb dX13_greatestSelected_30 (by decide) ?_
    obtain ⟨_, h6, hf⟩ := ob_some hf
    obtain ⟨x4, h5, hf⟩ := ob_some hf
    refine gg_cVI (As := [.int l1, .int (-1 : Int32)]) hC hw (X13_extreme_M l E D A h5) h6 rfl g_ml_X13_209 hd_X13_extreme (Nat.le_of_ble_eq_true rfl) (Nat.le_of_ble_eq_true rfl) hl.1 rfl (Nat.le_of_ble_eq_true rfl) dX13_greatestSelected_31 (fun H locs cells slots hw => ?_)
    cases hf
    exact hQ _ _ _ _ _ _ dX13_greatestSelected_34 rfl hw
  · replace hf := (if_neg c7).symm.trans hf
    refine lv_iconst (v := 0) hx hb dX13_greatestSelected_24 (by decide) ?_
    refine lv_goto (tgt := 34) hx hb dX13_greatestSelected_25 (by decide) ?_
    cases hf
    exact hQ _ _ _ _ _ _ dX13_greatestSelected_34 rfl hw

def X13_greatestSelected (E : gE) (l0 : Nat) (l1 : Int32) (σ : gS) : Option (Int32 × gS) :=
  ob (gcl σ l0 11) fun _ =>
  ob (X13_isColumn_f E σ l0 l1) fun x8 =>
  ob (gcl σ l0 11) fun _ =>
  ob (X13_countSelected_f E σ l0) fun x11 =>
  if x11 ≤ 0 then
    X13_greatestSelected_18 E l0 l1 (0 : Int32) x8 l0 σ
  else
    X13_greatestSelected_18 E l0 l1 (1 : Int32) x8 l0 σ
set_option maxHeartbeats 4000000 in
set_option maxRecDepth 100000 in
theorem X13_greatestSelected_W {σ : gS} {l0 : Nat} {l1 : Int32} {res : (Int32 × gS)} {ls : Array Slot} (hC : gC E D A p R s m args meth c cX13_greatestSelected 2 RX13 "greatestSelected" 6 136) (hQ : gQI E D A p l e R s m args below meth c Q cX13_greatestSelected FieldType.int res) (hf : X13_greatestSelected E l0 l1 σ = some res) (hw : gW E D A s σ H locs) (hl : lv_has ls 2 [(0, .ref l0), (1, .int l1)]) : W p l e R s m args below meth c H locs cells slots Q (F0 m 0 ls []) := by
  have hC0 := hC
  obtain ⟨hx, hb, hml, hown, hts, -⟩ := hC0
  unfold X13_greatestSelected at hf
  refine lv_aload_n hx hb dX13_greatestSelected_0 rfl (lv_at hl 0 rfl) ?_
  refine lv_aload_n hx hb dX13_greatestSelected_1 rfl (lv_at hl 0 rfl) ?_
  refine lv_iload_n hx hb dX13_greatestSelected_2 rfl (lv_at hl 1 rfl) ?_
  obtain ⟨_, h10, hf⟩ := ob_some hf
  obtain ⟨x8, h9, hf⟩ := ob_some hf
  refine gg_cVI (As := [.int l1]) hC hw (X13_isColumn_M l E D A h9) h10 rfl g_ml_X13_112 hd_X13_isColumn (Nat.le_of_ble_eq_true rfl) (Nat.le_of_ble_eq_true rfl) hl.1 rfl (Nat.le_of_ble_eq_true rfl) dX13_greatestSelected_3 (fun H locs cells slots hw => ?_)
  refine lv_aload_n hx hb dX13_greatestSelected_6 rfl (lv_at hl 0 rfl) ?_
  obtain ⟨_, h13, hf⟩ := ob_some hf
  obtain ⟨x11, h12, hf⟩ := ob_some hf
  refine gg_cVI (As := []) hC hw (X13_countSelected_M l E D A h12) h13 rfl g_ml_X13_198 hd_X13_countSelected (Nat.le_of_ble_eq_true rfl) (Nat.le_of_ble_eq_true rfl) hl.1 rfl (Nat.le_of_ble_eq_true rfl) dX13_greatestSelected_7 (fun H locs cells slots hw => ?_)
  refine lv_if_le (tgt := 17) hx hb dX13_greatestSelected_10 (by decide) (fun c14 => ?_) (fun c14 => ?_)
  · replace hf := (if_pos c14).symm.trans hf
    refine lv_iconst (v := 0) hx hb dX13_greatestSelected_17 (by decide) ?_
    exact X13_greatestSelected_18_W hC hQ hf hw (lv_sub hl [0, 1] rfl)
  · replace hf := (if_neg c14).symm.trans hf
    refine lv_iconst (v := 1) hx hb dX13_greatestSelected_13 (by decide) ?_
    refine lv_goto (tgt := 18) hx hb dX13_greatestSelected_14 (by decide) ?_
    exact X13_greatestSelected_18_W hC hQ hf hw (lv_sub hl [0, 1] rfl)

def X13_greatestSelected_f (E : gE) (l0 : Nat) (l1 : Int32) (σ : gS) : Option (Int32 × gS) := X13_greatestSelected E l0 l1 σ
set_option maxRecDepth 100000 in
theorem X13_greatestSelected_M (l : Launch) (E : gE) (D : va_G) (A : Nat → Prop) {l0 : Nat} {l1 : Int32} {σ : gS} {res : (Int32 × gS)} (hf : X13_greatestSelected_f E l0 l1 σ = some res) : gCI l E D A yX13_greatestSelected cX13_greatestSelected 2 6 136 (some FieldType.int) [.ref l0, .int l1] σ res := by
  refine gg_entI (own := RX13) (nm := "greatestSelected") (ty := FieldType.int) (by decide +kernel) rfl rfl (Nat.le_of_ble_eq_true rfl) rfl ?_
  intro p e R s m args below meth c Q ls hC hw hQ hl
  have hl : lv_has ls 2 [(0, .ref l0), (1, .int l1)] := hl
  exact X13_greatestSelected_W hC hQ hf hw hl

def X13_isFirstSelected_32 (E : gE) (σ : gS) (r_2 : Nat → Int32 → Int32 → Int32 → Option Int32) (l0 : Nat) (l1 : Int32) (l2 : Int32) (l3 : Int32) : Option Int32 :=
  r_2 l0 l1 l2 (l3 + 1)
set_option maxHeartbeats 4000000 in
set_option maxRecDepth 100000 in
theorem X13_isFirstSelected_32_W {σ : gS} {l0 : Nat} {l1 : Int32} {l2 : Int32} {l3 : Int32} {res : Int32} {ls : Array Slot} (hC : gC E D A p R s m args meth c cX13_isFirstSelected 4 RX13 "isFirstSelected" 5 111) (hQ : gQI E D A p l e R s m args below meth c Q cX13_isFirstSelected FieldType.boolean (res, σ)) {r_2 : Nat → Int32 → Int32 → Int32 → Option Int32} (h_2 : ∀ {l0 : Nat} {l1 : Int32} {l2 : Int32} {l3 : Int32} {H : Heap} {locs : List Loc} {cells slots : Nat} {ls : Array Slot}, r_2 l0 l1 l2 l3 = some res → gW E D A s σ H locs → lv_has ls 4 [(0, .ref l0), (1, .int l1), (2, .int l2), (3, .int l3)] → W p l e R s m args below meth c H locs cells slots Q (F0 m 2 ls [])) (hf : X13_isFirstSelected_32 E σ r_2 l0 l1 l2 l3 = some res) (hw : gW E D A s σ H locs) (hl : lv_has ls 4 [(0, .ref l0), (1, .int l1), (2, .int l2), (3, .int l3)]) : W p l e R s m args below meth c H locs cells slots Q (F0 m 32 ls []) := by
  have hC0 := hC
  obtain ⟨hx, hb, hml, hown, hts, -⟩ := hC0
  unfold X13_isFirstSelected_32 at hf
  refine lv_iinc (v := (l3 + 1)) (lv' := [(3, .int (l3 + 1)), (0, .ref l0), (1, .int l1), (2, .int l2)]) hx hb dX13_isFirstSelected_32 hl (k := 3) rfl rfl (by decide) rfl (fun ls hl => ?_)
  refine lv_goto (tgt := 2) hx hb dX13_isFirstSelected_35 (by decide) ?_
  exact h_2 hf hw (lv_sub hl [1, 2, 3, 0] rfl)

def X13_isFirstSelected_2_s (E : gE) (σ : gS) (r_2 : Nat → Int32 → Int32 → Int32 → Option Int32) (l0 : Nat) (l1 : Int32) (l2 : Int32) (l3 : Int32) : Option Int32 :=
  if l2 ≤ l3 then
    ob (gcl σ l0 11) fun _ =>
    ob (X13_selects_f E σ l0 l2) fun x1 =>
    ob (gz x1) fun _ =>
    some x1
  else
    ob (gcl σ l0 11) fun _ =>
    ob (X13_selects_f E σ l0 l3) fun x5 =>
    if x5 = 0 then
      X13_isFirstSelected_32 E σ r_2 l0 l1 l2 l3
    else
      ob (gcl σ l0 11) fun _ =>
      ob (X13_at_f E σ l0 l1 l3) fun x8 =>
      ob (gcl σ l0 11) fun _ =>
      ob (X13_at_f E σ l0 l1 l2) fun x11 =>
      if x8 = x11 then
        some (0 : Int32)
      else
        X13_isFirstSelected_32 E σ r_2 l0 l1 l2 l3
set_option maxHeartbeats 4000000 in
set_option maxRecDepth 100000 in
theorem X13_isFirstSelected_2_s_W {σ : gS} {l0 : Nat} {l1 : Int32} {l2 : Int32} {l3 : Int32} {res : Int32} {ls : Array Slot} (hC : gC E D A p R s m args meth c cX13_isFirstSelected 4 RX13 "isFirstSelected" 5 111) (hQ : gQI E D A p l e R s m args below meth c Q cX13_isFirstSelected FieldType.boolean (res, σ)) {r_2 : Nat → Int32 → Int32 → Int32 → Option Int32} (h_2 : ∀ {l0 : Nat} {l1 : Int32} {l2 : Int32} {l3 : Int32} {H : Heap} {locs : List Loc} {cells slots : Nat} {ls : Array Slot}, r_2 l0 l1 l2 l3 = some res → gW E D A s σ H locs → lv_has ls 4 [(0, .ref l0), (1, .int l1), (2, .int l2), (3, .int l3)] → W p l e R s m args below meth c H locs cells slots Q (F0 m 2 ls [])) (hf : X13_isFirstSelected_2_s E σ r_2 l0 l1 l2 l3 = some res) (hw : gW E D A s σ H locs) (hl : lv_has ls 4 [(0, .ref l0), (1, .int l1), (2, .int l2), (3, .int l3)]) : W p l e R s m args below meth c H locs cells slots Q (F0 m 2 ls []) := by
  have hC0 := hC
  obtain ⟨hx, hb, hml, hown, hts, -⟩ := hC0
  unfold X13_isFirstSelected_2_s at hf
  refine lv_iload_n hx hb dX13_isFirstSelected_2 rfl (lv_at hl 3 rfl) ?_
  refine lv_iload_n hx hb dX13_isFirstSelected_3 rfl (lv_at hl 2 rfl) ?_
  refine lv_icmp_ge (tgt := 38) hx hb dX13_isFirstSelected_4 (by decide) (fun c16 => ?_) (fun c16 => ?_)
  · replace hf := (if_pos c16).symm.trans hf
    refine lv_aload_n hx hb dX13_isFirstSelected_38 rfl (lv_at hl 0 rfl) ?_
    refine lv_iload_n hx hb dX13_isFirstSelected_39 rfl (lv_at hl 2 rfl) ?_
    obtain ⟨_, h3, hf⟩ := ob_some hf
    obtain ⟨x1, h2, hf⟩ := ob_some hf
    refine gg_cVI (As := [.int l2]) hC hw (X13_selects_M l E D A h2) h3 rfl g_ml_X13_183 hd_X13_selects (Nat.le_of_ble_eq_true rfl) (Nat.le_of_ble_eq_true rfl) hl.1 rfl (Nat.le_of_ble_eq_true rfl) dX13_isFirstSelected_40 (fun H locs cells slots hw => ?_)
    obtain ⟨_, h4, hf⟩ := ob_some hf
    cases hf
    exact hQ _ _ _ _ _ _ dX13_isFirstSelected_43 (gz_some h4) hw
  · replace hf := (if_neg c16).symm.trans hf
    refine lv_aload_n hx hb dX13_isFirstSelected_7 rfl (lv_at hl 0 rfl) ?_
    refine lv_iload_n hx hb dX13_isFirstSelected_8 rfl (lv_at hl 3 rfl) ?_
    obtain ⟨_, h7, hf⟩ := ob_some hf
    obtain ⟨x5, h6, hf⟩ := ob_some hf
    refine gg_cVI (As := [.int l3]) hC hw (X13_selects_M l E D A h6) h7 rfl g_ml_X13_183 hd_X13_selects (Nat.le_of_ble_eq_true rfl) (Nat.le_of_ble_eq_true rfl) hl.1 rfl (Nat.le_of_ble_eq_true rfl) dX13_isFirstSelected_9 (fun H locs cells slots hw => ?_)
    refine lv_if_eq (tgt := 32) hx hb dX13_isFirstSelected_12 (by decide) (fun c15 => ?_) (fun c15 => ?_)
    · replace hf := (if_pos c15).symm.trans hf
      exact X13_isFirstSelected_32_W hC hQ h_2 hf hw (lv_sub hl [0, 1, 2, 3] rfl)
    · replace hf := (if_neg c15).symm.trans hf
      refine lv_aload_n hx hb dX13_isFirstSelected_15 rfl (lv_at hl 0 rfl) ?_
      refine lv_iload_n hx hb dX13_isFirstSelected_16 rfl (lv_at hl 1 rfl) ?_
      refine lv_iload_n hx hb dX13_isFirstSelected_17 rfl (lv_at hl 3 rfl) ?_
      obtain ⟨_, h10, hf⟩ := ob_some hf
      obtain ⟨x8, h9, hf⟩ := ob_some hf
      refine gg_cVI (As := [.int l1, .int l3]) hC hw (X13_at_M l E D A h9) h10 rfl g_ml_X13_118 hd_X13_at (Nat.le_of_ble_eq_true rfl) (Nat.le_of_ble_eq_true rfl) hl.1 rfl (Nat.le_of_ble_eq_true rfl) dX13_isFirstSelected_18 (fun H locs cells slots hw => ?_)
      refine lv_aload_n hx hb dX13_isFirstSelected_21 rfl (lv_at hl 0 rfl) ?_
      refine lv_iload_n hx hb dX13_isFirstSelected_22 rfl (lv_at hl 1 rfl) ?_
      refine lv_iload_n hx hb dX13_isFirstSelected_23 rfl (lv_at hl 2 rfl) ?_
      obtain ⟨_, h13, hf⟩ := ob_some hf
      obtain ⟨x11, h12, hf⟩ := ob_some hf
      refine gg_cVI (As := [.int l1, .int l2]) hC hw (X13_at_M l E D A h12) h13 rfl g_ml_X13_118 hd_X13_at (Nat.le_of_ble_eq_true rfl) (Nat.le_of_ble_eq_true rfl) hl.1 rfl (Nat.le_of_ble_eq_true rfl) dX13_isFirstSelected_24 (fun H locs cells slots hw => ?_)
      refine lv_icmp_ne (tgt := 32) hx hb dX13_isFirstSelected_27 (by decide) (fun c14 => ?_) (fun c14 => ?_)
      · replace hf := (if_neg c14).symm.trans hf
        exact X13_isFirstSelected_32_W hC hQ h_2 hf hw (lv_sub hl [0, 1, 2, 3] rfl)
      · replace hf := (if_pos c14).symm.trans hf
        refine lv_iconst (v := 0) hx hb dX13_isFirstSelected_30 (by decide) ?_
        cases hf
        exact hQ _ _ _ _ _ _ dX13_isFirstSelected_31 gz0 hw
def X13_isFirstSelected_2 (E : gE) (σ : gS) : Nat → Nat → Int32 → Int32 → Int32 → Option Int32
  | 0 => fun _ _ _ _ => none
  | n + 1 => X13_isFirstSelected_2_s E σ (X13_isFirstSelected_2 E σ n)
theorem X13_isFirstSelected_2_W {σ : gS} {res : Int32} (hC : gC E D A p R s m args meth c cX13_isFirstSelected 4 RX13 "isFirstSelected" 5 111) (hQ : gQI E D A p l e R s m args below meth c Q cX13_isFirstSelected FieldType.boolean (res, σ)) : ∀ (n : Nat), ∀ {l0 : Nat} {l1 : Int32} {l2 : Int32} {l3 : Int32} {H : Heap} {locs : List Loc} {cells slots : Nat} {ls : Array Slot}, X13_isFirstSelected_2 E σ n l0 l1 l2 l3 = some res → gW E D A s σ H locs → lv_has ls 4 [(0, .ref l0), (1, .int l1), (2, .int l2), (3, .int l3)] → W p l e R s m args below meth c H locs cells slots Q (F0 m 2 ls []) := by
  intro n
  induction n with
  | zero =>
    intros
    rename_i hf _ _
    exact absurd hf (fun h => by cases (show (none : Option Int32) = some res from h))
  | succ n ih =>
    intros
    rename_i hf hw hl
    exact X13_isFirstSelected_2_s_W hC hQ ih hf hw hl

def X13_isFirstSelected (E : gE) (σ : gS) (l0 : Nat) (l1 : Int32) (l2 : Int32) : Option Int32 :=
  X13_isFirstSelected_2 E σ (gN E) l0 l1 l2 (0 : Int32)
set_option maxHeartbeats 4000000 in
set_option maxRecDepth 100000 in
theorem X13_isFirstSelected_W {σ : gS} {l0 : Nat} {l1 : Int32} {l2 : Int32} {res : Int32} {ls : Array Slot} (hC : gC E D A p R s m args meth c cX13_isFirstSelected 4 RX13 "isFirstSelected" 5 111) (hQ : gQI E D A p l e R s m args below meth c Q cX13_isFirstSelected FieldType.boolean (res, σ)) (hf : X13_isFirstSelected E σ l0 l1 l2 = some res) (hw : gW E D A s σ H locs) (hl : lv_has ls 4 [(0, .ref l0), (1, .int l1), (2, .int l2)]) : W p l e R s m args below meth c H locs cells slots Q (F0 m 0 ls []) := by
  have hC0 := hC
  obtain ⟨hx, hb, hml, hown, hts, -⟩ := hC0
  unfold X13_isFirstSelected at hf
  refine lv_iconst (v := 0) hx hb dX13_isFirstSelected_0 (by decide) ?_
  refine lv_istore_n (lv' := [(3, .int (0 : Int32)), (0, .ref l0), (1, .int l1), (2, .int l2)]) hx hb dX13_isFirstSelected_1 rfl hl (by decide) rfl (fun ls hl => ?_)
  exact X13_isFirstSelected_2_W hC hQ (gN E) hf hw (lv_sub hl [1, 2, 3, 0] rfl)

def X13_isFirstSelected_f (E : gE) (σ : gS) (l0 : Nat) (l1 : Int32) (l2 : Int32) : Option Int32 := X13_isFirstSelected E σ l0 l1 l2
set_option maxRecDepth 100000 in
theorem X13_isFirstSelected_M (l : Launch) (E : gE) (D : va_G) (A : Nat → Prop) {l0 : Nat} {l1 : Int32} {l2 : Int32} {σ : gS} {res : Int32} (hf : X13_isFirstSelected_f E σ l0 l1 l2 = some res) : gCI l E D A yX13_isFirstSelected cX13_isFirstSelected 4 5 111 (some FieldType.boolean) [.ref l0, .int l1, .int l2] σ (res, σ) := by
  refine gg_entI (own := RX13) (nm := "isFirstSelected") (ty := FieldType.boolean) (by decide +kernel) rfl rfl (Nat.le_of_ble_eq_true rfl) rfl ?_
  intro p e R s m args below meth c Q ls hC hw hQ hl
  have hl : lv_has ls 4 [(0, .ref l0), (1, .int l1), (2, .int l2)] := hl
  exact X13_isFirstSelected_W hC hQ hf hw hl

def X13_distinctSelected_43 (E : gE) (r_18 : Nat → Int32 → Int32 → Int32 → gS → Option (Int32 × gS)) (l0 : Nat) (l1 : Int32) (l3 : Int32) (s0 : Int32) (s1 : Int32) (σ : gS) : Option (Int32 × gS) :=
  r_18 l0 l1 (s1 + s0) (l3 + 1) σ
set_option maxHeartbeats 4000000 in
set_option maxRecDepth 100000 in
theorem X13_distinctSelected_43_W {σ : gS} {l0 : Nat} {l1 : Int32} {l3 : Int32} {s0 : Int32} {s1 : Int32} {res : (Int32 × gS)} {ls : Array Slot} (hC : gC E D A p R s m args meth c cX13_distinctSelected 4 RX13 "distinctSelected" 6 134) (hQ : gQI E D A p l e R s m args below meth c Q cX13_distinctSelected FieldType.int res) {r_18 : Nat → Int32 → Int32 → Int32 → gS → Option (Int32 × gS)} (h_18 : ∀ {l0 : Nat} {l1 : Int32} {l2 : Int32} {l3 : Int32} {σ : gS} {H : Heap} {locs : List Loc} {cells slots : Nat} {ls : Array Slot}, r_18 l0 l1 l2 l3 σ = some res → gW E D A s σ H locs → lv_has ls 4 [(0, .ref l0), (1, .int l1), (2, .int l2), (3, .int l3)] → W p l e R s m args below meth c H locs cells slots Q (F0 m 18 ls [])) (hf : X13_distinctSelected_43 E r_18 l0 l1 l3 s0 s1 σ = some res) (hw : gW E D A s σ H locs) (hl : lv_has ls 4 [(0, .ref l0), (1, .int l1), (3, .int l3)]) : W p l e R s m args below meth c H locs cells slots Q (F0 m 43 ls [.int s0, .int s1]) := by
  have hC0 := hC
  obtain ⟨hx, hb, hml, hown, hts, -⟩ := hC0
  unfold X13_distinctSelected_43 at hf
  refine lv_iadd hx hb dX13_distinctSelected_43 ?_
  refine lv_istore_n (lv' := [(2, .int (s1 + s0)), (0, .ref l0), (1, .int l1), (3, .int l3)]) hx hb dX13_distinctSelected_44 rfl hl (by decide) rfl (fun ls hl => ?_)
  refine lv_iinc (v := (l3 + 1)) (lv' := [(3, .int (l3 + 1)), (2, .int (s1 + s0)), (0, .ref l0), (1, .int l1)]) hx hb dX13_distinctSelected_45 hl (k := 3) rfl rfl (by decide) rfl (fun ls hl => ?_)
  refine lv_goto (tgt := 18) hx hb dX13_distinctSelected_48 (by decide) ?_
  exact h_18 hf hw (lv_sub hl [2, 3, 1, 0] rfl)

def X13_distinctSelected_18_s (E : gE) (r_18 : Nat → Int32 → Int32 → Int32 → gS → Option (Int32 × gS)) (l0 : Nat) (l1 : Int32) (l2 : Int32) (l3 : Int32) (σ : gS) : Option (Int32 × gS) :=
  ob (gfR σ l0 11 8) fun x1 =>
  ob (graI E 0 σ x1 (1 : Int32)) fun x3 =>
  if x3 ≤ l3 then
    some (l2, σ)
  else
    ob (gcl σ l0 11) fun _ =>
    ob (X13_isFirstSelected_f E σ l0 l1 l3) fun x5 =>
    if x5 = 0 then
      X13_distinctSelected_43 E r_18 l0 l1 l3 (0 : Int32) l2 σ
    else
      X13_distinctSelected_43 E r_18 l0 l1 l3 (1 : Int32) l2 σ
set_option maxHeartbeats 4000000 in
set_option maxRecDepth 100000 in
theorem X13_distinctSelected_18_s_W {σ : gS} {l0 : Nat} {l1 : Int32} {l2 : Int32} {l3 : Int32} {res : (Int32 × gS)} {ls : Array Slot} (hC : gC E D A p R s m args meth c cX13_distinctSelected 4 RX13 "distinctSelected" 6 134) (hQ : gQI E D A p l e R s m args below meth c Q cX13_distinctSelected FieldType.int res) {r_18 : Nat → Int32 → Int32 → Int32 → gS → Option (Int32 × gS)} (h_18 : ∀ {l0 : Nat} {l1 : Int32} {l2 : Int32} {l3 : Int32} {σ : gS} {H : Heap} {locs : List Loc} {cells slots : Nat} {ls : Array Slot}, r_18 l0 l1 l2 l3 σ = some res → gW E D A s σ H locs → lv_has ls 4 [(0, .ref l0), (1, .int l1), (2, .int l2), (3, .int l3)] → W p l e R s m args below meth c H locs cells slots Q (F0 m 18 ls [])) (hf : X13_distinctSelected_18_s E r_18 l0 l1 l2 l3 σ = some res) (hw : gW E D A s σ H locs) (hl : lv_has ls 4 [(0, .ref l0), (1, .int l1), (2, .int l2), (3, .int l3)]) : W p l e R s m args below meth c H locs cells slots Q (F0 m 18 ls []) := by
  have hC0 := hC
  obtain ⟨hx, hb, hml, hown, hts, -⟩ := hC0
  unfold X13_distinctSelected_18_s at hf
  refine lv_iload_n hx hb dX13_distinctSelected_18 rfl (lv_at hl 3 rfl) ?_
  refine lv_aload_n hx hb dX13_distinctSelected_19 rfl (lv_at hl 0 rfl) ?_
  obtain ⟨x1, h2, hf⟩ := ob_some hf
  refine rR_fl_X13_35 hC hw h2 dX13_distinctSelected_20 ?_
  refine lv_iconst (v := 1) hx hb dX13_distinctSelected_23 (by decide) ?_
  obtain ⟨x3, h4, hf⟩ := ob_some hf
  refine gg_aldI hC hw h4 dX13_distinctSelected_24 ?_
  refine lv_icmp_ge (tgt := 51) hx hb dX13_distinctSelected_25 (by decide) (fun c9 => ?_) (fun c9 => ?_)
  · replace hf := (if_pos c9).symm.trans hf
    refine lv_iload_n hx hb dX13_distinctSelected_51 rfl (lv_at hl 2 rfl) ?_
    cases hf
    exact hQ _ _ _ _ _ _ dX13_distinctSelected_52 rfl hw
  · replace hf := (if_neg c9).symm.trans hf
    refine lv_iload_n hx hb dX13_distinctSelected_28 rfl (lv_at hl 2 rfl) ?_
    refine lv_aload_n hx hb dX13_distinctSelected_29 rfl (lv_at hl 0 rfl) ?_
    refine lv_iload_n hx hb dX13_distinctSelected_30 rfl (lv_at hl 1 rfl) ?_
    refine lv_iload_n hx hb dX13_distinctSelected_31 rfl (lv_at hl 3 rfl) ?_
    obtain ⟨_, h7, hf⟩ := ob_some hf
    obtain ⟨x5, h6, hf⟩ := ob_some hf
    refine gg_cVI (As := [.int l1, .int l3]) hC hw (X13_isFirstSelected_M l E D A h6) h7 rfl g_ml_X13_212 hd_X13_isFirstSelected (Nat.le_of_ble_eq_true rfl) (Nat.le_of_ble_eq_true rfl) hl.1 rfl (Nat.le_of_ble_eq_true rfl) dX13_distinctSelected_32 (fun H locs cells slots hw => ?_)
    refine lv_if_eq (tgt := 42) hx hb dX13_distinctSelected_35 (by decide) (fun c8 => ?_) (fun c8 => ?_)
    · replace hf := (if_pos c8).symm.trans hf
      refine lv_iconst (v := 0) hx hb dX13_distinctSelected_42 (by decide) ?_
      exact X13_distinctSelected_43_W hC hQ h_18 hf hw (lv_sub hl [0, 1, 3] rfl)
    · replace hf := (if_neg c8).symm.trans hf
      refine lv_iconst (v := 1) hx hb dX13_distinctSelected_38 (by decide) ?_
      refine lv_goto (tgt := 43) hx hb dX13_distinctSelected_39 (by decide) ?_
      exact X13_distinctSelected_43_W hC hQ h_18 hf hw (lv_sub hl [0, 1, 3] rfl)
def X13_distinctSelected_18 (E : gE) : Nat → Nat → Int32 → Int32 → Int32 → gS → Option (Int32 × gS)
  | 0 => fun _ _ _ _ _ => none
  | n + 1 => X13_distinctSelected_18_s E (X13_distinctSelected_18 E n)
theorem X13_distinctSelected_18_W {res : (Int32 × gS)} (hC : gC E D A p R s m args meth c cX13_distinctSelected 4 RX13 "distinctSelected" 6 134) (hQ : gQI E D A p l e R s m args below meth c Q cX13_distinctSelected FieldType.int res) : ∀ (n : Nat), ∀ {l0 : Nat} {l1 : Int32} {l2 : Int32} {l3 : Int32} {σ : gS} {H : Heap} {locs : List Loc} {cells slots : Nat} {ls : Array Slot}, X13_distinctSelected_18 E n l0 l1 l2 l3 σ = some res → gW E D A s σ H locs → lv_has ls 4 [(0, .ref l0), (1, .int l1), (2, .int l2), (3, .int l3)] → W p l e R s m args below meth c H locs cells slots Q (F0 m 18 ls []) := by
  intro n
  induction n with
  | zero =>
    intros
    rename_i hf _ _
    exact absurd hf (fun h => by cases (show (none : Option (Int32 × gS)) = some res from h))
  | succ n ih =>
    intros
    rename_i hf hw hl
    exact X13_distinctSelected_18_s_W hC hQ ih hf hw hl

def X13_distinctSelected (E : gE) (l0 : Nat) (l1 : Int32) (σ : gS) : Option (Int32 × gS) :=
  ob (gcl σ l0 11) fun _ =>
  ob (X13_isColumn_f E σ l0 l1) fun x10 =>
  ob (gcl σ l0 11) fun _ =>
  ob (X13_lacks_f E l0 x10 σ) fun x13 =>
  if x13.1 = 0 then
    X13_distinctSelected_18 E (gN E) l0 l1 (0 : Int32) (0 : Int32) x13.2
  else
    some ((0 : Int32), x13.2)
set_option maxHeartbeats 4000000 in
set_option maxRecDepth 100000 in
theorem X13_distinctSelected_W {σ : gS} {l0 : Nat} {l1 : Int32} {res : (Int32 × gS)} {ls : Array Slot} (hC : gC E D A p R s m args meth c cX13_distinctSelected 4 RX13 "distinctSelected" 6 134) (hQ : gQI E D A p l e R s m args below meth c Q cX13_distinctSelected FieldType.int res) (hf : X13_distinctSelected E l0 l1 σ = some res) (hw : gW E D A s σ H locs) (hl : lv_has ls 4 [(0, .ref l0), (1, .int l1)]) : W p l e R s m args below meth c H locs cells slots Q (F0 m 0 ls []) := by
  have hC0 := hC
  obtain ⟨hx, hb, hml, hown, hts, -⟩ := hC0
  unfold X13_distinctSelected at hf
  refine lv_aload_n hx hb dX13_distinctSelected_0 rfl (lv_at hl 0 rfl) ?_
  refine lv_aload_n hx hb dX13_distinctSelected_1 rfl (lv_at hl 0 rfl) ?_
  refine lv_iload_n hx hb dX13_distinctSelected_2 rfl (lv_at hl 1 rfl) ?_
  obtain ⟨_, h12, hf⟩ := ob_some hf
  obtain ⟨x10, h11, hf⟩ := ob_some hf
  refine gg_cVI (As := [.int l1]) hC hw (X13_isColumn_M l E D A h11) h12 rfl g_ml_X13_112 hd_X13_isColumn (Nat.le_of_ble_eq_true rfl) (Nat.le_of_ble_eq_true rfl) hl.1 rfl (Nat.le_of_ble_eq_true rfl) dX13_distinctSelected_3 (fun H locs cells slots hw => ?_)
  obtain ⟨_, h15, hf⟩ := ob_some hf
  obtain ⟨x13, h14, hf⟩ := ob_some hf
  refine gg_cVI (As := [.int x10]) hC hw (X13_lacks_M l E D A h14) h15 rfl g_ml_X13_88 hd_X13_lacks (Nat.le_of_ble_eq_true rfl) (Nat.le_of_ble_eq_true rfl) hl.1 rfl (Nat.le_of_ble_eq_true rfl) dX13_distinctSelected_6 (fun H locs cells slots hw => ?_)
  refine lv_if_eq (tgt := 14) hx hb dX13_distinctSelected_9 (by decide) (fun c16 => ?_) (fun c16 => ?_)
  · replace hf := (if_pos c16).symm.trans hf
    refine lv_iconst (v := 0) hx hb dX13_distinctSelected_14 (by decide) ?_
    refine lv_istore_n (lv' := [(2, .int (0 : Int32)), (0, .ref l0), (1, .int l1)]) hx hb dX13_distinctSelected_15 rfl hl (by decide) rfl (fun ls hl => ?_)
    refine lv_iconst (v := 0) hx hb dX13_distinctSelected_16 (by decide) ?_
    refine lv_istore_n (lv' := [(3, .int (0 : Int32)), (2, .int (0 : Int32)), (0, .ref l0), (1, .int l1)]) hx hb dX13_distinctSelected_17 rfl hl (by decide) rfl (fun ls hl => ?_)
    exact X13_distinctSelected_18_W hC hQ (gN E) hf hw (lv_sub hl [2, 3, 1, 0] rfl)
  · replace hf := (if_neg c16).symm.trans hf
    refine lv_iconst (v := 0) hx hb dX13_distinctSelected_12 (by decide) ?_
    cases hf
    exact hQ _ _ _ _ _ _ dX13_distinctSelected_13 rfl hw

def X13_distinctSelected_f (E : gE) (l0 : Nat) (l1 : Int32) (σ : gS) : Option (Int32 × gS) := X13_distinctSelected E l0 l1 σ
set_option maxRecDepth 100000 in
theorem X13_distinctSelected_M (l : Launch) (E : gE) (D : va_G) (A : Nat → Prop) {l0 : Nat} {l1 : Int32} {σ : gS} {res : (Int32 × gS)} (hf : X13_distinctSelected_f E l0 l1 σ = some res) : gCI l E D A yX13_distinctSelected cX13_distinctSelected 4 6 134 (some FieldType.int) [.ref l0, .int l1] σ res := by
  refine gg_entI (own := RX13) (nm := "distinctSelected") (ty := FieldType.int) (by decide +kernel) rfl rfl (Nat.le_of_ble_eq_true rfl) rfl ?_
  intro p e R s m args below meth c Q ls hC hw hQ hl
  have hl : lv_has ls 4 [(0, .ref l0), (1, .int l1)] := hl
  exact X13_distinctSelected_W hC hQ hf hw hl

def X13_meanSelected (E : gE) (l0 : Nat) (l1 : Int32) (σ : gS) : Option (UInt64 × gS) :=
  ob (gcl σ l0 11) fun _ =>
  ob (X13_isColumn_f E σ l0 l1) fun x1 =>
  ob (gcl σ l0 11) fun _ =>
  ob (X13_lacks_f E l0 x1 σ) fun x4 =>
  if x4.1 = 0 then
    ob (gcl x4.2 l0 11) fun _ =>
    ob (X13_countSelected_f E x4.2 l0) fun x7 =>
    if x7 = 0 then
      some ((0 : UInt64), x4.2)
    else
      ob (gcl x4.2 l0 11) fun _ =>
      ob (X13_sumOf_f E x4.2 l0 l1) fun x10 =>
      ob (gddiv (FP.l2d x10) (FP.i2d x7)) fun x13 =>
      some (x13, x4.2)
  else
    some ((0 : UInt64), x4.2)
set_option maxHeartbeats 4000000 in
set_option maxRecDepth 100000 in
theorem X13_meanSelected_W {σ : gS} {l0 : Nat} {l1 : Int32} {res : (UInt64 × gS)} {ls : Array Slot} (hC : gC E D A p R s m args meth c cX13_meanSelected 3 RX13 "meanSelected" 6 135) (hQ : gQD E D A p l e R s m args below meth c Q cX13_meanSelected res) (hf : X13_meanSelected E l0 l1 σ = some res) (hw : gW E D A s σ H locs) (hl : lv_has ls 3 [(0, .ref l0), (1, .int l1)]) : W p l e R s m args below meth c H locs cells slots Q (F0 m 0 ls []) := by
  have hC0 := hC
  obtain ⟨hx, hb, hml, hown, hts, -⟩ := hC0
  unfold X13_meanSelected at hf
  refine lv_aload_n hx hb dX13_meanSelected_0 rfl (lv_at hl 0 rfl) ?_
  refine lv_aload_n hx hb dX13_meanSelected_1 rfl (lv_at hl 0 rfl) ?_
  refine lv_iload_n hx hb dX13_meanSelected_2 rfl (lv_at hl 1 rfl) ?_
  obtain ⟨_, h3, hf⟩ := ob_some hf
  obtain ⟨x1, h2, hf⟩ := ob_some hf
  refine gg_cVI (As := [.int l1]) hC hw (X13_isColumn_M l E D A h2) h3 rfl g_ml_X13_112 hd_X13_isColumn (Nat.le_of_ble_eq_true rfl) (Nat.le_of_ble_eq_true rfl) hl.1 rfl (Nat.le_of_ble_eq_true rfl) dX13_meanSelected_3 (fun H locs cells slots hw => ?_)
  obtain ⟨_, h6, hf⟩ := ob_some hf
  obtain ⟨x4, h5, hf⟩ := ob_some hf
  refine gg_cVI (As := [.int x1]) hC hw (X13_lacks_M l E D A h5) h6 rfl g_ml_X13_88 hd_X13_lacks (Nat.le_of_ble_eq_true rfl) (Nat.le_of_ble_eq_true rfl) hl.1 rfl (Nat.le_of_ble_eq_true rfl) dX13_meanSelected_6 (fun H locs cells slots hw => ?_)
  refine lv_if_eq (tgt := 14) hx hb dX13_meanSelected_9 (by decide) (fun c16 => ?_) (fun c16 => ?_)
  · replace hf := (if_pos c16).symm.trans hf
    refine lv_aload_n hx hb dX13_meanSelected_14 rfl (lv_at hl 0 rfl) ?_
    obtain ⟨_, h9, hf⟩ := ob_some hf
    obtain ⟨x7, h8, hf⟩ := ob_some hf
    refine gg_cVI (As := []) hC hw (X13_countSelected_M l E D A h8) h9 rfl g_ml_X13_198 hd_X13_countSelected (Nat.le_of_ble_eq_true rfl) (Nat.le_of_ble_eq_true rfl) hl.1 rfl (Nat.le_of_ble_eq_true rfl) dX13_meanSelected_15 (fun H locs cells slots hw => ?_)
    refine lv_istore_n (lv' := [(2, .int x7), (0, .ref l0), (1, .int l1)]) hx hb dX13_meanSelected_18 rfl hl (by decide) rfl (fun ls hl => ?_)
    refine lv_iload_n hx hb dX13_meanSelected_19 rfl (lv_at hl 0 rfl) ?_
    refine lv_if_ne (tgt := 27) hx hb dX13_meanSelected_20 (by decide) (fun c15 => ?_) (fun c15 => ?_)
    · replace hf := (if_neg c15).symm.trans hf
      refine lv_aload_n hx hb dX13_meanSelected_27 rfl (lv_at hl 1 rfl) ?_
      refine lv_iload_n hx hb dX13_meanSelected_28 rfl (lv_at hl 2 rfl) ?_
      obtain ⟨_, h12, hf⟩ := ob_some hf
      obtain ⟨x10, h11, hf⟩ := ob_some hf
      refine gg_cVJ (As := [.int l1]) hC hw (X13_sumOf_M l E D A h11) h12 rfl g_ml_X13_201 hd_X13_sumOf (Nat.le_of_ble_eq_true rfl) (Nat.le_of_ble_eq_true rfl) hl.1 rfl (Nat.le_of_ble_eq_true rfl) dX13_meanSelected_29 (fun H locs cells slots hw => ?_)
      refine lv_l2d hx hb dX13_meanSelected_32 ?_
      refine lv_iload_n hx hb dX13_meanSelected_33 rfl (lv_at hl 0 rfl) ?_
      refine lv_i2d hx hb dX13_meanSelected_34 ?_
      obtain ⟨x13, h14, hf⟩ := ob_some hf
      obtain ⟨he, hn⟩ := gddiv_some h14
      refine lv_ddiv hx hb dX13_meanSelected_35 hn ?_
      rw [← he]
      cases hf
      exact hQ _ _ _ _ _ _ dX13_meanSelected_36 hw
    · replace hf := (if_pos c15).symm.trans hf
      refine lv_dconst0 hx hb dX13_meanSelected_23 ?_
      refine lv_goto (tgt := 36) hx hb dX13_meanSelected_24 (by decide) ?_
      cases hf
      exact hQ _ _ _ _ _ _ dX13_meanSelected_36 hw
  · replace hf := (if_neg c16).symm.trans hf
    refine lv_dconst0 hx hb dX13_meanSelected_12 ?_
    cases hf
    exact hQ _ _ _ _ _ _ dX13_meanSelected_13 hw

def X13_meanSelected_f (E : gE) (l0 : Nat) (l1 : Int32) (σ : gS) : Option (UInt64 × gS) := X13_meanSelected E l0 l1 σ
set_option maxRecDepth 100000 in
theorem X13_meanSelected_M (l : Launch) (E : gE) (D : va_G) (A : Nat → Prop) {l0 : Nat} {l1 : Int32} {σ : gS} {res : (UInt64 × gS)} (hf : X13_meanSelected_f E l0 l1 σ = some res) : gCD l E D A yX13_meanSelected cX13_meanSelected 3 6 135 (some FieldType.double) [.ref l0, .int l1] σ res := by
  refine gg_entD (own := RX13) (nm := "meanSelected") (by decide +kernel) rfl rfl (Nat.le_of_ble_eq_true rfl) rfl ?_
  intro p e R s m args below meth c Q ls hC hw hQ hl
  have hl : lv_has ls 3 [(0, .ref l0), (1, .int l1)] := hl
  exact X13_meanSelected_W hC hQ hf hw hl

def X13_selectivity (E : gE) (l0 : Nat) (σ : gS) : Option (UInt32 × gS) :=
  ob (gpf E σ l0 11 10 (.int (0 : Int32))) fun σ1 =>
  ob (gfR σ1 l0 11 8) fun x3 =>
  ob (graI E 0 σ1 x3 (1 : Int32)) fun x5 =>
  if x5 = 0 then
    some ((0 : UInt32), σ1)
  else
    ob (gcl σ1 l0 11) fun _ =>
    ob (X13_countSelected_f E σ1 l0) fun x7 =>
    ob (gfR σ1 l0 11 8) fun x10 =>
    ob (graI E 0 σ1 x10 (1 : Int32)) fun x12 =>
    ob (gfdiv (FP.i2f x7) (FP.i2f x12)) fun x14 =>
    some (x14, σ1)
set_option maxHeartbeats 4000000 in
set_option maxRecDepth 100000 in
theorem X13_selectivity_W {σ : gS} {l0 : Nat} {res : (UInt32 × gS)} {ls : Array Slot} (hC : gC E D A p R s m args meth c cX13_selectivity 1 RX13 "selectivity" 6 133) (hQ : gQF E D A p l e R s m args below meth c Q cX13_selectivity res) (hf : X13_selectivity E l0 σ = some res) (hw : gW E D A s σ H locs) (hl : lv_has ls 1 [(0, .ref l0)]) : W p l e R s m args below meth c H locs cells slots Q (F0 m 0 ls []) := by
  have hC0 := hC
  obtain ⟨hx, hb, hml, hown, hts, -⟩ := hC0
  unfold X13_selectivity at hf
  refine lv_aload_n hx hb dX13_selectivity_0 rfl (lv_at hl 0 rfl) ?_
  refine lv_iconst (v := 0) hx hb dX13_selectivity_1 (by decide) ?_
  obtain ⟨σ1, h2, hf⟩ := ob_some hf
  refine p_fl_X13_85 hC hw h2 rfl rfl dX13_selectivity_2 (fun H locs hw => ?_)
  refine lv_aload_n hx hb dX13_selectivity_5 rfl (lv_at hl 0 rfl) ?_
  obtain ⟨x3, h4, hf⟩ := ob_some hf
  refine rR_fl_X13_35 hC hw h4 dX13_selectivity_6 ?_
  refine lv_iconst (v := 1) hx hb dX13_selectivity_9 (by decide) ?_
  obtain ⟨x5, h6, hf⟩ := ob_some hf
  refine gg_aldI hC hw h6 dX13_selectivity_10 ?_
  refine lv_if_ne (tgt := 18) hx hb dX13_selectivity_11 (by decide) (fun c16 => ?_) (fun c16 => ?_)
  · replace hf := (if_neg c16).symm.trans hf
    refine lv_aload_n hx hb dX13_selectivity_18 rfl (lv_at hl 0 rfl) ?_
    obtain ⟨_, h9, hf⟩ := ob_some hf
    obtain ⟨x7, h8, hf⟩ := ob_some hf
    refine gg_cVI (As := []) hC hw (X13_countSelected_M l E D A h8) h9 rfl g_ml_X13_198 hd_X13_countSelected (Nat.le_of_ble_eq_true rfl) (Nat.le_of_ble_eq_true rfl) hl.1 rfl (Nat.le_of_ble_eq_true rfl) dX13_selectivity_19 (fun H locs cells slots hw => ?_)
    refine lv_i2f hx hb dX13_selectivity_22 ?_
    refine lv_aload_n hx hb dX13_selectivity_23 rfl (lv_at hl 0 rfl) ?_
    obtain ⟨x10, h11, hf⟩ := ob_some hf
    refine rR_fl_X13_35 hC hw h11 dX13_selectivity_24 ?_
    refine lv_iconst (v := 1) hx hb dX13_selectivity_27 (by decide) ?_
    obtain ⟨x12, h13, hf⟩ := ob_some hf
    refine gg_aldI hC hw h13 dX13_selectivity_28 ?_
    refine lv_i2f hx hb dX13_selectivity_29 ?_
    obtain ⟨x14, h15, hf⟩ := ob_some hf
    obtain ⟨he, hn⟩ := gfdiv_some h15
    refine lv_fdiv hx hb dX13_selectivity_30 hn ?_
    rw [← he]
    cases hf
    exact hQ _ _ _ _ _ _ dX13_selectivity_31 hw
  · replace hf := (if_pos c16).symm.trans hf
    refine lv_fconst0 hx hb dX13_selectivity_14 ?_
    refine lv_goto (tgt := 31) hx hb dX13_selectivity_15 (by decide) ?_
    cases hf
    exact hQ _ _ _ _ _ _ dX13_selectivity_31 hw

def X13_selectivity_f (E : gE) (l0 : Nat) (σ : gS) : Option (UInt32 × gS) := X13_selectivity E l0 σ
set_option maxRecDepth 100000 in
theorem X13_selectivity_M (l : Launch) (E : gE) (D : va_G) (A : Nat → Prop) {l0 : Nat} {σ : gS} {res : (UInt32 × gS)} (hf : X13_selectivity_f E l0 σ = some res) : gCF l E D A yX13_selectivity cX13_selectivity 1 6 133 (some FieldType.float) [.ref l0] σ res := by
  refine gg_entF (own := RX13) (nm := "selectivity") (by decide +kernel) rfl rfl (Nat.le_of_ble_eq_true rfl) rfl ?_
  intro p e R s m args below meth c Q ls hC hw hQ hl
  have hl : lv_has ls 1 [(0, .ref l0)] := hl
  exact X13_selectivity_W hC hQ hf hw hl

def X13_bitWidthWith_37 (E : gE) (s0 : Int32) (s1 : Int32) (σ : gS) : Option (Int32 × gS) :=
  ob (X13_widthFor_f E σ (s1 + s0)) fun x1 =>
  some (x1, σ)
set_option maxHeartbeats 4000000 in
set_option maxRecDepth 100000 in
theorem X13_bitWidthWith_37_W {σ : gS} {s0 : Int32} {s1 : Int32} {res : (Int32 × gS)} {ls : Array Slot} (hC : gC E D A p R s m args meth c cX13_bitWidthWith 3 RX13 "bitWidthWith" 3 65) (hQ : gQI E D A p l e R s m args below meth c Q cX13_bitWidthWith FieldType.int res) (hf : X13_bitWidthWith_37 E s0 s1 σ = some res) (hw : gW E D A s σ H locs) (hl : lv_has ls 3 []) : W p l e R s m args below meth c H locs cells slots Q (F0 m 37 ls [.int s0, .int s1]) := by
  have hC0 := hC
  obtain ⟨hx, hb, hml, hown, hts, -⟩ := hC0
  unfold X13_bitWidthWith_37 at hf
  refine lv_iadd hx hb dX13_bitWidthWith_37 ?_
  obtain ⟨x1, h2, hf⟩ := ob_some hf
  refine gg_cSI (As := [.int (s1 + s0)]) hC hw (X13_widthFor_M l E D A h2) g_ml_X13_151 hd_X13_widthFor.2 (Nat.le_of_ble_eq_true rfl) (Nat.le_of_ble_eq_true rfl) hl.1 rfl (Nat.le_of_ble_eq_true rfl) dX13_bitWidthWith_38 (fun H locs cells slots hw => ?_)
  cases hf
  exact hQ _ _ _ _ _ _ dX13_bitWidthWith_41 rfl hw

def X13_bitWidthWith (E : gE) (l0 : Nat) (l1 : Int32) (l2 : Int32) (σ : gS) : Option (Int32 × gS) :=
  ob (gcl σ l0 11) fun _ =>
  ob (X13_isColumn_f E σ l0 l1) fun x3 =>
  ob (X13_isValue_f E σ l2) fun x6 =>
  ob (gcl σ l0 11) fun _ =>
  ob (X13_lacksBoth_f E l0 x3 x6 σ) fun x8 =>
  if x8.1 = 0 then
    ob (gcl x8.2 l0 11) fun _ =>
    ob (X13_sizeIn_f E x8.2 l0 l1) fun x11 =>
    ob (gcl x8.2 l0 11) fun _ =>
    ob (X13_has_f E x8.2 l0 l1 l2) fun x14 =>
    if x14 = 0 then
      X13_bitWidthWith_37 E (1 : Int32) x11 x8.2
    else
      X13_bitWidthWith_37 E (0 : Int32) x11 x8.2
  else
    some ((0 : Int32), x8.2)
set_option maxHeartbeats 4000000 in
set_option maxRecDepth 100000 in
theorem X13_bitWidthWith_W {σ : gS} {l0 : Nat} {l1 : Int32} {l2 : Int32} {res : (Int32 × gS)} {ls : Array Slot} (hC : gC E D A p R s m args meth c cX13_bitWidthWith 3 RX13 "bitWidthWith" 3 65) (hQ : gQI E D A p l e R s m args below meth c Q cX13_bitWidthWith FieldType.int res) (hf : X13_bitWidthWith E l0 l1 l2 σ = some res) (hw : gW E D A s σ H locs) (hl : lv_has ls 3 [(0, .ref l0), (1, .int l1), (2, .int l2)]) : W p l e R s m args below meth c H locs cells slots Q (F0 m 0 ls []) := by
  have hC0 := hC
  obtain ⟨hx, hb, hml, hown, hts, -⟩ := hC0
  unfold X13_bitWidthWith at hf
  refine lv_aload_n hx hb dX13_bitWidthWith_0 rfl (lv_at hl 0 rfl) ?_
  refine lv_aload_n hx hb dX13_bitWidthWith_1 rfl (lv_at hl 0 rfl) ?_
  refine lv_iload_n hx hb dX13_bitWidthWith_2 rfl (lv_at hl 1 rfl) ?_
  obtain ⟨_, h5, hf⟩ := ob_some hf
  obtain ⟨x3, h4, hf⟩ := ob_some hf
  refine gg_cVI (As := [.int l1]) hC hw (X13_isColumn_M l E D A h4) h5 rfl g_ml_X13_112 hd_X13_isColumn (Nat.le_of_ble_eq_true rfl) (Nat.le_of_ble_eq_true rfl) hl.1 rfl (Nat.le_of_ble_eq_true rfl) dX13_bitWidthWith_3 (fun H locs cells slots hw => ?_)
  refine lv_iload_n hx hb dX13_bitWidthWith_6 rfl (lv_at hl 2 rfl) ?_
  obtain ⟨x6, h7, hf⟩ := ob_some hf
  refine gg_cSI (As := [.int l2]) hC hw (X13_isValue_M l E D A h7) g_ml_X13_104 hd_X13_isValue.2 (Nat.le_of_ble_eq_true rfl) (Nat.le_of_ble_eq_true rfl) hl.1 rfl (Nat.le_of_ble_eq_true rfl) dX13_bitWidthWith_7 (fun H locs cells slots hw => ?_)
  obtain ⟨_, h10, hf⟩ := ob_some hf
  obtain ⟨x8, h9, hf⟩ := ob_some hf
  refine gg_cVI (As := [.int x3, .int x6]) hC hw (X13_lacksBoth_M l E D A h9) h10 rfl g_ml_X13_205 hd_X13_lacksBoth (Nat.le_of_ble_eq_true rfl) (Nat.le_of_ble_eq_true rfl) hl.1 rfl (Nat.le_of_ble_eq_true rfl) dX13_bitWidthWith_10 (fun H locs cells slots hw => ?_)
  refine lv_if_eq (tgt := 18) hx hb dX13_bitWidthWith_13 (by decide) (fun c18 => ?_) (fun c18 => ?_)
  · replace hf := (if_pos c18).symm.trans hf
    refine lv_aload_n hx hb dX13_bitWidthWith_18 rfl (lv_at hl 0 rfl) ?_
    refine lv_iload_n hx hb dX13_bitWidthWith_19 rfl (lv_at hl 1 rfl) ?_
    obtain ⟨_, h13, hf⟩ := ob_some hf
    obtain ⟨x11, h12, hf⟩ := ob_some hf
    refine gg_cVI (As := [.int l1]) hC hw (X13_sizeIn_M l E D A h12) h13 rfl g_ml_X13_115 hd_X13_sizeIn (Nat.le_of_ble_eq_true rfl) (Nat.le_of_ble_eq_true rfl) hl.1 rfl (Nat.le_of_ble_eq_true rfl) dX13_bitWidthWith_20 (fun H locs cells slots hw => ?_)
    refine lv_aload_n hx hb dX13_bitWidthWith_23 rfl (lv_at hl 0 rfl) ?_
    refine lv_iload_n hx hb dX13_bitWidthWith_24 rfl (lv_at hl 1 rfl) ?_
    refine lv_iload_n hx hb dX13_bitWidthWith_25 rfl (lv_at hl 2 rfl) ?_
    obtain ⟨_, h16, hf⟩ := ob_some hf
    obtain ⟨x14, h15, hf⟩ := ob_some hf
    refine gg_cVI (As := [.int l1, .int l2]) hC hw (X13_has_M l E D A h15) h16 rfl g_ml_X13_142 hd_X13_has (Nat.le_of_ble_eq_true rfl) (Nat.le_of_ble_eq_true rfl) hl.1 rfl (Nat.le_of_ble_eq_true rfl) dX13_bitWidthWith_26 (fun H locs cells slots hw => ?_)
    refine lv_if_eq (tgt := 36) hx hb dX13_bitWidthWith_29 (by decide) (fun c17 => ?_) (fun c17 => ?_)
    · replace hf := (if_pos c17).symm.trans hf
      refine lv_iconst (v := 1) hx hb dX13_bitWidthWith_36 (by decide) ?_
      exact X13_bitWidthWith_37_W hC hQ hf hw (lv_sub hl [] rfl)
    · replace hf := (if_neg c17).symm.trans hf
      refine lv_iconst (v := 0) hx hb dX13_bitWidthWith_32 (by decide) ?_
      refine lv_goto (tgt := 37) hx hb dX13_bitWidthWith_33 (by decide) ?_
      exact X13_bitWidthWith_37_W hC hQ hf hw (lv_sub hl [] rfl)
  · replace hf := (if_neg c18).symm.trans hf
    refine lv_iconst (v := 0) hx hb dX13_bitWidthWith_16 (by decide) ?_
    cases hf
    exact hQ _ _ _ _ _ _ dX13_bitWidthWith_17 rfl hw

def X13_bitWidthWith_f (E : gE) (l0 : Nat) (l1 : Int32) (l2 : Int32) (σ : gS) : Option (Int32 × gS) := X13_bitWidthWith E l0 l1 l2 σ
set_option maxRecDepth 100000 in
theorem X13_bitWidthWith_M (l : Launch) (E : gE) (D : va_G) (A : Nat → Prop) {l0 : Nat} {l1 : Int32} {l2 : Int32} {σ : gS} {res : (Int32 × gS)} (hf : X13_bitWidthWith_f E l0 l1 l2 σ = some res) : gCI l E D A yX13_bitWidthWith cX13_bitWidthWith 3 3 65 (some FieldType.int) [.ref l0, .int l1, .int l2] σ res := by
  refine gg_entI (own := RX13) (nm := "bitWidthWith") (ty := FieldType.int) (by decide +kernel) rfl rfl (Nat.le_of_ble_eq_true rfl) rfl ?_
  intro p e R s m args below meth c Q ls hC hw hQ hl
  have hl : lv_has ls 3 [(0, .ref l0), (1, .int l1), (2, .int l2)] := hl
  exact X13_bitWidthWith_W hC hQ hf hw hl

def X13_putInOrder_69 (E : gE) (r_2 : Nat → Int32 → Int32 → Int32 → gS → Option gS) (l0 : Nat) (l1 : Int32) (l2 : Int32) (l3 : Int32) (l4 : Int32) (σ : gS) : Option gS :=
  ob (gfR σ l0 11 5) fun x1 =>
  ob (gwaI E σ x1 l4 l3) fun σ3 =>
  r_2 l0 l1 l2 (l3 + 1) σ3
set_option maxHeartbeats 4000000 in
set_option maxRecDepth 100000 in
theorem X13_putInOrder_69_W {σ : gS} {l0 : Nat} {l1 : Int32} {l2 : Int32} {l3 : Int32} {l4 : Int32} {σz : gS} {ls : Array Slot} (hC : gC E D A p R s m args meth c cX13_putInOrder 5 RX13 "putInOrder" 2 43) (hQ : gQV E D A p l e R s m args below meth c Q cX13_putInOrder σz) {r_2 : Nat → Int32 → Int32 → Int32 → gS → Option gS} (h_2 : ∀ {l0 : Nat} {l1 : Int32} {l2 : Int32} {l3 : Int32} {σ : gS} {H : Heap} {locs : List Loc} {cells slots : Nat} {ls : Array Slot}, r_2 l0 l1 l2 l3 σ = some σz → gW E D A s σ H locs → lv_has ls 5 [(0, .ref l0), (1, .int l1), (2, .int l2), (3, .int l3)] → W p l e R s m args below meth c H locs cells slots Q (F0 m 2 ls [])) (hf : X13_putInOrder_69 E r_2 l0 l1 l2 l3 l4 σ = some σz) (hw : gW E D A s σ H locs) (hl : lv_has ls 5 [(0, .ref l0), (1, .int l1), (2, .int l2), (3, .int l3), (4, .int l4)]) : W p l e R s m args below meth c H locs cells slots Q (F0 m 69 ls []) := by
  have hC0 := hC
  obtain ⟨hx, hb, hml, hown, hts, -⟩ := hC0
  unfold X13_putInOrder_69 at hf
  refine lv_aload_n hx hb dX13_putInOrder_69 rfl (lv_at hl 0 rfl) ?_
  obtain ⟨x1, h2, hf⟩ := ob_some hf
  refine rR_fl_X13_26 hC hw h2 dX13_putInOrder_70 ?_
  refine lv_iload hx hb dX13_putInOrder_73 (lv_at hl 4 rfl) ?_
  refine lv_iload_n hx hb dX13_putInOrder_75 rfl (lv_at hl 3 rfl) ?_
  obtain ⟨σ3, h4, hf⟩ := ob_some hf
  refine gg_astI hC hw h4 dX13_putInOrder_76 (fun H locs hw => ?_)
  refine lv_iinc (v := (l3 + 1)) (lv' := [(3, .int (l3 + 1)), (0, .ref l0), (1, .int l1), (2, .int l2), (4, .int l4)]) hx hb dX13_putInOrder_77 hl (k := 3) rfl rfl (by decide) rfl (fun ls hl => ?_)
  refine lv_goto (tgt := 2) hx hb dX13_putInOrder_80 (by decide) ?_
  exact h_2 hf hw (lv_sub hl [1, 2, 3, 0] rfl)

def X13_putInOrder_15_s (E : gE) (r_2 : Nat → Int32 → Int32 → Int32 → gS → Option gS) (r_15 : Nat → Int32 → Int32 → Int32 → Int32 → gS → Option gS) (l0 : Nat) (l1 : Int32) (l2 : Int32) (l3 : Int32) (l4 : Int32) (σ : gS) : Option gS :=
  if l4 ≤ 0 then
    X13_putInOrder_69 E r_2 l0 l1 l2 l3 l4 σ
  else
    ob (gfR σ l0 11 5) fun x5 =>
    ob (graI E 0 σ x5 (l4 - (1 : Int32))) fun x7 =>
    ob (gcl σ l0 11) fun _ =>
    ob (X13_at_f E σ l0 l1 x7) fun x9 =>
    ob (gcl σ l0 11) fun _ =>
    ob (X13_at_f E σ l0 l1 l3) fun x12 =>
    if (l2 * x9) ≤ (l2 * x12) then
      X13_putInOrder_69 E r_2 l0 l1 l2 l3 l4 σ
    else
      ob (gfR σ l0 11 5) fun x15 =>
      ob (gfR σ l0 11 5) fun x17 =>
      ob (graI E 0 σ x17 (l4 - (1 : Int32))) fun x19 =>
      ob (gwaI E σ x15 l4 x19) fun σ21 =>
      r_15 l0 l1 l2 l3 (l4 + -1) σ21
set_option maxHeartbeats 4000000 in
set_option maxRecDepth 100000 in
theorem X13_putInOrder_15_s_W {σ : gS} {l0 : Nat} {l1 : Int32} {l2 : Int32} {l3 : Int32} {l4 : Int32} {σz : gS} {ls : Array Slot} (hC : gC E D A p R s m args meth c cX13_putInOrder 5 RX13 "putInOrder" 2 43) (hQ : gQV E D A p l e R s m args below meth c Q cX13_putInOrder σz) {r_2 : Nat → Int32 → Int32 → Int32 → gS → Option gS} (h_2 : ∀ {l0 : Nat} {l1 : Int32} {l2 : Int32} {l3 : Int32} {σ : gS} {H : Heap} {locs : List Loc} {cells slots : Nat} {ls : Array Slot}, r_2 l0 l1 l2 l3 σ = some σz → gW E D A s σ H locs → lv_has ls 5 [(0, .ref l0), (1, .int l1), (2, .int l2), (3, .int l3)] → W p l e R s m args below meth c H locs cells slots Q (F0 m 2 ls [])) {r_15 : Nat → Int32 → Int32 → Int32 → Int32 → gS → Option gS} (h_15 : ∀ {l0 : Nat} {l1 : Int32} {l2 : Int32} {l3 : Int32} {l4 : Int32} {σ : gS} {H : Heap} {locs : List Loc} {cells slots : Nat} {ls : Array Slot}, r_15 l0 l1 l2 l3 l4 σ = some σz → gW E D A s σ H locs → lv_has ls 5 [(0, .ref l0), (1, .int l1), (2, .int l2), (3, .int l3), (4, .int l4)] → W p l e R s m args below meth c H locs cells slots Q (F0 m 15 ls [])) (hf : X13_putInOrder_15_s E r_2 r_15 l0 l1 l2 l3 l4 σ = some σz) (hw : gW E D A s σ H locs) (hl : lv_has ls 5 [(0, .ref l0), (1, .int l1), (2, .int l2), (3, .int l3), (4, .int l4)]) : W p l e R s m args below meth c H locs cells slots Q (F0 m 15 ls []) := by
  have hC0 := hC
  obtain ⟨hx, hb, hml, hown, hts, -⟩ := hC0
  unfold X13_putInOrder_15_s at hf
  refine lv_iload hx hb dX13_putInOrder_15 (lv_at hl 4 rfl) ?_
  refine lv_if_le (tgt := 69) hx hb dX13_putInOrder_17 (by decide) (fun c24 => ?_) (fun c24 => ?_)
  · replace hf := (if_pos c24).symm.trans hf
    exact X13_putInOrder_69_W hC hQ h_2 hf hw (lv_sub hl [0, 1, 2, 3, 4] rfl)
  · replace hf := (if_neg c24).symm.trans hf
    refine lv_iload_n hx hb dX13_putInOrder_20 rfl (lv_at hl 2 rfl) ?_
    refine lv_aload_n hx hb dX13_putInOrder_21 rfl (lv_at hl 0 rfl) ?_
    refine lv_iload_n hx hb dX13_putInOrder_22 rfl (lv_at hl 1 rfl) ?_
    refine lv_aload_n hx hb dX13_putInOrder_23 rfl (lv_at hl 0 rfl) ?_
    obtain ⟨x5, h6, hf⟩ := ob_some hf
    refine rR_fl_X13_26 hC hw h6 dX13_putInOrder_24 ?_
    refine lv_iload hx hb dX13_putInOrder_27 (lv_at hl 4 rfl) ?_
    refine lv_iconst (v := 1) hx hb dX13_putInOrder_29 (by decide) ?_
    refine lv_isub hx hb dX13_putInOrder_30 ?_
    obtain ⟨x7, h8, hf⟩ := ob_some hf
    refine gg_aldI hC hw h8 dX13_putInOrder_31 ?_
    obtain ⟨_, h11, hf⟩ := ob_some hf
    obtain ⟨x9, h10, hf⟩ := ob_some hf
    refine gg_cVI (As := [.int l1, .int x7]) hC hw (X13_at_M l E D A h10) h11 rfl g_ml_X13_118 hd_X13_at (Nat.le_of_ble_eq_true rfl) (Nat.le_of_ble_eq_true rfl) hl.1 rfl (Nat.le_of_ble_eq_true rfl) dX13_putInOrder_32 (fun H locs cells slots hw => ?_)
    refine lv_imul hx hb dX13_putInOrder_35 ?_
    refine lv_iload_n hx hb dX13_putInOrder_36 rfl (lv_at hl 2 rfl) ?_
    refine lv_aload_n hx hb dX13_putInOrder_37 rfl (lv_at hl 0 rfl) ?_
    refine lv_iload_n hx hb dX13_putInOrder_38 rfl (lv_at hl 1 rfl) ?_
    refine lv_iload_n hx hb dX13_putInOrder_39 rfl (lv_at hl 3 rfl) ?_
    obtain ⟨_, h14, hf⟩ := ob_some hf
    obtain ⟨x12, h13, hf⟩ := ob_some hf
    refine gg_cVI (As := [.int l1, .int l3]) hC hw (X13_at_M l E D A h13) h14 rfl g_ml_X13_118 hd_X13_at (Nat.le_of_ble_eq_true rfl) (Nat.le_of_ble_eq_true rfl) hl.1 rfl (Nat.le_of_ble_eq_true rfl) dX13_putInOrder_40 (fun H locs cells slots hw => ?_)
    refine lv_imul hx hb dX13_putInOrder_43 ?_
    refine lv_icmp_le (tgt := 69) hx hb dX13_putInOrder_44 (by decide) (fun c23 => ?_) (fun c23 => ?_)
    · replace hf := (if_pos c23).symm.trans hf
      exact X13_putInOrder_69_W hC hQ h_2 hf hw (lv_sub hl [0, 1, 2, 3, 4] rfl)
    · replace hf := (if_neg c23).symm.trans hf
      refine lv_aload_n hx hb dX13_putInOrder_47 rfl (lv_at hl 0 rfl) ?_
      obtain ⟨x15, h16, hf⟩ := ob_some hf
      refine rR_fl_X13_26 hC hw h16 dX13_putInOrder_48 ?_
      refine lv_iload hx hb dX13_putInOrder_51 (lv_at hl 4 rfl) ?_
      refine lv_aload_n hx hb dX13_putInOrder_53 rfl (lv_at hl 0 rfl) ?_
      obtain ⟨x17, h18, hf⟩ := ob_some hf
      refine rR_fl_X13_26 hC hw h18 dX13_putInOrder_54 ?_
      refine lv_iload hx hb dX13_putInOrder_57 (lv_at hl 4 rfl) ?_
      refine lv_iconst (v := 1) hx hb dX13_putInOrder_59 (by decide) ?_
      refine lv_isub hx hb dX13_putInOrder_60 ?_
      obtain ⟨x19, h20, hf⟩ := ob_some hf
      refine gg_aldI hC hw h20 dX13_putInOrder_61 ?_
      obtain ⟨σ21, h22, hf⟩ := ob_some hf
      refine gg_astI hC hw h22 dX13_putInOrder_62 (fun H locs hw => ?_)
      refine lv_iinc (v := (l4 + -1)) (lv' := [(4, .int (l4 + -1)), (0, .ref l0), (1, .int l1), (2, .int l2), (3, .int l3)]) hx hb dX13_putInOrder_63 hl (k := 4) rfl rfl (by decide) rfl (fun ls hl => ?_)
      refine lv_goto (tgt := 15) hx hb dX13_putInOrder_66 (by decide) ?_
      exact h_15 hf hw (lv_sub hl [1, 2, 3, 4, 0] rfl)
def X13_putInOrder_15 (E : gE) (r_2 : Nat → Int32 → Int32 → Int32 → gS → Option gS) : Nat → Nat → Int32 → Int32 → Int32 → Int32 → gS → Option gS
  | 0 => fun _ _ _ _ _ _ => none
  | n + 1 => X13_putInOrder_15_s E r_2 (X13_putInOrder_15 E r_2 n)
theorem X13_putInOrder_15_W {σz : gS} (hC : gC E D A p R s m args meth c cX13_putInOrder 5 RX13 "putInOrder" 2 43) (hQ : gQV E D A p l e R s m args below meth c Q cX13_putInOrder σz) {r_2 : Nat → Int32 → Int32 → Int32 → gS → Option gS} (h_2 : ∀ {l0 : Nat} {l1 : Int32} {l2 : Int32} {l3 : Int32} {σ : gS} {H : Heap} {locs : List Loc} {cells slots : Nat} {ls : Array Slot}, r_2 l0 l1 l2 l3 σ = some σz → gW E D A s σ H locs → lv_has ls 5 [(0, .ref l0), (1, .int l1), (2, .int l2), (3, .int l3)] → W p l e R s m args below meth c H locs cells slots Q (F0 m 2 ls [])) : ∀ (n : Nat), ∀ {l0 : Nat} {l1 : Int32} {l2 : Int32} {l3 : Int32} {l4 : Int32} {σ : gS} {H : Heap} {locs : List Loc} {cells slots : Nat} {ls : Array Slot}, X13_putInOrder_15 E r_2 n l0 l1 l2 l3 l4 σ = some σz → gW E D A s σ H locs → lv_has ls 5 [(0, .ref l0), (1, .int l1), (2, .int l2), (3, .int l3), (4, .int l4)] → W p l e R s m args below meth c H locs cells slots Q (F0 m 15 ls []) := by
  intro n
  induction n with
  | zero =>
    intros
    rename_i hf _ _
    exact absurd hf (fun h => by cases (show (none : Option gS) = some σz from h))
  | succ n ih =>
    intros
    rename_i hf hw hl
    exact X13_putInOrder_15_s_W hC hQ h_2 ih hf hw hl

def X13_putInOrder_2_s (E : gE) (r_2 : Nat → Int32 → Int32 → Int32 → gS → Option gS) (l0 : Nat) (l1 : Int32) (l2 : Int32) (l3 : Int32) (σ : gS) : Option gS :=
  ob (gfR σ l0 11 8) fun x25 =>
  ob (graI E 0 σ x25 (1 : Int32)) fun x27 =>
  if x27 ≤ l3 then
    some σ
  else
    X13_putInOrder_15 E r_2 (gN E) l0 l1 l2 l3 l3 σ
set_option maxHeartbeats 4000000 in
set_option maxRecDepth 100000 in
theorem X13_putInOrder_2_s_W {σ : gS} {l0 : Nat} {l1 : Int32} {l2 : Int32} {l3 : Int32} {σz : gS} {ls : Array Slot} (hC : gC E D A p R s m args meth c cX13_putInOrder 5 RX13 "putInOrder" 2 43) (hQ : gQV E D A p l e R s m args below meth c Q cX13_putInOrder σz) {r_2 : Nat → Int32 → Int32 → Int32 → gS → Option gS} (h_2 : ∀ {l0 : Nat} {l1 : Int32} {l2 : Int32} {l3 : Int32} {σ : gS} {H : Heap} {locs : List Loc} {cells slots : Nat} {ls : Array Slot}, r_2 l0 l1 l2 l3 σ = some σz → gW E D A s σ H locs → lv_has ls 5 [(0, .ref l0), (1, .int l1), (2, .int l2), (3, .int l3)] → W p l e R s m args below meth c H locs cells slots Q (F0 m 2 ls [])) (hf : X13_putInOrder_2_s E r_2 l0 l1 l2 l3 σ = some σz) (hw : gW E D A s σ H locs) (hl : lv_has ls 5 [(0, .ref l0), (1, .int l1), (2, .int l2), (3, .int l3)]) : W p l e R s m args below meth c H locs cells slots Q (F0 m 2 ls []) := by
  have hC0 := hC
  obtain ⟨hx, hb, hml, hown, hts, -⟩ := hC0
  unfold X13_putInOrder_2_s at hf
  refine lv_iload_n hx hb dX13_putInOrder_2 rfl (lv_at hl 3 rfl) ?_
  refine lv_aload_n hx hb dX13_putInOrder_3 rfl (lv_at hl 0 rfl) ?_
  obtain ⟨x25, h26, hf⟩ := ob_some hf
  refine rR_fl_X13_35 hC hw h26 dX13_putInOrder_4 ?_
  refine lv_iconst (v := 1) hx hb dX13_putInOrder_7 (by decide) ?_
  obtain ⟨x27, h28, hf⟩ := ob_some hf
  refine gg_aldI hC hw h28 dX13_putInOrder_8 ?_
  refine lv_icmp_ge (tgt := 83) hx hb dX13_putInOrder_9 (by decide) (fun c29 => ?_) (fun c29 => ?_)
  · replace hf := (if_pos c29).symm.trans hf
    cases hf
    exact hQ _ _ _ _ _ _ dX13_putInOrder_83 hw
  · replace hf := (if_neg c29).symm.trans hf
    refine lv_iload_n hx hb dX13_putInOrder_12 rfl (lv_at hl 3 rfl) ?_
    refine lv_istore (lv' := [(4, .int l3), (0, .ref l0), (1, .int l1), (2, .int l2), (3, .int l3)]) hx hb dX13_putInOrder_13 hl (by decide) rfl (fun ls hl => ?_)
    exact X13_putInOrder_15_W hC hQ h_2 (gN E) hf hw (lv_sub hl [1, 2, 3, 4, 0] rfl)
def X13_putInOrder_2 (E : gE) : Nat → Nat → Int32 → Int32 → Int32 → gS → Option gS
  | 0 => fun _ _ _ _ _ => none
  | n + 1 => X13_putInOrder_2_s E (X13_putInOrder_2 E n)
theorem X13_putInOrder_2_W {σz : gS} (hC : gC E D A p R s m args meth c cX13_putInOrder 5 RX13 "putInOrder" 2 43) (hQ : gQV E D A p l e R s m args below meth c Q cX13_putInOrder σz) : ∀ (n : Nat), ∀ {l0 : Nat} {l1 : Int32} {l2 : Int32} {l3 : Int32} {σ : gS} {H : Heap} {locs : List Loc} {cells slots : Nat} {ls : Array Slot}, X13_putInOrder_2 E n l0 l1 l2 l3 σ = some σz → gW E D A s σ H locs → lv_has ls 5 [(0, .ref l0), (1, .int l1), (2, .int l2), (3, .int l3)] → W p l e R s m args below meth c H locs cells slots Q (F0 m 2 ls []) := by
  intro n
  induction n with
  | zero =>
    intros
    rename_i hf _ _
    exact absurd hf (fun h => by cases (show (none : Option gS) = some σz from h))
  | succ n ih =>
    intros
    rename_i hf hw hl
    exact X13_putInOrder_2_s_W hC hQ ih hf hw hl

def X13_putInOrder (E : gE) (l0 : Nat) (l1 : Int32) (l2 : Int32) (σ : gS) : Option gS :=
  X13_putInOrder_2 E (gN E) l0 l1 l2 (0 : Int32) σ
set_option maxHeartbeats 4000000 in
set_option maxRecDepth 100000 in
theorem X13_putInOrder_W {σ : gS} {l0 : Nat} {l1 : Int32} {l2 : Int32} {σz : gS} {ls : Array Slot} (hC : gC E D A p R s m args meth c cX13_putInOrder 5 RX13 "putInOrder" 2 43) (hQ : gQV E D A p l e R s m args below meth c Q cX13_putInOrder σz) (hf : X13_putInOrder E l0 l1 l2 σ = some σz) (hw : gW E D A s σ H locs) (hl : lv_has ls 5 [(0, .ref l0), (1, .int l1), (2, .int l2)]) : W p l e R s m args below meth c H locs cells slots Q (F0 m 0 ls []) := by
  have hC0 := hC
  obtain ⟨hx, hb, hml, hown, hts, -⟩ := hC0
  unfold X13_putInOrder at hf
  refine lv_iconst (v := 0) hx hb dX13_putInOrder_0 (by decide) ?_
  refine lv_istore_n (lv' := [(3, .int (0 : Int32)), (0, .ref l0), (1, .int l1), (2, .int l2)]) hx hb dX13_putInOrder_1 rfl hl (by decide) rfl (fun ls hl => ?_)
  exact X13_putInOrder_2_W hC hQ (gN E) hf hw (lv_sub hl [1, 2, 3, 0] rfl)

def X13_putInOrder_f (E : gE) (l0 : Nat) (l1 : Int32) (l2 : Int32) (σ : gS) : Option gS := X13_putInOrder E l0 l1 l2 σ
set_option maxRecDepth 100000 in
theorem X13_putInOrder_M (l : Launch) (E : gE) (D : va_G) (A : Nat → Prop) {l0 : Nat} {l1 : Int32} {l2 : Int32} {σ : gS} {σz : gS} (hf : X13_putInOrder_f E l0 l1 l2 σ = some σz) : gCV l E D A yX13_putInOrder cX13_putInOrder 5 2 43 none [.ref l0, .int l1, .int l2] σ σz := by
  refine gg_entV (own := RX13) (nm := "putInOrder") (by decide +kernel) rfl rfl (Nat.le_of_ble_eq_true rfl) rfl ?_
  intro p e R s m args below meth c Q ls hC hw hQ hl
  have hl : lv_has ls 5 [(0, .ref l0), (1, .int l1), (2, .int l2)] := hl
  exact X13_putInOrder_W hC hQ hf hw hl

def X13_runsInOrder_60 (E : gE) (σ : gS) (r_17 : Nat → Int32 → Int32 → Int32 → Option Int32) (l0 : Nat) (l1 : Int32) (l3 : Int32) (s0 : Int32) (s1 : Int32) : Option Int32 :=
  r_17 l0 l1 (s1 + s0) (l3 + 1)
set_option maxHeartbeats 4000000 in
set_option maxRecDepth 100000 in
theorem X13_runsInOrder_60_W {σ : gS} {l0 : Nat} {l1 : Int32} {l3 : Int32} {s0 : Int32} {s1 : Int32} {res : Int32} {ls : Array Slot} (hC : gC E D A p R s m args meth c cX13_runsInOrder 4 RX13 "runsInOrder" 2 43) (hQ : gQI E D A p l e R s m args below meth c Q cX13_runsInOrder FieldType.int (res, σ)) {r_17 : Nat → Int32 → Int32 → Int32 → Option Int32} (h_17 : ∀ {l0 : Nat} {l1 : Int32} {l2 : Int32} {l3 : Int32} {H : Heap} {locs : List Loc} {cells slots : Nat} {ls : Array Slot}, r_17 l0 l1 l2 l3 = some res → gW E D A s σ H locs → lv_has ls 4 [(0, .ref l0), (1, .int l1), (2, .int l2), (3, .int l3)] → W p l e R s m args below meth c H locs cells slots Q (F0 m 17 ls [])) (hf : X13_runsInOrder_60 E σ r_17 l0 l1 l3 s0 s1 = some res) (hw : gW E D A s σ H locs) (hl : lv_has ls 4 [(0, .ref l0), (1, .int l1), (3, .int l3)]) : W p l e R s m args below meth c H locs cells slots Q (F0 m 60 ls [.int s0, .int s1]) := by
  have hC0 := hC
  obtain ⟨hx, hb, hml, hown, hts, -⟩ := hC0
  unfold X13_runsInOrder_60 at hf
  refine lv_iadd hx hb dX13_runsInOrder_60 ?_
  refine lv_istore_n (lv' := [(2, .int (s1 + s0)), (0, .ref l0), (1, .int l1), (3, .int l3)]) hx hb dX13_runsInOrder_61 rfl hl (by decide) rfl (fun ls hl => ?_)
  refine lv_iinc (v := (l3 + 1)) (lv' := [(3, .int (l3 + 1)), (2, .int (s1 + s0)), (0, .ref l0), (1, .int l1)]) hx hb dX13_runsInOrder_62 hl (k := 3) rfl rfl (by decide) rfl (fun ls hl => ?_)
  refine lv_goto (tgt := 17) hx hb dX13_runsInOrder_65 (by decide) ?_
  exact h_17 hf hw (lv_sub hl [2, 3, 1, 0] rfl)

def X13_runsInOrder_17_s (E : gE) (σ : gS) (r_17 : Nat → Int32 → Int32 → Int32 → Option Int32) (l0 : Nat) (l1 : Int32) (l2 : Int32) (l3 : Int32) : Option Int32 :=
  ob (gfR σ l0 11 8) fun x1 =>
  ob (graI E 0 σ x1 (1 : Int32)) fun x3 =>
  if x3 ≤ l3 then
    some l2
  else
    ob (gfR σ l0 11 5) fun x5 =>
    ob (graI E 0 σ x5 l3) fun x7 =>
    ob (gcl σ l0 11) fun _ =>
    ob (X13_at_f E σ l0 l1 x7) fun x9 =>
    ob (gfR σ l0 11 5) fun x12 =>
    ob (graI E 0 σ x12 (l3 - (1 : Int32))) fun x14 =>
    ob (gcl σ l0 11) fun _ =>
    ob (X13_at_f E σ l0 l1 x14) fun x16 =>
    if x9 = x16 then
      X13_runsInOrder_60 E σ r_17 l0 l1 l3 (0 : Int32) l2
    else
      X13_runsInOrder_60 E σ r_17 l0 l1 l3 (1 : Int32) l2
set_option maxHeartbeats 4000000 in
set_option maxRecDepth 100000 in
theorem X13_runsInOrder_17_s_W {σ : gS} {l0 : Nat} {l1 : Int32} {l2 : Int32} {l3 : Int32} {res : Int32} {ls : Array Slot} (hC : gC E D A p R s m args meth c cX13_runsInOrder 4 RX13 "runsInOrder" 2 43) (hQ : gQI E D A p l e R s m args below meth c Q cX13_runsInOrder FieldType.int (res, σ)) {r_17 : Nat → Int32 → Int32 → Int32 → Option Int32} (h_17 : ∀ {l0 : Nat} {l1 : Int32} {l2 : Int32} {l3 : Int32} {H : Heap} {locs : List Loc} {cells slots : Nat} {ls : Array Slot}, r_17 l0 l1 l2 l3 = some res → gW E D A s σ H locs → lv_has ls 4 [(0, .ref l0), (1, .int l1), (2, .int l2), (3, .int l3)] → W p l e R s m args below meth c H locs cells slots Q (F0 m 17 ls [])) (hf : X13_runsInOrder_17_s E σ r_17 l0 l1 l2 l3 = some res) (hw : gW E D A s σ H locs) (hl : lv_has ls 4 [(0, .ref l0), (1, .int l1), (2, .int l2), (3, .int l3)]) : W p l e R s m args below meth c H locs cells slots Q (F0 m 17 ls []) := by
  have hC0 := hC
  obtain ⟨hx, hb, hml, hown, hts, -⟩ := hC0
  unfold X13_runsInOrder_17_s at hf
  refine lv_iload_n hx hb dX13_runsInOrder_17 rfl (lv_at hl 3 rfl) ?_
  refine lv_aload_n hx hb dX13_runsInOrder_18 rfl (lv_at hl 0 rfl) ?_
  obtain ⟨x1, h2, hf⟩ := ob_some hf
  refine rR_fl_X13_35 hC hw h2 dX13_runsInOrder_19 ?_
  refine lv_iconst (v := 1) hx hb dX13_runsInOrder_22 (by decide) ?_
  obtain ⟨x3, h4, hf⟩ := ob_some hf
  refine gg_aldI hC hw h4 dX13_runsInOrder_23 ?_
  refine lv_icmp_ge (tgt := 68) hx hb dX13_runsInOrder_24 (by decide) (fun c20 => ?_) (fun c20 => ?_)
  · replace hf := (if_pos c20).symm.trans hf
    refine lv_iload_n hx hb dX13_runsInOrder_68 rfl (lv_at hl 2 rfl) ?_
    cases hf
    exact hQ _ _ _ _ _ _ dX13_runsInOrder_69 rfl hw
  · replace hf := (if_neg c20).symm.trans hf
    refine lv_iload_n hx hb dX13_runsInOrder_27 rfl (lv_at hl 2 rfl) ?_
    refine lv_aload_n hx hb dX13_runsInOrder_28 rfl (lv_at hl 0 rfl) ?_
    refine lv_iload_n hx hb dX13_runsInOrder_29 rfl (lv_at hl 1 rfl) ?_
    refine lv_aload_n hx hb dX13_runsInOrder_30 rfl (lv_at hl 0 rfl) ?_
    obtain ⟨x5, h6, hf⟩ := ob_some hf
    refine rR_fl_X13_26 hC hw h6 dX13_runsInOrder_31 ?_
    refine lv_iload_n hx hb dX13_runsInOrder_34 rfl (lv_at hl 3 rfl) ?_
    obtain ⟨x7, h8, hf⟩ := ob_some hf
    refine gg_aldI hC hw h8 dX13_runsInOrder_35 ?_
    obtain ⟨_, h11, hf⟩ := ob_some hf
    obtain ⟨x9, h10, hf⟩ := ob_some hf
    refine gg_cVI (As := [.int l1, .int x7]) hC hw (X13_at_M l E D A h10) h11 rfl g_ml_X13_118 hd_X13_at (Nat.le_of_ble_eq_true rfl) (Nat.le_of_ble_eq_true rfl) hl.1 rfl (Nat.le_of_ble_eq_true rfl) dX13_runsInOrder_36 (fun H locs cells slots hw => ?_)
    refine lv_aload_n hx hb dX13_runsInOrder_39 rfl (lv_at hl 0 rfl) ?_
    refine lv_iload_n hx hb dX13_runsInOrder_40 rfl (lv_at hl 1 rfl) ?_
    refine lv_aload_n hx hb dX13_runsInOrder_41 rfl (lv_at hl 0 rfl) ?_
    obtain ⟨x12, h13, hf⟩ := ob_some hf
    refine rR_fl_X13_26 hC hw h13 dX13_runsInOrder_42 ?_
    refine lv_iload_n hx hb dX13_runsInOrder_45 rfl (lv_at hl 3 rfl) ?_
    refine lv_iconst (v := 1) hx hb dX13_runsInOrder_46 (by decide) ?_
    refine lv_isub hx hb dX13_runsInOrder_47 ?_
    obtain ⟨x14, h15, hf⟩ := ob_some hf
    refine gg_aldI hC hw h15 dX13_runsInOrder_48 ?_
    obtain ⟨_, h18, hf⟩ := ob_some hf
    obtain ⟨x16, h17, hf⟩ := ob_some hf
    refine gg_cVI (As := [.int l1, .int x14]) hC hw (X13_at_M l E D A h17) h18 rfl g_ml_X13_118 hd_X13_at (Nat.le_of_ble_eq_true rfl) (Nat.le_of_ble_eq_true rfl) hl.1 rfl (Nat.le_of_ble_eq_true rfl) dX13_runsInOrder_49 (fun H locs cells slots hw => ?_)
    refine lv_icmp_eq (tgt := 59) hx hb dX13_runsInOrder_52 (by decide) (fun c19 => ?_) (fun c19 => ?_)
    · replace hf := (if_pos c19).symm.trans hf
      refine lv_iconst (v := 0) hx hb dX13_runsInOrder_59 (by decide) ?_
      exact X13_runsInOrder_60_W hC hQ h_17 hf hw (lv_sub hl [0, 1, 3] rfl)
    · replace hf := (if_neg c19).symm.trans hf
      refine lv_iconst (v := 1) hx hb dX13_runsInOrder_55 (by decide) ?_
      refine lv_goto (tgt := 60) hx hb dX13_runsInOrder_56 (by decide) ?_
      exact X13_runsInOrder_60_W hC hQ h_17 hf hw (lv_sub hl [0, 1, 3] rfl)
def X13_runsInOrder_17 (E : gE) (σ : gS) : Nat → Nat → Int32 → Int32 → Int32 → Option Int32
  | 0 => fun _ _ _ _ => none
  | n + 1 => X13_runsInOrder_17_s E σ (X13_runsInOrder_17 E σ n)
theorem X13_runsInOrder_17_W {σ : gS} {res : Int32} (hC : gC E D A p R s m args meth c cX13_runsInOrder 4 RX13 "runsInOrder" 2 43) (hQ : gQI E D A p l e R s m args below meth c Q cX13_runsInOrder FieldType.int (res, σ)) : ∀ (n : Nat), ∀ {l0 : Nat} {l1 : Int32} {l2 : Int32} {l3 : Int32} {H : Heap} {locs : List Loc} {cells slots : Nat} {ls : Array Slot}, X13_runsInOrder_17 E σ n l0 l1 l2 l3 = some res → gW E D A s σ H locs → lv_has ls 4 [(0, .ref l0), (1, .int l1), (2, .int l2), (3, .int l3)] → W p l e R s m args below meth c H locs cells slots Q (F0 m 17 ls []) := by
  intro n
  induction n with
  | zero =>
    intros
    rename_i hf _ _
    exact absurd hf (fun h => by cases (show (none : Option Int32) = some res from h))
  | succ n ih =>
    intros
    rename_i hf hw hl
    exact X13_runsInOrder_17_s_W hC hQ ih hf hw hl

def X13_runsInOrder_14 (E : gE) (σ : gS) (l0 : Nat) (l1 : Int32) (s0 : Int32) : Option Int32 :=
  X13_runsInOrder_17 E σ (gN E) l0 l1 s0 (1 : Int32)
set_option maxHeartbeats 4000000 in
set_option maxRecDepth 100000 in
theorem X13_runsInOrder_14_W {σ : gS} {l0 : Nat} {l1 : Int32} {s0 : Int32} {res : Int32} {ls : Array Slot} (hC : gC E D A p R s m args meth c cX13_runsInOrder 4 RX13 "runsInOrder" 2 43) (hQ : gQI E D A p l e R s m args below meth c Q cX13_runsInOrder FieldType.int (res, σ)) (hf : X13_runsInOrder_14 E σ l0 l1 s0 = some res) (hw : gW E D A s σ H locs) (hl : lv_has ls 4 [(0, .ref l0), (1, .int l1)]) : W p l e R s m args below meth c H locs cells slots Q (F0 m 14 ls [.int s0]) := by
  have hC0 := hC
  obtain ⟨hx, hb, hml, hown, hts, -⟩ := hC0
  unfold X13_runsInOrder_14 at hf
  refine lv_istore_n (lv' := [(2, .int s0), (0, .ref l0), (1, .int l1)]) hx hb dX13_runsInOrder_14 rfl hl (by decide) rfl (fun ls hl => ?_)
  refine lv_iconst (v := 1) hx hb dX13_runsInOrder_15 (by decide) ?_
  refine lv_istore_n (lv' := [(3, .int (1 : Int32)), (2, .int s0), (0, .ref l0), (1, .int l1)]) hx hb dX13_runsInOrder_16 rfl hl (by decide) rfl (fun ls hl => ?_)
  exact X13_runsInOrder_17_W hC hQ (gN E) hf hw (lv_sub hl [2, 3, 1, 0] rfl)

def X13_runsInOrder (E : gE) (σ : gS) (l0 : Nat) (l1 : Int32) : Option Int32 :=
  ob (gfR σ l0 11 8) fun x21 =>
  ob (graI E 0 σ x21 (1 : Int32)) fun x23 =>
  if x23 ≤ 0 then
    X13_runsInOrder_14 E σ l0 l1 (0 : Int32)
  else
    X13_runsInOrder_14 E σ l0 l1 (1 : Int32)
set_option maxHeartbeats 4000000 in
set_option maxRecDepth 100000 in
theorem X13_runsInOrder_W {σ : gS} {l0 : Nat} {l1 : Int32} {res : Int32} {ls : Array Slot} (hC : gC E D A p R s m args meth c cX13_runsInOrder 4 RX13 "runsInOrder" 2 43) (hQ : gQI E D A p l e R s m args below meth c Q cX13_runsInOrder FieldType.int (res, σ)) (hf : X13_runsInOrder E σ l0 l1 = some res) (hw : gW E D A s σ H locs) (hl : lv_has ls 4 [(0, .ref l0), (1, .int l1)]) : W p l e R s m args below meth c H locs cells slots Q (F0 m 0 ls []) := by
  have hC0 := hC
  obtain ⟨hx, hb, hml, hown, hts, -⟩ := hC0
  unfold X13_runsInOrder at hf
  refine lv_aload_n hx hb dX13_runsInOrder_0 rfl (lv_at hl 0 rfl) ?_
  obtain ⟨x21, h22, hf⟩ := ob_some hf
  refine rR_fl_X13_35 hC hw h22 dX13_runsInOrder_1 ?_
  refine lv_iconst (v := 1) hx hb dX13_runsInOrder_4 (by decide) ?_
  obtain ⟨x23, h24, hf⟩ := ob_some hf
  refine gg_aldI hC hw h24 dX13_runsInOrder_5 ?_
  refine lv_if_le (tgt := 13) hx hb dX13_runsInOrder_6 (by decide) (fun c25 => ?_) (fun c25 => ?_)
  · replace hf := (if_pos c25).symm.trans hf
    refine lv_iconst (v := 0) hx hb dX13_runsInOrder_13 (by decide) ?_
    exact X13_runsInOrder_14_W hC hQ hf hw (lv_sub hl [0, 1] rfl)
  · replace hf := (if_neg c25).symm.trans hf
    refine lv_iconst (v := 1) hx hb dX13_runsInOrder_9 (by decide) ?_
    refine lv_goto (tgt := 14) hx hb dX13_runsInOrder_10 (by decide) ?_
    exact X13_runsInOrder_14_W hC hQ hf hw (lv_sub hl [0, 1] rfl)

def X13_runsInOrder_f (E : gE) (σ : gS) (l0 : Nat) (l1 : Int32) : Option Int32 := X13_runsInOrder E σ l0 l1
set_option maxRecDepth 100000 in
theorem X13_runsInOrder_M (l : Launch) (E : gE) (D : va_G) (A : Nat → Prop) {l0 : Nat} {l1 : Int32} {σ : gS} {res : Int32} (hf : X13_runsInOrder_f E σ l0 l1 = some res) : gCI l E D A yX13_runsInOrder cX13_runsInOrder 4 2 43 (some FieldType.int) [.ref l0, .int l1] σ (res, σ) := by
  refine gg_entI (own := RX13) (nm := "runsInOrder") (ty := FieldType.int) (by decide +kernel) rfl rfl (Nat.le_of_ble_eq_true rfl) rfl ?_
  intro p e R s m args below meth c Q ls hC hw hQ hl
  have hl : lv_has ls 4 [(0, .ref l0), (1, .int l1)] := hl
  exact X13_runsInOrder_W hC hQ hf hw hl

def X13_runsBy_10_s (E : gE) (r_10 : Nat → Int32 → Int32 → gS → Option (Int32 × gS)) (l0 : Nat) (l2 : Int32) (l3 : Int32) (σ : gS) : Option (Int32 × gS) :=
  ob (gfR σ l0 11 8) fun x1 =>
  ob (graI E 0 σ x1 (0 : Int32)) fun x3 =>
  if x3 ≤ l3 then
    some (l2, σ)
  else
    ob (gcl σ l0 11) fun _ =>
    ob (X13_runsInOrder_f E σ l0 l3) fun x5 =>
    r_10 l0 (l2 + x5) (l3 + 1) σ
set_option maxHeartbeats 4000000 in
set_option maxRecDepth 100000 in
theorem X13_runsBy_10_s_W {σ : gS} {l0 : Nat} {l2 : Int32} {l3 : Int32} {res : (Int32 × gS)} {ls : Array Slot} (hC : gC E D A p R s m args meth c cX13_runsBy 4 RX13 "runsBy" 3 67) (hQ : gQI E D A p l e R s m args below meth c Q cX13_runsBy FieldType.int res) {r_10 : Nat → Int32 → Int32 → gS → Option (Int32 × gS)} (h_10 : ∀ {l0 : Nat} {l2 : Int32} {l3 : Int32} {σ : gS} {H : Heap} {locs : List Loc} {cells slots : Nat} {ls : Array Slot}, r_10 l0 l2 l3 σ = some res → gW E D A s σ H locs → lv_has ls 4 [(0, .ref l0), (2, .int l2), (3, .int l3)] → W p l e R s m args below meth c H locs cells slots Q (F0 m 10 ls [])) (hf : X13_runsBy_10_s E r_10 l0 l2 l3 σ = some res) (hw : gW E D A s σ H locs) (hl : lv_has ls 4 [(0, .ref l0), (2, .int l2), (3, .int l3)]) : W p l e R s m args below meth c H locs cells slots Q (F0 m 10 ls []) := by
  have hC0 := hC
  obtain ⟨hx, hb, hml, hown, hts, -⟩ := hC0
  unfold X13_runsBy_10_s at hf
  refine lv_iload_n hx hb dX13_runsBy_10 rfl (lv_at hl 2 rfl) ?_
  refine lv_aload_n hx hb dX13_runsBy_11 rfl (lv_at hl 0 rfl) ?_
  obtain ⟨x1, h2, hf⟩ := ob_some hf
  refine rR_fl_X13_35 hC hw h2 dX13_runsBy_12 ?_
  refine lv_iconst (v := 0) hx hb dX13_runsBy_15 (by decide) ?_
  obtain ⟨x3, h4, hf⟩ := ob_some hf
  refine gg_aldI hC hw h4 dX13_runsBy_16 ?_
  refine lv_icmp_ge (tgt := 34) hx hb dX13_runsBy_17 (by decide) (fun c8 => ?_) (fun c8 => ?_)
  · replace hf := (if_pos c8).symm.trans hf
    refine lv_iload_n hx hb dX13_runsBy_34 rfl (lv_at hl 1 rfl) ?_
    cases hf
    exact hQ _ _ _ _ _ _ dX13_runsBy_35 rfl hw
  · replace hf := (if_neg c8).symm.trans hf
    refine lv_iload_n hx hb dX13_runsBy_20 rfl (lv_at hl 1 rfl) ?_
    refine lv_aload_n hx hb dX13_runsBy_21 rfl (lv_at hl 0 rfl) ?_
    refine lv_iload_n hx hb dX13_runsBy_22 rfl (lv_at hl 2 rfl) ?_
    obtain ⟨_, h7, hf⟩ := ob_some hf
    obtain ⟨x5, h6, hf⟩ := ob_some hf
    refine gg_cVI (As := [.int l3]) hC hw (X13_runsInOrder_M l E D A h6) h7 rfl g_ml_X13_219 hd_X13_runsInOrder (Nat.le_of_ble_eq_true rfl) (Nat.le_of_ble_eq_true rfl) hl.1 rfl (Nat.le_of_ble_eq_true rfl) dX13_runsBy_23 (fun H locs cells slots hw => ?_)
    refine lv_iadd hx hb dX13_runsBy_26 ?_
    refine lv_istore_n (lv' := [(2, .int (l2 + x5)), (0, .ref l0), (3, .int l3)]) hx hb dX13_runsBy_27 rfl hl (by decide) rfl (fun ls hl => ?_)
    refine lv_iinc (v := (l3 + 1)) (lv' := [(3, .int (l3 + 1)), (2, .int (l2 + x5)), (0, .ref l0)]) hx hb dX13_runsBy_28 hl (k := 2) rfl rfl (by decide) rfl (fun ls hl => ?_)
    refine lv_goto (tgt := 10) hx hb dX13_runsBy_31 (by decide) ?_
    exact h_10 hf hw (lv_sub hl [2, 1, 0] rfl)
def X13_runsBy_10 (E : gE) : Nat → Nat → Int32 → Int32 → gS → Option (Int32 × gS)
  | 0 => fun _ _ _ _ => none
  | n + 1 => X13_runsBy_10_s E (X13_runsBy_10 E n)
theorem X13_runsBy_10_W {res : (Int32 × gS)} (hC : gC E D A p R s m args meth c cX13_runsBy 4 RX13 "runsBy" 3 67) (hQ : gQI E D A p l e R s m args below meth c Q cX13_runsBy FieldType.int res) : ∀ (n : Nat), ∀ {l0 : Nat} {l2 : Int32} {l3 : Int32} {σ : gS} {H : Heap} {locs : List Loc} {cells slots : Nat} {ls : Array Slot}, X13_runsBy_10 E n l0 l2 l3 σ = some res → gW E D A s σ H locs → lv_has ls 4 [(0, .ref l0), (2, .int l2), (3, .int l3)] → W p l e R s m args below meth c H locs cells slots Q (F0 m 10 ls []) := by
  intro n
  induction n with
  | zero =>
    intros
    rename_i hf _ _
    exact absurd hf (fun h => by cases (show (none : Option (Int32 × gS)) = some res from h))
  | succ n ih =>
    intros
    rename_i hf hw hl
    exact X13_runsBy_10_s_W hC hQ ih hf hw hl

def X13_runsBy (E : gE) (l0 : Nat) (l1 : Int32) (σ : gS) : Option (Int32 × gS) :=
  ob (gcl σ l0 11) fun _ =>
  ob (X13_putInOrder_f E l0 l1 (1 : Int32) σ) fun x9 =>
  X13_runsBy_10 E (gN E) l0 (0 : Int32) (0 : Int32) x9
set_option maxHeartbeats 4000000 in
set_option maxRecDepth 100000 in
theorem X13_runsBy_W {σ : gS} {l0 : Nat} {l1 : Int32} {res : (Int32 × gS)} {ls : Array Slot} (hC : gC E D A p R s m args meth c cX13_runsBy 4 RX13 "runsBy" 3 67) (hQ : gQI E D A p l e R s m args below meth c Q cX13_runsBy FieldType.int res) (hf : X13_runsBy E l0 l1 σ = some res) (hw : gW E D A s σ H locs) (hl : lv_has ls 4 [(0, .ref l0), (1, .int l1)]) : W p l e R s m args below meth c H locs cells slots Q (F0 m 0 ls []) := by
  have hC0 := hC
  obtain ⟨hx, hb, hml, hown, hts, -⟩ := hC0
  unfold X13_runsBy at hf
  refine lv_aload_n hx hb dX13_runsBy_0 rfl (lv_at hl 0 rfl) ?_
  refine lv_iload_n hx hb dX13_runsBy_1 rfl (lv_at hl 1 rfl) ?_
  refine lv_iconst (v := 1) hx hb dX13_runsBy_2 (by decide) ?_
  obtain ⟨_, h11, hf⟩ := ob_some hf
  obtain ⟨x9, h10, hf⟩ := ob_some hf
  refine gg_cVV (As := [.int l1, .int (1 : Int32)]) hC hw (X13_putInOrder_M l E D A h10) h11 rfl g_ml_X13_215 hd_X13_putInOrder (Nat.le_of_ble_eq_true rfl) (Nat.le_of_ble_eq_true rfl) hl.1 rfl (Nat.le_of_ble_eq_true rfl) dX13_runsBy_3 (fun H locs cells slots hw => ?_)
  refine lv_iconst (v := 0) hx hb dX13_runsBy_6 (by decide) ?_
  refine lv_istore_n (lv' := [(2, .int (0 : Int32)), (0, .ref l0), (1, .int l1)]) hx hb dX13_runsBy_7 rfl hl (by decide) rfl (fun ls hl => ?_)
  refine lv_iconst (v := 0) hx hb dX13_runsBy_8 (by decide) ?_
  refine lv_istore_n (lv' := [(3, .int (0 : Int32)), (2, .int (0 : Int32)), (0, .ref l0), (1, .int l1)]) hx hb dX13_runsBy_9 rfl hl (by decide) rfl (fun ls hl => ?_)
  exact X13_runsBy_10_W hC hQ (gN E) hf hw (lv_sub hl [2, 1, 0] rfl)

def X13_runsBy_f (E : gE) (l0 : Nat) (l1 : Int32) (σ : gS) : Option (Int32 × gS) := X13_runsBy E l0 l1 σ
set_option maxRecDepth 100000 in
theorem X13_runsBy_M (l : Launch) (E : gE) (D : va_G) (A : Nat → Prop) {l0 : Nat} {l1 : Int32} {σ : gS} {res : (Int32 × gS)} (hf : X13_runsBy_f E l0 l1 σ = some res) : gCI l E D A yX13_runsBy cX13_runsBy 4 3 67 (some FieldType.int) [.ref l0, .int l1] σ res := by
  refine gg_entI (own := RX13) (nm := "runsBy") (ty := FieldType.int) (by decide +kernel) rfl rfl (Nat.le_of_ble_eq_true rfl) rfl ?_
  intro p e R s m args below meth c Q ls hC hw hQ hl
  have hl : lv_has ls 4 [(0, .ref l0), (1, .int l1)] := hl
  exact X13_runsBy_W hC hQ hf hw hl

def X13_runsIfSorted (E : gE) (l0 : Nat) (l1 : Int32) (σ : gS) : Option (Int32 × gS) :=
  ob (gcl σ l0 11) fun _ =>
  ob (X13_isColumn_f E σ l0 l1) fun x1 =>
  ob (gcl σ l0 11) fun _ =>
  ob (X13_lacks_f E l0 x1 σ) fun x4 =>
  if x4.1 = 0 then
    ob (gcl x4.2 l0 11) fun _ =>
    ob (X13_runsBy_f E l0 l1 x4.2) fun x7 =>
    some (x7.1, x7.2)
  else
    some ((0 : Int32), x4.2)
set_option maxHeartbeats 4000000 in
set_option maxRecDepth 100000 in
theorem X13_runsIfSorted_W {σ : gS} {l0 : Nat} {l1 : Int32} {res : (Int32 × gS)} {ls : Array Slot} (hC : gC E D A p R s m args meth c cX13_runsIfSorted 2 RX13 "runsIfSorted" 4 90) (hQ : gQI E D A p l e R s m args below meth c Q cX13_runsIfSorted FieldType.int res) (hf : X13_runsIfSorted E l0 l1 σ = some res) (hw : gW E D A s σ H locs) (hl : lv_has ls 2 [(0, .ref l0), (1, .int l1)]) : W p l e R s m args below meth c H locs cells slots Q (F0 m 0 ls []) := by
  have hC0 := hC
  obtain ⟨hx, hb, hml, hown, hts, -⟩ := hC0
  unfold X13_runsIfSorted at hf
  refine lv_aload_n hx hb dX13_runsIfSorted_0 rfl (lv_at hl 0 rfl) ?_
  refine lv_aload_n hx hb dX13_runsIfSorted_1 rfl (lv_at hl 0 rfl) ?_
  refine lv_iload_n hx hb dX13_runsIfSorted_2 rfl (lv_at hl 1 rfl) ?_
  obtain ⟨_, h3, hf⟩ := ob_some hf
  obtain ⟨x1, h2, hf⟩ := ob_some hf
  refine gg_cVI (As := [.int l1]) hC hw (X13_isColumn_M l E D A h2) h3 rfl g_ml_X13_112 hd_X13_isColumn (Nat.le_of_ble_eq_true rfl) (Nat.le_of_ble_eq_true rfl) hl.1 rfl (Nat.le_of_ble_eq_true rfl) dX13_runsIfSorted_3 (fun H locs cells slots hw => ?_)
  obtain ⟨_, h6, hf⟩ := ob_some hf
  obtain ⟨x4, h5, hf⟩ := ob_some hf
  refine gg_cVI (As := [.int x1]) hC hw (X13_lacks_M l E D A h5) h6 rfl g_ml_X13_88 hd_X13_lacks (Nat.le_of_ble_eq_true rfl) (Nat.le_of_ble_eq_true rfl) hl.1 rfl (Nat.le_of_ble_eq_true rfl) dX13_runsIfSorted_6 (fun H locs cells slots hw => ?_)
  refine lv_if_eq (tgt := 16) hx hb dX13_runsIfSorted_9 (by decide) (fun c10 => ?_) (fun c10 => ?_)
  · replace hf := (if_pos c10).symm.trans hf
    refine lv_aload_n hx hb dX13_runsIfSorted_16 rfl (lv_at hl 0 rfl) ?_
    refine lv_iload_n hx hb dX13_runsIfSorted_17 rfl (lv_at hl 1 rfl) ?_
    obtain ⟨_, h9, hf⟩ := ob_some hf
    obtain ⟨x7, h8, hf⟩ := ob_some hf
    refine gg_cVI (As := [.int l1]) hC hw (X13_runsBy_M l E D A h8) h9 rfl g_ml_X13_222 hd_X13_runsBy (Nat.le_of_ble_eq_true rfl) (Nat.le_of_ble_eq_true rfl) hl.1 rfl (Nat.le_of_ble_eq_true rfl) dX13_runsIfSorted_18 (fun H locs cells slots hw => ?_)
    cases hf
    exact hQ _ _ _ _ _ _ dX13_runsIfSorted_21 rfl hw
  · replace hf := (if_neg c10).symm.trans hf
    refine lv_iconst (v := 0) hx hb dX13_runsIfSorted_12 (by decide) ?_
    refine lv_goto (tgt := 21) hx hb dX13_runsIfSorted_13 (by decide) ?_
    cases hf
    exact hQ _ _ _ _ _ _ dX13_runsIfSorted_21 rfl hw

def X13_runsIfSorted_f (E : gE) (l0 : Nat) (l1 : Int32) (σ : gS) : Option (Int32 × gS) := X13_runsIfSorted E l0 l1 σ
set_option maxRecDepth 100000 in
theorem X13_runsIfSorted_M (l : Launch) (E : gE) (D : va_G) (A : Nat → Prop) {l0 : Nat} {l1 : Int32} {σ : gS} {res : (Int32 × gS)} (hf : X13_runsIfSorted_f E l0 l1 σ = some res) : gCI l E D A yX13_runsIfSorted cX13_runsIfSorted 2 4 90 (some FieldType.int) [.ref l0, .int l1] σ res := by
  refine gg_entI (own := RX13) (nm := "runsIfSorted") (ty := FieldType.int) (by decide +kernel) rfl rfl (Nat.le_of_ble_eq_true rfl) rfl ?_
  intro p e R s m args below meth c Q ls hC hw hQ hl
  have hl : lv_has ls 2 [(0, .ref l0), (1, .int l1)] := hl
  exact X13_runsIfSorted_W hC hQ hf hw hl

def X13_bestSortColumn_37 (E : gE) (r_9 : Nat → Int32 → Int32 → gS → Option (Int32 × gS)) (l0 : Nat) (l2 : Int32) (s0 : Int32) (σ : gS) : Option (Int32 × gS) :=
  r_9 l0 s0 (l2 + 1) σ
set_option maxHeartbeats 4000000 in
set_option maxRecDepth 100000 in
theorem X13_bestSortColumn_37_W {σ : gS} {l0 : Nat} {l2 : Int32} {s0 : Int32} {res : (Int32 × gS)} {ls : Array Slot} (hC : gC E D A p R s m args meth c cX13_bestSortColumn 3 RX13 "bestSortColumn" 4 90) (hQ : gQI E D A p l e R s m args below meth c Q cX13_bestSortColumn FieldType.int res) {r_9 : Nat → Int32 → Int32 → gS → Option (Int32 × gS)} (h_9 : ∀ {l0 : Nat} {l1 : Int32} {l2 : Int32} {σ : gS} {H : Heap} {locs : List Loc} {cells slots : Nat} {ls : Array Slot}, r_9 l0 l1 l2 σ = some res → gW E D A s σ H locs → lv_has ls 3 [(0, .ref l0), (1, .int l1), (2, .int l2)] → W p l e R s m args below meth c H locs cells slots Q (F0 m 9 ls [])) (hf : X13_bestSortColumn_37 E r_9 l0 l2 s0 σ = some res) (hw : gW E D A s σ H locs) (hl : lv_has ls 3 [(0, .ref l0), (2, .int l2)]) : W p l e R s m args below meth c H locs cells slots Q (F0 m 37 ls [.int s0]) := by
  have hC0 := hC
  obtain ⟨hx, hb, hml, hown, hts, -⟩ := hC0
  unfold X13_bestSortColumn_37 at hf
  refine lv_istore_n (lv' := [(1, .int s0), (0, .ref l0), (2, .int l2)]) hx hb dX13_bestSortColumn_37 rfl hl (by decide) rfl (fun ls hl => ?_)
  refine lv_iinc (v := (l2 + 1)) (lv' := [(2, .int (l2 + 1)), (1, .int s0), (0, .ref l0)]) hx hb dX13_bestSortColumn_38 hl (k := 2) rfl rfl (by decide) rfl (fun ls hl => ?_)
  refine lv_goto (tgt := 9) hx hb dX13_bestSortColumn_41 (by decide) ?_
  exact h_9 hf hw (lv_sub hl [2, 1, 0] rfl)

def X13_bestSortColumn_9_s (E : gE) (r_9 : Nat → Int32 → Int32 → gS → Option (Int32 × gS)) (l0 : Nat) (l1 : Int32) (l2 : Int32) (σ : gS) : Option (Int32 × gS) :=
  ob (gfR σ l0 11 8) fun x1 =>
  ob (graI E 0 σ x1 (0 : Int32)) fun x3 =>
  if x3 ≤ l2 then
    some (l1, σ)
  else
    ob (gcl σ l0 11) fun _ =>
    ob (X13_runsBy_f E l0 l2 σ) fun x5 =>
    ob (gcl x5.2 l0 11) fun _ =>
    ob (X13_runsBy_f E l0 l1 x5.2) fun x8 =>
    if x8.1 ≤ x5.1 then
      X13_bestSortColumn_37 E r_9 l0 l2 l1 x8.2
    else
      X13_bestSortColumn_37 E r_9 l0 l2 l2 x8.2
set_option maxHeartbeats 4000000 in
set_option maxRecDepth 100000 in
theorem X13_bestSortColumn_9_s_W {σ : gS} {l0 : Nat} {l1 : Int32} {l2 : Int32} {res : (Int32 × gS)} {ls : Array Slot} (hC : gC E D A p R s m args meth c cX13_bestSortColumn 3 RX13 "bestSortColumn" 4 90) (hQ : gQI E D A p l e R s m args below meth c Q cX13_bestSortColumn FieldType.int res) {r_9 : Nat → Int32 → Int32 → gS → Option (Int32 × gS)} (h_9 : ∀ {l0 : Nat} {l1 : Int32} {l2 : Int32} {σ : gS} {H : Heap} {locs : List Loc} {cells slots : Nat} {ls : Array Slot}, r_9 l0 l1 l2 σ = some res → gW E D A s σ H locs → lv_has ls 3 [(0, .ref l0), (1, .int l1), (2, .int l2)] → W p l e R s m args below meth c H locs cells slots Q (F0 m 9 ls [])) (hf : X13_bestSortColumn_9_s E r_9 l0 l1 l2 σ = some res) (hw : gW E D A s σ H locs) (hl : lv_has ls 3 [(0, .ref l0), (1, .int l1), (2, .int l2)]) : W p l e R s m args below meth c H locs cells slots Q (F0 m 9 ls []) := by
  have hC0 := hC
  obtain ⟨hx, hb, hml, hown, hts, -⟩ := hC0
  unfold X13_bestSortColumn_9_s at hf
  refine lv_iload_n hx hb dX13_bestSortColumn_9 rfl (lv_at hl 2 rfl) ?_
  refine lv_aload_n hx hb dX13_bestSortColumn_10 rfl (lv_at hl 0 rfl) ?_
  obtain ⟨x1, h2, hf⟩ := ob_some hf
  refine rR_fl_X13_35 hC hw h2 dX13_bestSortColumn_11 ?_
  refine lv_iconst (v := 0) hx hb dX13_bestSortColumn_14 (by decide) ?_
  obtain ⟨x3, h4, hf⟩ := ob_some hf
  refine gg_aldI hC hw h4 dX13_bestSortColumn_15 ?_
  refine lv_icmp_ge (tgt := 44) hx hb dX13_bestSortColumn_16 (by decide) (fun c12 => ?_) (fun c12 => ?_)
  · replace hf := (if_pos c12).symm.trans hf
    refine lv_iload_n hx hb dX13_bestSortColumn_44 rfl (lv_at hl 1 rfl) ?_
    cases hf
    exact hQ _ _ _ _ _ _ dX13_bestSortColumn_45 rfl hw
  · replace hf := (if_neg c12).symm.trans hf
    refine lv_aload_n hx hb dX13_bestSortColumn_19 rfl (lv_at hl 0 rfl) ?_
    refine lv_iload_n hx hb dX13_bestSortColumn_20 rfl (lv_at hl 2 rfl) ?_
    obtain ⟨_, h7, hf⟩ := ob_some hf
    obtain ⟨x5, h6, hf⟩ := ob_some hf
    refine gg_cVI (As := [.int l2]) hC hw (X13_runsBy_M l E D A h6) h7 rfl g_ml_X13_222 hd_X13_runsBy (Nat.le_of_ble_eq_true rfl) (Nat.le_of_ble_eq_true rfl) hl.1 rfl (Nat.le_of_ble_eq_true rfl) dX13_bestSortColumn_21 (fun H locs cells slots hw => ?_)
    refine lv_aload_n hx hb dX13_bestSortColumn_24 rfl (lv_at hl 0 rfl) ?_
    refine lv_iload_n hx hb dX13_bestSortColumn_25 rfl (lv_at hl 1 rfl) ?_
    obtain ⟨_, h10, hf⟩ := ob_some hf
    obtain ⟨x8, h9, hf⟩ := ob_some hf
    refine gg_cVI (As := [.int l1]) hC hw (X13_runsBy_M l E D A h9) h10 rfl g_ml_X13_222 hd_X13_runsBy (Nat.le_of_ble_eq_true rfl) (Nat.le_of_ble_eq_true rfl) hl.1 rfl (Nat.le_of_ble_eq_true rfl) dX13_bestSortColumn_26 (fun H locs cells slots hw => ?_)
    refine lv_icmp_ge (tgt := 36) hx hb dX13_bestSortColumn_29 (by decide) (fun c11 => ?_) (fun c11 => ?_)
    · replace hf := (if_pos c11).symm.trans hf
      refine lv_iload_n hx hb dX13_bestSortColumn_36 rfl (lv_at hl 1 rfl) ?_
      exact X13_bestSortColumn_37_W hC hQ h_9 hf hw (lv_sub hl [0, 2] rfl)
    · replace hf := (if_neg c11).symm.trans hf
      refine lv_iload_n hx hb dX13_bestSortColumn_32 rfl (lv_at hl 2 rfl) ?_
      refine lv_goto (tgt := 37) hx hb dX13_bestSortColumn_33 (by decide) ?_
      exact X13_bestSortColumn_37_W hC hQ h_9 hf hw (lv_sub hl [0, 2] rfl)
def X13_bestSortColumn_9 (E : gE) : Nat → Nat → Int32 → Int32 → gS → Option (Int32 × gS)
  | 0 => fun _ _ _ _ => none
  | n + 1 => X13_bestSortColumn_9_s E (X13_bestSortColumn_9 E n)
theorem X13_bestSortColumn_9_W {res : (Int32 × gS)} (hC : gC E D A p R s m args meth c cX13_bestSortColumn 3 RX13 "bestSortColumn" 4 90) (hQ : gQI E D A p l e R s m args below meth c Q cX13_bestSortColumn FieldType.int res) : ∀ (n : Nat), ∀ {l0 : Nat} {l1 : Int32} {l2 : Int32} {σ : gS} {H : Heap} {locs : List Loc} {cells slots : Nat} {ls : Array Slot}, X13_bestSortColumn_9 E n l0 l1 l2 σ = some res → gW E D A s σ H locs → lv_has ls 3 [(0, .ref l0), (1, .int l1), (2, .int l2)] → W p l e R s m args below meth c H locs cells slots Q (F0 m 9 ls []) := by
  intro n
  induction n with
  | zero =>
    intros
    rename_i hf _ _
    exact absurd hf (fun h => by cases (show (none : Option (Int32 × gS)) = some res from h))
  | succ n ih =>
    intros
    rename_i hf hw hl
    exact X13_bestSortColumn_9_s_W hC hQ ih hf hw hl

def X13_bestSortColumn (E : gE) (l0 : Nat) (σ : gS) : Option (Int32 × gS) :=
  ob (gpf E σ l0 11 10 (.int (0 : Int32))) fun σ13 =>
  X13_bestSortColumn_9 E (gN E) l0 (0 : Int32) (1 : Int32) σ13
set_option maxHeartbeats 4000000 in
set_option maxRecDepth 100000 in
theorem X13_bestSortColumn_W {σ : gS} {l0 : Nat} {res : (Int32 × gS)} {ls : Array Slot} (hC : gC E D A p R s m args meth c cX13_bestSortColumn 3 RX13 "bestSortColumn" 4 90) (hQ : gQI E D A p l e R s m args below meth c Q cX13_bestSortColumn FieldType.int res) (hf : X13_bestSortColumn E l0 σ = some res) (hw : gW E D A s σ H locs) (hl : lv_has ls 3 [(0, .ref l0)]) : W p l e R s m args below meth c H locs cells slots Q (F0 m 0 ls []) := by
  have hC0 := hC
  obtain ⟨hx, hb, hml, hown, hts, -⟩ := hC0
  unfold X13_bestSortColumn at hf
  refine lv_aload_n hx hb dX13_bestSortColumn_0 rfl (lv_at hl 0 rfl) ?_
  refine lv_iconst (v := 0) hx hb dX13_bestSortColumn_1 (by decide) ?_
  obtain ⟨σ13, h14, hf⟩ := ob_some hf
  refine p_fl_X13_85 hC hw h14 rfl rfl dX13_bestSortColumn_2 (fun H locs hw => ?_)
  refine lv_iconst (v := 0) hx hb dX13_bestSortColumn_5 (by decide) ?_
  refine lv_istore_n (lv' := [(1, .int (0 : Int32)), (0, .ref l0)]) hx hb dX13_bestSortColumn_6 rfl hl (by decide) rfl (fun ls hl => ?_)
  refine lv_iconst (v := 1) hx hb dX13_bestSortColumn_7 (by decide) ?_
  refine lv_istore_n (lv' := [(2, .int (1 : Int32)), (1, .int (0 : Int32)), (0, .ref l0)]) hx hb dX13_bestSortColumn_8 rfl hl (by decide) rfl (fun ls hl => ?_)
  exact X13_bestSortColumn_9_W hC hQ (gN E) hf hw (lv_sub hl [2, 1, 0] rfl)

def X13_bestSortColumn_f (E : gE) (l0 : Nat) (σ : gS) : Option (Int32 × gS) := X13_bestSortColumn E l0 σ
set_option maxRecDepth 100000 in
theorem X13_bestSortColumn_M (l : Launch) (E : gE) (D : va_G) (A : Nat → Prop) {l0 : Nat} {σ : gS} {res : (Int32 × gS)} (hf : X13_bestSortColumn_f E l0 σ = some res) : gCI l E D A yX13_bestSortColumn cX13_bestSortColumn 3 4 90 (some FieldType.int) [.ref l0] σ res := by
  refine gg_entI (own := RX13) (nm := "bestSortColumn") (ty := FieldType.int) (by decide +kernel) rfl rfl (Nat.le_of_ble_eq_true rfl) rfl ?_
  intro p e R s m args below meth c Q ls hC hw hQ hl
  have hl : lv_has ls 3 [(0, .ref l0)] := hl
  exact X13_bestSortColumn_W hC hQ hf hw hl

def X13_selectsByCodes_2_s (E : gE) (σ : gS) (r_2 : Nat → Int32 → Int32 → Option Int32) (l0 : Nat) (l1 : Int32) (l2 : Int32) : Option Int32 :=
  ob (gfR σ l0 11 8) fun x1 =>
  ob (graI E 0 σ x1 (2 : Int32)) fun x3 =>
  if x3 ≤ l2 then
    some (1 : Int32)
  else
    ob (gcl σ l0 11) fun _ =>
    ob (X13_of_f E σ l0 l2 (0 : Int32)) fun x5 =>
    ob (gcl σ l0 11) fun _ =>
    ob (X13_codeAt_f E σ l0 x5 l1) fun x8 =>
    ob (gcl σ l0 11) fun _ =>
    ob (X13_lower_f E σ l0 l2) fun x11 =>
    ob (gcl σ l0 11) fun _ =>
    ob (X13_upper_f E σ l0 l2) fun x14 =>
    ob (X13_inRange_f E σ x8 x11 (x14 - (1 : Int32))) fun x17 =>
    if x17 = 0 then
      some (0 : Int32)
    else
      r_2 l0 l1 (l2 + 1)
set_option maxHeartbeats 4000000 in
set_option maxRecDepth 100000 in
theorem X13_selectsByCodes_2_s_W {σ : gS} {l0 : Nat} {l1 : Int32} {l2 : Int32} {res : Int32} {ls : Array Slot} (hC : gC E D A p R s m args meth c cX13_selectsByCodes 3 RX13 "selectsByCodes" 4 90) (hQ : gQI E D A p l e R s m args below meth c Q cX13_selectsByCodes FieldType.boolean (res, σ)) {r_2 : Nat → Int32 → Int32 → Option Int32} (h_2 : ∀ {l0 : Nat} {l1 : Int32} {l2 : Int32} {H : Heap} {locs : List Loc} {cells slots : Nat} {ls : Array Slot}, r_2 l0 l1 l2 = some res → gW E D A s σ H locs → lv_has ls 3 [(0, .ref l0), (1, .int l1), (2, .int l2)] → W p l e R s m args below meth c H locs cells slots Q (F0 m 2 ls [])) (hf : X13_selectsByCodes_2_s E σ r_2 l0 l1 l2 = some res) (hw : gW E D A s σ H locs) (hl : lv_has ls 3 [(0, .ref l0), (1, .int l1), (2, .int l2)]) : W p l e R s m args below meth c H locs cells slots Q (F0 m 2 ls []) := by
  have hC0 := hC
  obtain ⟨hx, hb, hml, hown, hts, -⟩ := hC0
  unfold X13_selectsByCodes_2_s at hf
  refine lv_iload_n hx hb dX13_selectsByCodes_2 rfl (lv_at hl 2 rfl) ?_
  refine lv_aload_n hx hb dX13_selectsByCodes_3 rfl (lv_at hl 0 rfl) ?_
  obtain ⟨x1, h2, hf⟩ := ob_some hf
  refine rR_fl_X13_35 hC hw h2 dX13_selectsByCodes_4 ?_
  refine lv_iconst (v := 2) hx hb dX13_selectsByCodes_7 (by decide) ?_
  obtain ⟨x3, h4, hf⟩ := ob_some hf
  refine gg_aldI hC hw h4 dX13_selectsByCodes_8 ?_
  refine lv_icmp_ge (tgt := 49) hx hb dX13_selectsByCodes_9 (by decide) (fun c20 => ?_) (fun c20 => ?_)
  · replace hf := (if_pos c20).symm.trans hf
    refine lv_iconst (v := 1) hx hb dX13_selectsByCodes_49 (by decide) ?_
    cases hf
    exact hQ _ _ _ _ _ _ dX13_selectsByCodes_50 gz1 hw
  · replace hf := (if_neg c20).symm.trans hf
    refine lv_aload_n hx hb dX13_selectsByCodes_12 rfl (lv_at hl 0 rfl) ?_
    refine lv_aload_n hx hb dX13_selectsByCodes_13 rfl (lv_at hl 0 rfl) ?_
    refine lv_iload_n hx hb dX13_selectsByCodes_14 rfl (lv_at hl 2 rfl) ?_
    refine lv_iconst (v := 0) hx hb dX13_selectsByCodes_15 (by decide) ?_
    obtain ⟨_, h7, hf⟩ := ob_some hf
    obtain ⟨x5, h6, hf⟩ := ob_some hf
    refine gg_cVI (As := [.int l2, .int (0 : Int32)]) hC hw (X13_of_M l E D A h6) h7 rfl g_ml_X13_174 hd_X13_of (Nat.le_of_ble_eq_true rfl) (Nat.le_of_ble_eq_true rfl) hl.1 rfl (Nat.le_of_ble_eq_true rfl) dX13_selectsByCodes_16 (fun H locs cells slots hw => ?_)
    refine lv_iload_n hx hb dX13_selectsByCodes_19 rfl (lv_at hl 1 rfl) ?_
    obtain ⟨_, h10, hf⟩ := ob_some hf
    obtain ⟨x8, h9, hf⟩ := ob_some hf
    refine gg_cVI (As := [.int x5, .int l1]) hC hw (X13_codeAt_M l E D A h9) h10 rfl g_ml_X13_133 hd_X13_codeAt (Nat.le_of_ble_eq_true rfl) (Nat.le_of_ble_eq_true rfl) hl.1 rfl (Nat.le_of_ble_eq_true rfl) dX13_selectsByCodes_20 (fun H locs cells slots hw => ?_)
    refine lv_aload_n hx hb dX13_selectsByCodes_23 rfl (lv_at hl 0 rfl) ?_
    refine lv_iload_n hx hb dX13_selectsByCodes_24 rfl (lv_at hl 2 rfl) ?_
    obtain ⟨_, h13, hf⟩ := ob_some hf
    obtain ⟨x11, h12, hf⟩ := ob_some hf
    refine gg_cVI (As := [.int l2]) hC hw (X13_lower_M l E D A h12) h13 rfl g_ml_X13_189 hd_X13_lower (Nat.le_of_ble_eq_true rfl) (Nat.le_of_ble_eq_true rfl) hl.1 rfl (Nat.le_of_ble_eq_true rfl) dX13_selectsByCodes_25 (fun H locs cells slots hw => ?_)
    refine lv_aload_n hx hb dX13_selectsByCodes_28 rfl (lv_at hl 0 rfl) ?_
    refine lv_iload_n hx hb dX13_selectsByCodes_29 rfl (lv_at hl 2 rfl) ?_
    obtain ⟨_, h16, hf⟩ := ob_some hf
    obtain ⟨x14, h15, hf⟩ := ob_some hf
    refine gg_cVI (As := [.int l2]) hC hw (X13_upper_M l E D A h15) h16 rfl g_ml_X13_192 hd_X13_upper (Nat.le_of_ble_eq_true rfl) (Nat.le_of_ble_eq_true rfl) hl.1 rfl (Nat.le_of_ble_eq_true rfl) dX13_selectsByCodes_30 (fun H locs cells slots hw => ?_)
    refine lv_iconst (v := 1) hx hb dX13_selectsByCodes_33 (by decide) ?_
    refine lv_isub hx hb dX13_selectsByCodes_34 ?_
    obtain ⟨x17, h18, hf⟩ := ob_some hf
    refine gg_cSI (As := [.int x8, .int x11, .int (x14 - (1 : Int32))]) hC hw (X13_inRange_M l E D A h18) g_ml_X13_92 hd_X13_inRange.2 (Nat.le_of_ble_eq_true rfl) (Nat.le_of_ble_eq_true rfl) hl.1 rfl (Nat.le_of_ble_eq_true rfl) dX13_selectsByCodes_35 (fun H locs cells slots hw => ?_)
    refine lv_if_ne (tgt := 43) hx hb dX13_selectsByCodes_38 (by decide) (fun c19 => ?_) (fun c19 => ?_)
    · replace hf := (if_neg c19).symm.trans hf
      refine lv_iinc (v := (l2 + 1)) (lv' := [(2, .int (l2 + 1)), (0, .ref l0), (1, .int l1)]) hx hb dX13_selectsByCodes_43 hl (k := 2) rfl rfl (by decide) rfl (fun ls hl => ?_)
      refine lv_goto (tgt := 2) hx hb dX13_selectsByCodes_46 (by decide) ?_
      exact h_2 hf hw (lv_sub hl [1, 2, 0] rfl)
    · replace hf := (if_pos c19).symm.trans hf
      refine lv_iconst (v := 0) hx hb dX13_selectsByCodes_41 (by decide) ?_
      cases hf
      exact hQ _ _ _ _ _ _ dX13_selectsByCodes_42 gz0 hw
def X13_selectsByCodes_2 (E : gE) (σ : gS) : Nat → Nat → Int32 → Int32 → Option Int32
  | 0 => fun _ _ _ => none
  | n + 1 => X13_selectsByCodes_2_s E σ (X13_selectsByCodes_2 E σ n)
theorem X13_selectsByCodes_2_W {σ : gS} {res : Int32} (hC : gC E D A p R s m args meth c cX13_selectsByCodes 3 RX13 "selectsByCodes" 4 90) (hQ : gQI E D A p l e R s m args below meth c Q cX13_selectsByCodes FieldType.boolean (res, σ)) : ∀ (n : Nat), ∀ {l0 : Nat} {l1 : Int32} {l2 : Int32} {H : Heap} {locs : List Loc} {cells slots : Nat} {ls : Array Slot}, X13_selectsByCodes_2 E σ n l0 l1 l2 = some res → gW E D A s σ H locs → lv_has ls 3 [(0, .ref l0), (1, .int l1), (2, .int l2)] → W p l e R s m args below meth c H locs cells slots Q (F0 m 2 ls []) := by
  intro n
  induction n with
  | zero =>
    intros
    rename_i hf _ _
    exact absurd hf (fun h => by cases (show (none : Option Int32) = some res from h))
  | succ n ih =>
    intros
    rename_i hf hw hl
    exact X13_selectsByCodes_2_s_W hC hQ ih hf hw hl

def X13_selectsByCodes (E : gE) (σ : gS) (l0 : Nat) (l1 : Int32) : Option Int32 :=
  X13_selectsByCodes_2 E σ (gN E) l0 l1 (0 : Int32)
set_option maxHeartbeats 4000000 in
set_option maxRecDepth 100000 in
theorem X13_selectsByCodes_W {σ : gS} {l0 : Nat} {l1 : Int32} {res : Int32} {ls : Array Slot} (hC : gC E D A p R s m args meth c cX13_selectsByCodes 3 RX13 "selectsByCodes" 4 90) (hQ : gQI E D A p l e R s m args below meth c Q cX13_selectsByCodes FieldType.boolean (res, σ)) (hf : X13_selectsByCodes E σ l0 l1 = some res) (hw : gW E D A s σ H locs) (hl : lv_has ls 3 [(0, .ref l0), (1, .int l1)]) : W p l e R s m args below meth c H locs cells slots Q (F0 m 0 ls []) := by
  have hC0 := hC
  obtain ⟨hx, hb, hml, hown, hts, -⟩ := hC0
  unfold X13_selectsByCodes at hf
  refine lv_iconst (v := 0) hx hb dX13_selectsByCodes_0 (by decide) ?_
  refine lv_istore_n (lv' := [(2, .int (0 : Int32)), (0, .ref l0), (1, .int l1)]) hx hb dX13_selectsByCodes_1 rfl hl (by decide) rfl (fun ls hl => ?_)
  exact X13_selectsByCodes_2_W hC hQ (gN E) hf hw (lv_sub hl [1, 2, 0] rfl)

def X13_selectsByCodes_f (E : gE) (σ : gS) (l0 : Nat) (l1 : Int32) : Option Int32 := X13_selectsByCodes E σ l0 l1
set_option maxRecDepth 100000 in
theorem X13_selectsByCodes_M (l : Launch) (E : gE) (D : va_G) (A : Nat → Prop) {l0 : Nat} {l1 : Int32} {σ : gS} {res : Int32} (hf : X13_selectsByCodes_f E σ l0 l1 = some res) : gCI l E D A yX13_selectsByCodes cX13_selectsByCodes 3 4 90 (some FieldType.boolean) [.ref l0, .int l1] σ (res, σ) := by
  refine gg_entI (own := RX13) (nm := "selectsByCodes") (ty := FieldType.boolean) (by decide +kernel) rfl rfl (Nat.le_of_ble_eq_true rfl) rfl ?_
  intro p e R s m args below meth c Q ls hC hw hQ hl
  have hl : lv_has ls 3 [(0, .ref l0), (1, .int l1)] := hl
  exact X13_selectsByCodes_W hC hQ hf hw hl

end MM3
