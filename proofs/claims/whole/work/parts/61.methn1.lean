/-! decompiled: L_outputByte, L_value, L_code, L_dictionarySize, L_dictionaryValue, L_findCode, L_frequency, L_commonestCode, L_bitWidth, L_wordCount, L_packedWord, L_runCount, L_longestRun, L_isSorted, L_conditionColumn, L_conditionValue, L_conditionDirection, L_lowerCode, L_upperCode, L_matches, L_isSelected, L_rejectedBy, L_bitWidthWith, L_restoreSnapshot, L_staleCount, L_sumSelected, L_smallestSelected, L_greatestSelected, L_distinctSelected, L_meanSelected, L_bitWidthCompacted, L_runsIfSorted, L_removeRow, L_setValue, L_sort, L_removeCondition, L_compact, L_writeRow, L_undo, L_addLess, L_addEqual -/
section MN1
variable {p : Program} {l : Launch} {e : Env} {R : Room} {s : State} {m : MethodId} {args : Array Value} {below : List Frame} {meth : Method} {c : Code} {H : Heap} {locs : List Loc} {cells slots : Nat} {Q : State → Prop} {E : gE} {D : va_G} {A : Nat → Prop}
def L_outputByte (E : gE) (l0 : Nat) (l1 : Int32) (l2 : Nat) (σ : gS) : Option (Int32 × gS) :=
  ob (gcl σ l0 10) fun _ =>
  ob (X12_outputByte_f E l0 l1 σ) fun x1 =>
  gtry x1 (fun k9 σ9 =>
    if k9 = 0 then
      some ((1 : Int32), σ9)
    else
    none) (fun x5 σ4 =>
    ob (gwaJ E σ4 l2 (0 : Int32) x5.toInt64) fun σ6 =>
    some ((0 : Int32), σ6))
set_option maxHeartbeats 4000000 in
set_option maxRecDepth 100000 in
theorem L_outputByte_W {σ : gS} {l0 : Nat} {l1 : Int32} {l2 : Nat} {res : (Int32 × gS)} {ls : Array Slot} (hC : gC E D A p R s m args meth c cL_outputByte 4 RL "outputByte" 7 111) (hQ : gQI E D A p l e R s m args below meth c Q cL_outputByte FieldType.int res) (hTab : c.exceptionTable.toList = tableOf [((0 : Nat), (9 : Nat), (12 : Nat), (19 : Nat))]) (hst : l.stackTraces = false) (hf : L_outputByte E l0 l1 l2 σ = some res) (hw : gW E D A s σ H locs) (hl : lv_has ls 4 [(0, .ref l0), (1, .int l1), (2, .ref l2)]) : W p l e R s m args below meth c H locs cells slots Q (F0 m 0 ls []) := by
  have hC0 := hC
  obtain ⟨hx, hb, hml, hown, hts, -⟩ := hC0
  unfold L_outputByte at hf
  refine lv_aload_n hx hb dL_outputByte_0 rfl (lv_at hl 2 rfl) ?_
  refine lv_iconst (v := 0) hx hb dL_outputByte_1 (by decide) ?_
  refine lv_aload_n hx hb dL_outputByte_2 rfl (lv_at hl 0 rfl) ?_
  refine lv_iload_n hx hb dL_outputByte_3 rfl (lv_at hl 1 rfl) ?_
  obtain ⟨_, h3, hf⟩ := ob_some hf
  obtain ⟨x1, h2, hf⟩ := ob_some hf
  refine gg_yVI (As := [.int l1]) hC hw (X12_outputByte_M l hst E D A h2) h3 rfl g_ml_L_149 hd_X12_outputByte (Nat.le_of_ble_eq_true rfl) (Nat.le_of_ble_eq_true rfl) hl.1 rfl (Nat.le_of_ble_eq_true rfl) dL_outputByte_4 (fun k9 σ9 he => ?_) (fun x5 σ4 he H locs cells slots hw => ?_)
  · subst he
    replace hf := gtry_inl.symm.trans hf
    by_cases c8 : k9 = 0
    · replace hf := (if_pos c8).symm.trans hf
      subst c8
      intro H locs cells slots q9 ce hw hce hv hcl
      refine gg_catch (k := 0) hC hTab [] (⟨0, 9, 12, 19⟩ : ExceptionTableEntry) [] rfl (fun z hz => nomatch hz) (by decide) (by decide) cl_L_19 (by decide) hce hv hcl ?_
      refine lv_astore_n (lv' := [(3, .ref q9), (0, .ref l0), (1, .int l1), (2, .ref l2)]) hx hb dL_outputByte_12 rfl hl (by decide) rfl (fun ls hl => ?_)
      refine lv_iconst (v := 1) hx hb dL_outputByte_13 (by decide) ?_
      cases hf
      exact hQ _ _ _ _ _ _ dL_outputByte_14 rfl hw
    · replace hf := (if_neg c8).symm.trans hf
      cases hf
  · subst he
    replace hf := gtry_inr.symm.trans hf
    refine lv_i2l (v := x5.toInt64) hx hb dL_outputByte_7 rfl ?_
    obtain ⟨σ6, h7, hf⟩ := ob_some hf
    refine gg_astJ hC hw h7 dL_outputByte_8 (fun H locs hw => ?_)
    refine lv_goto (tgt := 15) hx hb dL_outputByte_9 (by decide) ?_
    refine lv_iconst (v := 0) hx hb dL_outputByte_15 (by decide) ?_
    cases hf
    exact hQ _ _ _ _ _ _ dL_outputByte_16 rfl hw

def L_outputByte_f (E : gE) (l0 : Nat) (l1 : Int32) (l2 : Nat) (σ : gS) : Option (Int32 × gS) := L_outputByte E l0 l1 l2 σ
set_option maxRecDepth 100000 in
theorem L_outputByte_M (l : Launch) (hst : l.stackTraces = false) (E : gE) (D : va_G) (A : Nat → Prop) {l0 : Nat} {l1 : Int32} {l2 : Nat} {σ : gS} {res : (Int32 × gS)} (hf : L_outputByte_f E l0 l1 l2 σ = some res) : gYI l E D A yL_outputByte (Cond.codeWith yL_outputByte cL_outputByte 4 (some FieldType.int) [((0 : Nat), (9 : Nat), (12 : Nat), (19 : Nat))]) 7 111 [.ref l0, .int l1, .ref l2] σ (.inr res.1, res.2) := by
  refine gg_entHI (own := RL) (nm := "outputByte") (ty := FieldType.int) (by decide +kernel) rfl rfl (Nat.le_of_ble_eq_true rfl) rfl ?_
  intro p e R s m args below meth c Q ls hC hw hQ hTab hl
  replace hQ := hQ _ _ rfl
  have hl : lv_has ls 4 [(0, .ref l0), (1, .int l1), (2, .ref l2)] := hl
  exact L_outputByte_W hC hQ hTab hst hf hw hl

def L_value (E : gE) (l0 : Nat) (l1 : Int32) (l2 : Int32) (l3 : Nat) (σ : gS) : Option (Int32 × gS) :=
  ob (gcl σ l0 10) fun _ =>
  ob (X12_value_f E l0 l1 l2 σ) fun x1 =>
  gtry x1 (fun k9 σ9 =>
    if k9 = 0 then
      some ((1 : Int32), σ9)
    else
    none) (fun x5 σ4 =>
    ob (gwaJ E σ4 l3 (0 : Int32) x5.toInt64) fun σ6 =>
    some ((0 : Int32), σ6))
set_option maxHeartbeats 4000000 in
set_option maxRecDepth 100000 in
theorem L_value_W {σ : gS} {l0 : Nat} {l1 : Int32} {l2 : Int32} {l3 : Nat} {res : (Int32 × gS)} {ls : Array Slot} (hC : gC E D A p R s m args meth c cL_value 5 RL "value" 8 133) (hQ : gQI E D A p l e R s m args below meth c Q cL_value FieldType.int res) (hTab : c.exceptionTable.toList = tableOf [((0 : Nat), (10 : Nat), (13 : Nat), (19 : Nat))]) (hst : l.stackTraces = false) (hf : L_value E l0 l1 l2 l3 σ = some res) (hw : gW E D A s σ H locs) (hl : lv_has ls 5 [(0, .ref l0), (1, .int l1), (2, .int l2), (3, .ref l3)]) : W p l e R s m args below meth c H locs cells slots Q (F0 m 0 ls []) := by
  have hC0 := hC
  obtain ⟨hx, hb, hml, hown, hts, -⟩ := hC0
  unfold L_value at hf
  refine lv_aload_n hx hb dL_value_0 rfl (lv_at hl 3 rfl) ?_
  refine lv_iconst (v := 0) hx hb dL_value_1 (by decide) ?_
  refine lv_aload_n hx hb dL_value_2 rfl (lv_at hl 0 rfl) ?_
  refine lv_iload_n hx hb dL_value_3 rfl (lv_at hl 1 rfl) ?_
  refine lv_iload_n hx hb dL_value_4 rfl (lv_at hl 2 rfl) ?_
  obtain ⟨_, h3, hf⟩ := ob_some hf
  obtain ⟨x1, h2, hf⟩ := ob_some hf
  refine gg_yVI (As := [.int l1, .int l2]) hC hw (X12_value_M l hst E D A h2) h3 rfl g_ml_L_15 hd_X12_value (Nat.le_of_ble_eq_true rfl) (Nat.le_of_ble_eq_true rfl) hl.1 rfl (Nat.le_of_ble_eq_true rfl) dL_value_5 (fun k9 σ9 he => ?_) (fun x5 σ4 he H locs cells slots hw => ?_)
  · subst he
    replace hf := gtry_inl.symm.trans hf
    by_cases c8 : k9 = 0
    · replace hf := (if_pos c8).symm.trans hf
      subst c8
      intro H locs cells slots q9 ce hw hce hv hcl
      refine gg_catch (k := 0) hC hTab [] (⟨0, 10, 13, 19⟩ : ExceptionTableEntry) [] rfl (fun z hz => nomatch hz) (by decide) (by decide) cl_L_19 (by decide) hce hv hcl ?_
      refine lv_astore (lv' := [(4, .ref q9), (0, .ref l0), (1, .int l1), (2, .int l2), (3, .ref l3)]) hx hb dL_value_13 hl (by decide) rfl (fun ls hl => ?_)
      refine lv_iconst (v := 1) hx hb dL_value_15 (by decide) ?_
      cases hf
      exact hQ _ _ _ _ _ _ dL_value_16 rfl hw
    · replace hf := (if_neg c8).symm.trans hf
      cases hf
  · subst he
    replace hf := gtry_inr.symm.trans hf
    refine lv_i2l (v := x5.toInt64) hx hb dL_value_8 rfl ?_
    obtain ⟨σ6, h7, hf⟩ := ob_some hf
    refine gg_astJ hC hw h7 dL_value_9 (fun H locs hw => ?_)
    refine lv_goto (tgt := 17) hx hb dL_value_10 (by decide) ?_
    refine lv_iconst (v := 0) hx hb dL_value_17 (by decide) ?_
    cases hf
    exact hQ _ _ _ _ _ _ dL_value_18 rfl hw

def L_value_f (E : gE) (l0 : Nat) (l1 : Int32) (l2 : Int32) (l3 : Nat) (σ : gS) : Option (Int32 × gS) := L_value E l0 l1 l2 l3 σ
set_option maxRecDepth 100000 in
theorem L_value_M (l : Launch) (hst : l.stackTraces = false) (E : gE) (D : va_G) (A : Nat → Prop) {l0 : Nat} {l1 : Int32} {l2 : Int32} {l3 : Nat} {σ : gS} {res : (Int32 × gS)} (hf : L_value_f E l0 l1 l2 l3 σ = some res) : gYI l E D A yL_value (Cond.codeWith yL_value cL_value 5 (some FieldType.int) [((0 : Nat), (10 : Nat), (13 : Nat), (19 : Nat))]) 8 133 [.ref l0, .int l1, .int l2, .ref l3] σ (.inr res.1, res.2) := by
  refine gg_entHI (own := RL) (nm := "value") (ty := FieldType.int) (by decide +kernel) rfl rfl (Nat.le_of_ble_eq_true rfl) rfl ?_
  intro p e R s m args below meth c Q ls hC hw hQ hTab hl
  replace hQ := hQ _ _ rfl
  have hl : lv_has ls 5 [(0, .ref l0), (1, .int l1), (2, .int l2), (3, .ref l3)] := hl
  exact L_value_W hC hQ hTab hst hf hw hl

def L_code (E : gE) (l0 : Nat) (l1 : Int32) (l2 : Int32) (l3 : Nat) (σ : gS) : Option (Int32 × gS) :=
  ob (gcl σ l0 10) fun _ =>
  ob (X12_code_f E l0 l1 l2 σ) fun x1 =>
  gtry x1 (fun k9 σ9 =>
    if k9 = 0 then
      some ((1 : Int32), σ9)
    else
    none) (fun x5 σ4 =>
    ob (gwaJ E σ4 l3 (0 : Int32) x5.toInt64) fun σ6 =>
    some ((0 : Int32), σ6))
set_option maxHeartbeats 4000000 in
set_option maxRecDepth 100000 in
theorem L_code_W {σ : gS} {l0 : Nat} {l1 : Int32} {l2 : Int32} {l3 : Nat} {res : (Int32 × gS)} {ls : Array Slot} (hC : gC E D A p R s m args meth c cL_code 5 RL "code" 8 133) (hQ : gQI E D A p l e R s m args below meth c Q cL_code FieldType.int res) (hTab : c.exceptionTable.toList = tableOf [((0 : Nat), (10 : Nat), (13 : Nat), (19 : Nat))]) (hst : l.stackTraces = false) (hf : L_code E l0 l1 l2 l3 σ = some res) (hw : gW E D A s σ H locs) (hl : lv_has ls 5 [(0, .ref l0), (1, .int l1), (2, .int l2), (3, .ref l3)]) : W p l e R s m args below meth c H locs cells slots Q (F0 m 0 ls []) := by
  have hC0 := hC
  obtain ⟨hx, hb, hml, hown, hts, -⟩ := hC0
  unfold L_code at hf
  refine lv_aload_n hx hb dL_code_0 rfl (lv_at hl 3 rfl) ?_
  refine lv_iconst (v := 0) hx hb dL_code_1 (by decide) ?_
  refine lv_aload_n hx hb dL_code_2 rfl (lv_at hl 0 rfl) ?_
  refine lv_iload_n hx hb dL_code_3 rfl (lv_at hl 1 rfl) ?_
  refine lv_iload_n hx hb dL_code_4 rfl (lv_at hl 2 rfl) ?_
  obtain ⟨_, h3, hf⟩ := ob_some hf
  obtain ⟨x1, h2, hf⟩ := ob_some hf
  refine gg_yVI (As := [.int l1, .int l2]) hC hw (X12_code_M l hst E D A h2) h3 rfl g_ml_L_21 hd_X12_code (Nat.le_of_ble_eq_true rfl) (Nat.le_of_ble_eq_true rfl) hl.1 rfl (Nat.le_of_ble_eq_true rfl) dL_code_5 (fun k9 σ9 he => ?_) (fun x5 σ4 he H locs cells slots hw => ?_)
  · subst he
    replace hf := gtry_inl.symm.trans hf
    by_cases c8 : k9 = 0
    · replace hf := (if_pos c8).symm.trans hf
      subst c8
      intro H locs cells slots q9 ce hw hce hv hcl
      refine gg_catch (k := 0) hC hTab [] (⟨0, 10, 13, 19⟩ : ExceptionTableEntry) [] rfl (fun z hz => nomatch hz) (by decide) (by decide) cl_L_19 (by decide) hce hv hcl ?_
      refine lv_astore (lv' := [(4, .ref q9), (0, .ref l0), (1, .int l1), (2, .int l2), (3, .ref l3)]) hx hb dL_code_13 hl (by decide) rfl (fun ls hl => ?_)
      refine lv_iconst (v := 1) hx hb dL_code_15 (by decide) ?_
      cases hf
      exact hQ _ _ _ _ _ _ dL_code_16 rfl hw
    · replace hf := (if_neg c8).symm.trans hf
      cases hf
  · subst he
    replace hf := gtry_inr.symm.trans hf
    refine lv_i2l (v := x5.toInt64) hx hb dL_code_8 rfl ?_
    obtain ⟨σ6, h7, hf⟩ := ob_some hf
    refine gg_astJ hC hw h7 dL_code_9 (fun H locs hw => ?_)
    refine lv_goto (tgt := 17) hx hb dL_code_10 (by decide) ?_
    refine lv_iconst (v := 0) hx hb dL_code_17 (by decide) ?_
    cases hf
    exact hQ _ _ _ _ _ _ dL_code_18 rfl hw

def L_code_f (E : gE) (l0 : Nat) (l1 : Int32) (l2 : Int32) (l3 : Nat) (σ : gS) : Option (Int32 × gS) := L_code E l0 l1 l2 l3 σ
set_option maxRecDepth 100000 in
theorem L_code_M (l : Launch) (hst : l.stackTraces = false) (E : gE) (D : va_G) (A : Nat → Prop) {l0 : Nat} {l1 : Int32} {l2 : Int32} {l3 : Nat} {σ : gS} {res : (Int32 × gS)} (hf : L_code_f E l0 l1 l2 l3 σ = some res) : gYI l E D A yL_code (Cond.codeWith yL_code cL_code 5 (some FieldType.int) [((0 : Nat), (10 : Nat), (13 : Nat), (19 : Nat))]) 8 133 [.ref l0, .int l1, .int l2, .ref l3] σ (.inr res.1, res.2) := by
  refine gg_entHI (own := RL) (nm := "code") (ty := FieldType.int) (by decide +kernel) rfl rfl (Nat.le_of_ble_eq_true rfl) rfl ?_
  intro p e R s m args below meth c Q ls hC hw hQ hTab hl
  replace hQ := hQ _ _ rfl
  have hl : lv_has ls 5 [(0, .ref l0), (1, .int l1), (2, .int l2), (3, .ref l3)] := hl
  exact L_code_W hC hQ hTab hst hf hw hl

def L_dictionarySize (E : gE) (l0 : Nat) (l1 : Int32) (l2 : Nat) (σ : gS) : Option (Int32 × gS) :=
  ob (gcl σ l0 10) fun _ =>
  ob (X12_dictionarySize_f E l0 l1 σ) fun x1 =>
  gtry x1 (fun k9 σ9 =>
    if k9 = 0 then
      some ((1 : Int32), σ9)
    else
    none) (fun x5 σ4 =>
    ob (gwaJ E σ4 l2 (0 : Int32) x5.toInt64) fun σ6 =>
    some ((0 : Int32), σ6))
set_option maxHeartbeats 4000000 in
set_option maxRecDepth 100000 in
theorem L_dictionarySize_W {σ : gS} {l0 : Nat} {l1 : Int32} {l2 : Nat} {res : (Int32 × gS)} {ls : Array Slot} (hC : gC E D A p R s m args meth c cL_dictionarySize 4 RL "dictionarySize" 8 132) (hQ : gQI E D A p l e R s m args below meth c Q cL_dictionarySize FieldType.int res) (hTab : c.exceptionTable.toList = tableOf [((0 : Nat), (9 : Nat), (12 : Nat), (19 : Nat))]) (hst : l.stackTraces = false) (hf : L_dictionarySize E l0 l1 l2 σ = some res) (hw : gW E D A s σ H locs) (hl : lv_has ls 4 [(0, .ref l0), (1, .int l1), (2, .ref l2)]) : W p l e R s m args below meth c H locs cells slots Q (F0 m 0 ls []) := by
  have hC0 := hC
  obtain ⟨hx, hb, hml, hown, hts, -⟩ := hC0
  unfold L_dictionarySize at hf
  refine lv_aload_n hx hb dL_dictionarySize_0 rfl (lv_at hl 2 rfl) ?_
  refine lv_iconst (v := 0) hx hb dL_dictionarySize_1 (by decide) ?_
  refine lv_aload_n hx hb dL_dictionarySize_2 rfl (lv_at hl 0 rfl) ?_
  refine lv_iload_n hx hb dL_dictionarySize_3 rfl (lv_at hl 1 rfl) ?_
  obtain ⟨_, h3, hf⟩ := ob_some hf
  obtain ⟨x1, h2, hf⟩ := ob_some hf
  refine gg_yVI (As := [.int l1]) hC hw (X12_dictionarySize_M l hst E D A h2) h3 rfl g_ml_L_24 hd_X12_dictionarySize (Nat.le_of_ble_eq_true rfl) (Nat.le_of_ble_eq_true rfl) hl.1 rfl (Nat.le_of_ble_eq_true rfl) dL_dictionarySize_4 (fun k9 σ9 he => ?_) (fun x5 σ4 he H locs cells slots hw => ?_)
  · subst he
    replace hf := gtry_inl.symm.trans hf
    by_cases c8 : k9 = 0
    · replace hf := (if_pos c8).symm.trans hf
      subst c8
      intro H locs cells slots q9 ce hw hce hv hcl
      refine gg_catch (k := 0) hC hTab [] (⟨0, 9, 12, 19⟩ : ExceptionTableEntry) [] rfl (fun z hz => nomatch hz) (by decide) (by decide) cl_L_19 (by decide) hce hv hcl ?_
      refine lv_astore_n (lv' := [(3, .ref q9), (0, .ref l0), (1, .int l1), (2, .ref l2)]) hx hb dL_dictionarySize_12 rfl hl (by decide) rfl (fun ls hl => ?_)
      refine lv_iconst (v := 1) hx hb dL_dictionarySize_13 (by decide) ?_
      cases hf
      exact hQ _ _ _ _ _ _ dL_dictionarySize_14 rfl hw
    · replace hf := (if_neg c8).symm.trans hf
      cases hf
  · subst he
    replace hf := gtry_inr.symm.trans hf
    refine lv_i2l (v := x5.toInt64) hx hb dL_dictionarySize_7 rfl ?_
    obtain ⟨σ6, h7, hf⟩ := ob_some hf
    refine gg_astJ hC hw h7 dL_dictionarySize_8 (fun H locs hw => ?_)
    refine lv_goto (tgt := 15) hx hb dL_dictionarySize_9 (by decide) ?_
    refine lv_iconst (v := 0) hx hb dL_dictionarySize_15 (by decide) ?_
    cases hf
    exact hQ _ _ _ _ _ _ dL_dictionarySize_16 rfl hw

def L_dictionarySize_f (E : gE) (l0 : Nat) (l1 : Int32) (l2 : Nat) (σ : gS) : Option (Int32 × gS) := L_dictionarySize E l0 l1 l2 σ
set_option maxRecDepth 100000 in
theorem L_dictionarySize_M (l : Launch) (hst : l.stackTraces = false) (E : gE) (D : va_G) (A : Nat → Prop) {l0 : Nat} {l1 : Int32} {l2 : Nat} {σ : gS} {res : (Int32 × gS)} (hf : L_dictionarySize_f E l0 l1 l2 σ = some res) : gYI l E D A yL_dictionarySize (Cond.codeWith yL_dictionarySize cL_dictionarySize 4 (some FieldType.int) [((0 : Nat), (9 : Nat), (12 : Nat), (19 : Nat))]) 8 132 [.ref l0, .int l1, .ref l2] σ (.inr res.1, res.2) := by
  refine gg_entHI (own := RL) (nm := "dictionarySize") (ty := FieldType.int) (by decide +kernel) rfl rfl (Nat.le_of_ble_eq_true rfl) rfl ?_
  intro p e R s m args below meth c Q ls hC hw hQ hTab hl
  replace hQ := hQ _ _ rfl
  have hl : lv_has ls 4 [(0, .ref l0), (1, .int l1), (2, .ref l2)] := hl
  exact L_dictionarySize_W hC hQ hTab hst hf hw hl

def L_dictionaryValue (E : gE) (l0 : Nat) (l1 : Int32) (l2 : Int32) (l3 : Nat) (σ : gS) : Option (Int32 × gS) :=
  ob (gcl σ l0 10) fun _ =>
  ob (X12_dictionaryValue_f E l0 l1 l2 σ) fun x1 =>
  gtry x1 (fun k9 σ9 =>
    if k9 = 0 then
      some ((1 : Int32), σ9)
    else
    none) (fun x5 σ4 =>
    ob (gwaJ E σ4 l3 (0 : Int32) x5.toInt64) fun σ6 =>
    some ((0 : Int32), σ6))
set_option maxHeartbeats 4000000 in
set_option maxRecDepth 100000 in
theorem L_dictionaryValue_W {σ : gS} {l0 : Nat} {l1 : Int32} {l2 : Int32} {l3 : Nat} {res : (Int32 × gS)} {ls : Array Slot} (hC : gC E D A p R s m args meth c cL_dictionaryValue 5 RL "dictionaryValue" 8 134) (hQ : gQI E D A p l e R s m args below meth c Q cL_dictionaryValue FieldType.int res) (hTab : c.exceptionTable.toList = tableOf [((0 : Nat), (10 : Nat), (13 : Nat), (19 : Nat))]) (hst : l.stackTraces = false) (hf : L_dictionaryValue E l0 l1 l2 l3 σ = some res) (hw : gW E D A s σ H locs) (hl : lv_has ls 5 [(0, .ref l0), (1, .int l1), (2, .int l2), (3, .ref l3)]) : W p l e R s m args below meth c H locs cells slots Q (F0 m 0 ls []) := by
  have hC0 := hC
  obtain ⟨hx, hb, hml, hown, hts, -⟩ := hC0
  unfold L_dictionaryValue at hf
  refine lv_aload_n hx hb dL_dictionaryValue_0 rfl (lv_at hl 3 rfl) ?_
  refine lv_iconst (v := 0) hx hb dL_dictionaryValue_1 (by decide) ?_
  refine lv_aload_n hx hb dL_dictionaryValue_2 rfl (lv_at hl 0 rfl) ?_
  refine lv_iload_n hx hb dL_dictionaryValue_3 rfl (lv_at hl 1 rfl) ?_
  refine lv_iload_n hx hb dL_dictionaryValue_4 rfl (lv_at hl 2 rfl) ?_
  obtain ⟨_, h3, hf⟩ := ob_some hf
  obtain ⟨x1, h2, hf⟩ := ob_some hf
  refine gg_yVI (As := [.int l1, .int l2]) hC hw (X12_dictionaryValue_M l hst E D A h2) h3 rfl g_ml_L_27 hd_X12_dictionaryValue (Nat.le_of_ble_eq_true rfl) (Nat.le_of_ble_eq_true rfl) hl.1 rfl (Nat.le_of_ble_eq_true rfl) dL_dictionaryValue_5 (fun k9 σ9 he => ?_) (fun x5 σ4 he H locs cells slots hw => ?_)
  · subst he
    replace hf := gtry_inl.symm.trans hf
    by_cases c8 : k9 = 0
    · replace hf := (if_pos c8).symm.trans hf
      subst c8
      intro H locs cells slots q9 ce hw hce hv hcl
      refine gg_catch (k := 0) hC hTab [] (⟨0, 10, 13, 19⟩ : ExceptionTableEntry) [] rfl (fun z hz => nomatch hz) (by decide) (by decide) cl_L_19 (by decide) hce hv hcl ?_
      refine lv_astore (lv' := [(4, .ref q9), (0, .ref l0), (1, .int l1), (2, .int l2), (3, .ref l3)]) hx hb dL_dictionaryValue_13 hl (by decide) rfl (fun ls hl => ?_)
      refine lv_iconst (v := 1) hx hb dL_dictionaryValue_15 (by decide) ?_
      cases hf
      exact hQ _ _ _ _ _ _ dL_dictionaryValue_16 rfl hw
    · replace hf := (if_neg c8).symm.trans hf
      cases hf
  · subst he
    replace hf := gtry_inr.symm.trans hf
    refine lv_i2l (v := x5.toInt64) hx hb dL_dictionaryValue_8 rfl ?_
    obtain ⟨σ6, h7, hf⟩ := ob_some hf
    refine gg_astJ hC hw h7 dL_dictionaryValue_9 (fun H locs hw => ?_)
    refine lv_goto (tgt := 17) hx hb dL_dictionaryValue_10 (by decide) ?_
    refine lv_iconst (v := 0) hx hb dL_dictionaryValue_17 (by decide) ?_
    cases hf
    exact hQ _ _ _ _ _ _ dL_dictionaryValue_18 rfl hw

def L_dictionaryValue_f (E : gE) (l0 : Nat) (l1 : Int32) (l2 : Int32) (l3 : Nat) (σ : gS) : Option (Int32 × gS) := L_dictionaryValue E l0 l1 l2 l3 σ
set_option maxRecDepth 100000 in
theorem L_dictionaryValue_M (l : Launch) (hst : l.stackTraces = false) (E : gE) (D : va_G) (A : Nat → Prop) {l0 : Nat} {l1 : Int32} {l2 : Int32} {l3 : Nat} {σ : gS} {res : (Int32 × gS)} (hf : L_dictionaryValue_f E l0 l1 l2 l3 σ = some res) : gYI l E D A yL_dictionaryValue (Cond.codeWith yL_dictionaryValue cL_dictionaryValue 5 (some FieldType.int) [((0 : Nat), (10 : Nat), (13 : Nat), (19 : Nat))]) 8 134 [.ref l0, .int l1, .int l2, .ref l3] σ (.inr res.1, res.2) := by
  refine gg_entHI (own := RL) (nm := "dictionaryValue") (ty := FieldType.int) (by decide +kernel) rfl rfl (Nat.le_of_ble_eq_true rfl) rfl ?_
  intro p e R s m args below meth c Q ls hC hw hQ hTab hl
  replace hQ := hQ _ _ rfl
  have hl : lv_has ls 5 [(0, .ref l0), (1, .int l1), (2, .int l2), (3, .ref l3)] := hl
  exact L_dictionaryValue_W hC hQ hTab hst hf hw hl

def L_findCode (E : gE) (l0 : Nat) (l1 : Int32) (l2 : Int32) (l3 : Nat) (σ : gS) : Option (Int32 × gS) :=
  ob (gcl σ l0 10) fun _ =>
  ob (X12_findCode_f E l0 l1 l2 σ) fun x1 =>
  gtry x1 (fun k9 σ9 =>
    if k9 = 0 then
      some ((1 : Int32), σ9)
    else
    none) (fun x5 σ4 =>
    ob (gwaJ E σ4 l3 (0 : Int32) x5.toInt64) fun σ6 =>
    some ((0 : Int32), σ6))
set_option maxHeartbeats 4000000 in
set_option maxRecDepth 100000 in
theorem L_findCode_W {σ : gS} {l0 : Nat} {l1 : Int32} {l2 : Int32} {l3 : Nat} {res : (Int32 × gS)} {ls : Array Slot} (hC : gC E D A p R s m args meth c cL_findCode 5 RL "findCode" 8 133) (hQ : gQI E D A p l e R s m args below meth c Q cL_findCode FieldType.int res) (hTab : c.exceptionTable.toList = tableOf [((0 : Nat), (10 : Nat), (13 : Nat), (19 : Nat))]) (hst : l.stackTraces = false) (hf : L_findCode E l0 l1 l2 l3 σ = some res) (hw : gW E D A s σ H locs) (hl : lv_has ls 5 [(0, .ref l0), (1, .int l1), (2, .int l2), (3, .ref l3)]) : W p l e R s m args below meth c H locs cells slots Q (F0 m 0 ls []) := by
  have hC0 := hC
  obtain ⟨hx, hb, hml, hown, hts, -⟩ := hC0
  unfold L_findCode at hf
  refine lv_aload_n hx hb dL_findCode_0 rfl (lv_at hl 3 rfl) ?_
  refine lv_iconst (v := 0) hx hb dL_findCode_1 (by decide) ?_
  refine lv_aload_n hx hb dL_findCode_2 rfl (lv_at hl 0 rfl) ?_
  refine lv_iload_n hx hb dL_findCode_3 rfl (lv_at hl 1 rfl) ?_
  refine lv_iload_n hx hb dL_findCode_4 rfl (lv_at hl 2 rfl) ?_
  obtain ⟨_, h3, hf⟩ := ob_some hf
  obtain ⟨x1, h2, hf⟩ := ob_some hf
  refine gg_yVI (As := [.int l1, .int l2]) hC hw (X12_findCode_M l hst E D A h2) h3 rfl g_ml_L_30 hd_X12_findCode (Nat.le_of_ble_eq_true rfl) (Nat.le_of_ble_eq_true rfl) hl.1 rfl (Nat.le_of_ble_eq_true rfl) dL_findCode_5 (fun k9 σ9 he => ?_) (fun x5 σ4 he H locs cells slots hw => ?_)
  · subst he
    replace hf := gtry_inl.symm.trans hf
    by_cases c8 : k9 = 0
    · replace hf := (if_pos c8).symm.trans hf
      subst c8
      intro H locs cells slots q9 ce hw hce hv hcl
      refine gg_catch (k := 0) hC hTab [] (⟨0, 10, 13, 19⟩ : ExceptionTableEntry) [] rfl (fun z hz => nomatch hz) (by decide) (by decide) cl_L_19 (by decide) hce hv hcl ?_
      refine lv_astore (lv' := [(4, .ref q9), (0, .ref l0), (1, .int l1), (2, .int l2), (3, .ref l3)]) hx hb dL_findCode_13 hl (by decide) rfl (fun ls hl => ?_)
      refine lv_iconst (v := 1) hx hb dL_findCode_15 (by decide) ?_
      cases hf
      exact hQ _ _ _ _ _ _ dL_findCode_16 rfl hw
    · replace hf := (if_neg c8).symm.trans hf
      cases hf
  · subst he
    replace hf := gtry_inr.symm.trans hf
    refine lv_i2l (v := x5.toInt64) hx hb dL_findCode_8 rfl ?_
    obtain ⟨σ6, h7, hf⟩ := ob_some hf
    refine gg_astJ hC hw h7 dL_findCode_9 (fun H locs hw => ?_)
    refine lv_goto (tgt := 17) hx hb dL_findCode_10 (by decide) ?_
    refine lv_iconst (v := 0) hx hb dL_findCode_17 (by decide) ?_
    cases hf
    exact hQ _ _ _ _ _ _ dL_findCode_18 rfl hw

def L_findCode_f (E : gE) (l0 : Nat) (l1 : Int32) (l2 : Int32) (l3 : Nat) (σ : gS) : Option (Int32 × gS) := L_findCode E l0 l1 l2 l3 σ
set_option maxRecDepth 100000 in
theorem L_findCode_M (l : Launch) (hst : l.stackTraces = false) (E : gE) (D : va_G) (A : Nat → Prop) {l0 : Nat} {l1 : Int32} {l2 : Int32} {l3 : Nat} {σ : gS} {res : (Int32 × gS)} (hf : L_findCode_f E l0 l1 l2 l3 σ = some res) : gYI l E D A yL_findCode (Cond.codeWith yL_findCode cL_findCode 5 (some FieldType.int) [((0 : Nat), (10 : Nat), (13 : Nat), (19 : Nat))]) 8 133 [.ref l0, .int l1, .int l2, .ref l3] σ (.inr res.1, res.2) := by
  refine gg_entHI (own := RL) (nm := "findCode") (ty := FieldType.int) (by decide +kernel) rfl rfl (Nat.le_of_ble_eq_true rfl) rfl ?_
  intro p e R s m args below meth c Q ls hC hw hQ hTab hl
  replace hQ := hQ _ _ rfl
  have hl : lv_has ls 5 [(0, .ref l0), (1, .int l1), (2, .int l2), (3, .ref l3)] := hl
  exact L_findCode_W hC hQ hTab hst hf hw hl

def L_frequency (E : gE) (l0 : Nat) (l1 : Int32) (l2 : Int32) (l3 : Nat) (σ : gS) : Option (Int32 × gS) :=
  ob (gcl σ l0 10) fun _ =>
  ob (X12_frequency_f E l0 l1 l2 σ) fun x1 =>
  gtry x1 (fun k9 σ9 =>
    if k9 = 0 then
      some ((1 : Int32), σ9)
    else
    none) (fun x5 σ4 =>
    ob (gwaJ E σ4 l3 (0 : Int32) x5.toInt64) fun σ6 =>
    some ((0 : Int32), σ6))
set_option maxHeartbeats 4000000 in
set_option maxRecDepth 100000 in
theorem L_frequency_W {σ : gS} {l0 : Nat} {l1 : Int32} {l2 : Int32} {l3 : Nat} {res : (Int32 × gS)} {ls : Array Slot} (hC : gC E D A p R s m args meth c cL_frequency 5 RL "frequency" 8 134) (hQ : gQI E D A p l e R s m args below meth c Q cL_frequency FieldType.int res) (hTab : c.exceptionTable.toList = tableOf [((0 : Nat), (10 : Nat), (13 : Nat), (19 : Nat))]) (hst : l.stackTraces = false) (hf : L_frequency E l0 l1 l2 l3 σ = some res) (hw : gW E D A s σ H locs) (hl : lv_has ls 5 [(0, .ref l0), (1, .int l1), (2, .int l2), (3, .ref l3)]) : W p l e R s m args below meth c H locs cells slots Q (F0 m 0 ls []) := by
  have hC0 := hC
  obtain ⟨hx, hb, hml, hown, hts, -⟩ := hC0
  unfold L_frequency at hf
  refine lv_aload_n hx hb dL_frequency_0 rfl (lv_at hl 3 rfl) ?_
  refine lv_iconst (v := 0) hx hb dL_frequency_1 (by decide) ?_
  refine lv_aload_n hx hb dL_frequency_2 rfl (lv_at hl 0 rfl) ?_
  refine lv_iload_n hx hb dL_frequency_3 rfl (lv_at hl 1 rfl) ?_
  refine lv_iload_n hx hb dL_frequency_4 rfl (lv_at hl 2 rfl) ?_
  obtain ⟨_, h3, hf⟩ := ob_some hf
  obtain ⟨x1, h2, hf⟩ := ob_some hf
  refine gg_yVI (As := [.int l1, .int l2]) hC hw (X12_frequency_M l hst E D A h2) h3 rfl g_ml_L_36 hd_X12_frequency (Nat.le_of_ble_eq_true rfl) (Nat.le_of_ble_eq_true rfl) hl.1 rfl (Nat.le_of_ble_eq_true rfl) dL_frequency_5 (fun k9 σ9 he => ?_) (fun x5 σ4 he H locs cells slots hw => ?_)
  · subst he
    replace hf := gtry_inl.symm.trans hf
    by_cases c8 : k9 = 0
    · replace hf := (if_pos c8).symm.trans hf
      subst c8
      intro H locs cells slots q9 ce hw hce hv hcl
      refine gg_catch (k := 0) hC hTab [] (⟨0, 10, 13, 19⟩ : ExceptionTableEntry) [] rfl (fun z hz => nomatch hz) (by decide) (by decide) cl_L_19 (by decide) hce hv hcl ?_
      refine lv_astore (lv' := [(4, .ref q9), (0, .ref l0), (1, .int l1), (2, .int l2), (3, .ref l3)]) hx hb dL_frequency_13 hl (by decide) rfl (fun ls hl => ?_)
      refine lv_iconst (v := 1) hx hb dL_frequency_15 (by decide) ?_
      cases hf
      exact hQ _ _ _ _ _ _ dL_frequency_16 rfl hw
    · replace hf := (if_neg c8).symm.trans hf
      cases hf
  · subst he
    replace hf := gtry_inr.symm.trans hf
    refine lv_i2l (v := x5.toInt64) hx hb dL_frequency_8 rfl ?_
    obtain ⟨σ6, h7, hf⟩ := ob_some hf
    refine gg_astJ hC hw h7 dL_frequency_9 (fun H locs hw => ?_)
    refine lv_goto (tgt := 17) hx hb dL_frequency_10 (by decide) ?_
    refine lv_iconst (v := 0) hx hb dL_frequency_17 (by decide) ?_
    cases hf
    exact hQ _ _ _ _ _ _ dL_frequency_18 rfl hw

def L_frequency_f (E : gE) (l0 : Nat) (l1 : Int32) (l2 : Int32) (l3 : Nat) (σ : gS) : Option (Int32 × gS) := L_frequency E l0 l1 l2 l3 σ
set_option maxRecDepth 100000 in
theorem L_frequency_M (l : Launch) (hst : l.stackTraces = false) (E : gE) (D : va_G) (A : Nat → Prop) {l0 : Nat} {l1 : Int32} {l2 : Int32} {l3 : Nat} {σ : gS} {res : (Int32 × gS)} (hf : L_frequency_f E l0 l1 l2 l3 σ = some res) : gYI l E D A yL_frequency (Cond.codeWith yL_frequency cL_frequency 5 (some FieldType.int) [((0 : Nat), (10 : Nat), (13 : Nat), (19 : Nat))]) 8 134 [.ref l0, .int l1, .int l2, .ref l3] σ (.inr res.1, res.2) := by
  refine gg_entHI (own := RL) (nm := "frequency") (ty := FieldType.int) (by decide +kernel) rfl rfl (Nat.le_of_ble_eq_true rfl) rfl ?_
  intro p e R s m args below meth c Q ls hC hw hQ hTab hl
  replace hQ := hQ _ _ rfl
  have hl : lv_has ls 5 [(0, .ref l0), (1, .int l1), (2, .int l2), (3, .ref l3)] := hl
  exact L_frequency_W hC hQ hTab hst hf hw hl

def L_commonestCode (E : gE) (l0 : Nat) (l1 : Int32) (l2 : Nat) (σ : gS) : Option (Int32 × gS) :=
  ob (gcl σ l0 10) fun _ =>
  ob (X12_commonestCode_f E l0 l1 σ) fun x1 =>
  gtry x1 (fun k9 σ9 =>
    if k9 = 0 then
      some ((1 : Int32), σ9)
    else
    none) (fun x5 σ4 =>
    ob (gwaJ E σ4 l2 (0 : Int32) x5.toInt64) fun σ6 =>
    some ((0 : Int32), σ6))
set_option maxHeartbeats 4000000 in
set_option maxRecDepth 100000 in
theorem L_commonestCode_W {σ : gS} {l0 : Nat} {l1 : Int32} {l2 : Nat} {res : (Int32 × gS)} {ls : Array Slot} (hC : gC E D A p R s m args meth c cL_commonestCode 4 RL "commonestCode" 8 132) (hQ : gQI E D A p l e R s m args below meth c Q cL_commonestCode FieldType.int res) (hTab : c.exceptionTable.toList = tableOf [((0 : Nat), (9 : Nat), (12 : Nat), (19 : Nat))]) (hst : l.stackTraces = false) (hf : L_commonestCode E l0 l1 l2 σ = some res) (hw : gW E D A s σ H locs) (hl : lv_has ls 4 [(0, .ref l0), (1, .int l1), (2, .ref l2)]) : W p l e R s m args below meth c H locs cells slots Q (F0 m 0 ls []) := by
  have hC0 := hC
  obtain ⟨hx, hb, hml, hown, hts, -⟩ := hC0
  unfold L_commonestCode at hf
  refine lv_aload_n hx hb dL_commonestCode_0 rfl (lv_at hl 2 rfl) ?_
  refine lv_iconst (v := 0) hx hb dL_commonestCode_1 (by decide) ?_
  refine lv_aload_n hx hb dL_commonestCode_2 rfl (lv_at hl 0 rfl) ?_
  refine lv_iload_n hx hb dL_commonestCode_3 rfl (lv_at hl 1 rfl) ?_
  obtain ⟨_, h3, hf⟩ := ob_some hf
  obtain ⟨x1, h2, hf⟩ := ob_some hf
  refine gg_yVI (As := [.int l1]) hC hw (X12_commonestCode_M l hst E D A h2) h3 rfl g_ml_L_39 hd_X12_commonestCode (Nat.le_of_ble_eq_true rfl) (Nat.le_of_ble_eq_true rfl) hl.1 rfl (Nat.le_of_ble_eq_true rfl) dL_commonestCode_4 (fun k9 σ9 he => ?_) (fun x5 σ4 he H locs cells slots hw => ?_)
  · subst he
    replace hf := gtry_inl.symm.trans hf
    by_cases c8 : k9 = 0
    · replace hf := (if_pos c8).symm.trans hf
      subst c8
      intro H locs cells slots q9 ce hw hce hv hcl
      refine gg_catch (k := 0) hC hTab [] (⟨0, 9, 12, 19⟩ : ExceptionTableEntry) [] rfl (fun z hz => nomatch hz) (by decide) (by decide) cl_L_19 (by decide) hce hv hcl ?_
      refine lv_astore_n (lv' := [(3, .ref q9), (0, .ref l0), (1, .int l1), (2, .ref l2)]) hx hb dL_commonestCode_12 rfl hl (by decide) rfl (fun ls hl => ?_)
      refine lv_iconst (v := 1) hx hb dL_commonestCode_13 (by decide) ?_
      cases hf
      exact hQ _ _ _ _ _ _ dL_commonestCode_14 rfl hw
    · replace hf := (if_neg c8).symm.trans hf
      cases hf
  · subst he
    replace hf := gtry_inr.symm.trans hf
    refine lv_i2l (v := x5.toInt64) hx hb dL_commonestCode_7 rfl ?_
    obtain ⟨σ6, h7, hf⟩ := ob_some hf
    refine gg_astJ hC hw h7 dL_commonestCode_8 (fun H locs hw => ?_)
    refine lv_goto (tgt := 15) hx hb dL_commonestCode_9 (by decide) ?_
    refine lv_iconst (v := 0) hx hb dL_commonestCode_15 (by decide) ?_
    cases hf
    exact hQ _ _ _ _ _ _ dL_commonestCode_16 rfl hw

def L_commonestCode_f (E : gE) (l0 : Nat) (l1 : Int32) (l2 : Nat) (σ : gS) : Option (Int32 × gS) := L_commonestCode E l0 l1 l2 σ
set_option maxRecDepth 100000 in
theorem L_commonestCode_M (l : Launch) (hst : l.stackTraces = false) (E : gE) (D : va_G) (A : Nat → Prop) {l0 : Nat} {l1 : Int32} {l2 : Nat} {σ : gS} {res : (Int32 × gS)} (hf : L_commonestCode_f E l0 l1 l2 σ = some res) : gYI l E D A yL_commonestCode (Cond.codeWith yL_commonestCode cL_commonestCode 4 (some FieldType.int) [((0 : Nat), (9 : Nat), (12 : Nat), (19 : Nat))]) 8 132 [.ref l0, .int l1, .ref l2] σ (.inr res.1, res.2) := by
  refine gg_entHI (own := RL) (nm := "commonestCode") (ty := FieldType.int) (by decide +kernel) rfl rfl (Nat.le_of_ble_eq_true rfl) rfl ?_
  intro p e R s m args below meth c Q ls hC hw hQ hTab hl
  replace hQ := hQ _ _ rfl
  have hl : lv_has ls 4 [(0, .ref l0), (1, .int l1), (2, .ref l2)] := hl
  exact L_commonestCode_W hC hQ hTab hst hf hw hl

def L_bitWidth (E : gE) (l0 : Nat) (l1 : Int32) (l2 : Nat) (σ : gS) : Option (Int32 × gS) :=
  ob (gcl σ l0 10) fun _ =>
  ob (X12_bitWidth_f E l0 l1 σ) fun x1 =>
  gtry x1 (fun k9 σ9 =>
    if k9 = 0 then
      some ((1 : Int32), σ9)
    else
    none) (fun x5 σ4 =>
    ob (gwaJ E σ4 l2 (0 : Int32) x5.toInt64) fun σ6 =>
    some ((0 : Int32), σ6))
set_option maxHeartbeats 4000000 in
set_option maxRecDepth 100000 in
theorem L_bitWidth_W {σ : gS} {l0 : Nat} {l1 : Int32} {l2 : Nat} {res : (Int32 × gS)} {ls : Array Slot} (hC : gC E D A p R s m args meth c cL_bitWidth 4 RL "bitWidth" 8 132) (hQ : gQI E D A p l e R s m args below meth c Q cL_bitWidth FieldType.int res) (hTab : c.exceptionTable.toList = tableOf [((0 : Nat), (9 : Nat), (12 : Nat), (19 : Nat))]) (hst : l.stackTraces = false) (hf : L_bitWidth E l0 l1 l2 σ = some res) (hw : gW E D A s σ H locs) (hl : lv_has ls 4 [(0, .ref l0), (1, .int l1), (2, .ref l2)]) : W p l e R s m args below meth c H locs cells slots Q (F0 m 0 ls []) := by
  have hC0 := hC
  obtain ⟨hx, hb, hml, hown, hts, -⟩ := hC0
  unfold L_bitWidth at hf
  refine lv_aload_n hx hb dL_bitWidth_0 rfl (lv_at hl 2 rfl) ?_
  refine lv_iconst (v := 0) hx hb dL_bitWidth_1 (by decide) ?_
  refine lv_aload_n hx hb dL_bitWidth_2 rfl (lv_at hl 0 rfl) ?_
  refine lv_iload_n hx hb dL_bitWidth_3 rfl (lv_at hl 1 rfl) ?_
  obtain ⟨_, h3, hf⟩ := ob_some hf
  obtain ⟨x1, h2, hf⟩ := ob_some hf
  refine gg_yVI (As := [.int l1]) hC hw (X12_bitWidth_M l hst E D A h2) h3 rfl g_ml_L_42 hd_X12_bitWidth (Nat.le_of_ble_eq_true rfl) (Nat.le_of_ble_eq_true rfl) hl.1 rfl (Nat.le_of_ble_eq_true rfl) dL_bitWidth_4 (fun k9 σ9 he => ?_) (fun x5 σ4 he H locs cells slots hw => ?_)
  · subst he
    replace hf := gtry_inl.symm.trans hf
    by_cases c8 : k9 = 0
    · replace hf := (if_pos c8).symm.trans hf
      subst c8
      intro H locs cells slots q9 ce hw hce hv hcl
      refine gg_catch (k := 0) hC hTab [] (⟨0, 9, 12, 19⟩ : ExceptionTableEntry) [] rfl (fun z hz => nomatch hz) (by decide) (by decide) cl_L_19 (by decide) hce hv hcl ?_
      refine lv_astore_n (lv' := [(3, .ref q9), (0, .ref l0), (1, .int l1), (2, .ref l2)]) hx hb dL_bitWidth_12 rfl hl (by decide) rfl (fun ls hl => ?_)
      refine lv_iconst (v := 1) hx hb dL_bitWidth_13 (by decide) ?_
      cases hf
      exact hQ _ _ _ _ _ _ dL_bitWidth_14 rfl hw
    · replace hf := (if_neg c8).symm.trans hf
      cases hf
  · subst he
    replace hf := gtry_inr.symm.trans hf
    refine lv_i2l (v := x5.toInt64) hx hb dL_bitWidth_7 rfl ?_
    obtain ⟨σ6, h7, hf⟩ := ob_some hf
    refine gg_astJ hC hw h7 dL_bitWidth_8 (fun H locs hw => ?_)
    refine lv_goto (tgt := 15) hx hb dL_bitWidth_9 (by decide) ?_
    refine lv_iconst (v := 0) hx hb dL_bitWidth_15 (by decide) ?_
    cases hf
    exact hQ _ _ _ _ _ _ dL_bitWidth_16 rfl hw

def L_bitWidth_f (E : gE) (l0 : Nat) (l1 : Int32) (l2 : Nat) (σ : gS) : Option (Int32 × gS) := L_bitWidth E l0 l1 l2 σ
set_option maxRecDepth 100000 in
theorem L_bitWidth_M (l : Launch) (hst : l.stackTraces = false) (E : gE) (D : va_G) (A : Nat → Prop) {l0 : Nat} {l1 : Int32} {l2 : Nat} {σ : gS} {res : (Int32 × gS)} (hf : L_bitWidth_f E l0 l1 l2 σ = some res) : gYI l E D A yL_bitWidth (Cond.codeWith yL_bitWidth cL_bitWidth 4 (some FieldType.int) [((0 : Nat), (9 : Nat), (12 : Nat), (19 : Nat))]) 8 132 [.ref l0, .int l1, .ref l2] σ (.inr res.1, res.2) := by
  refine gg_entHI (own := RL) (nm := "bitWidth") (ty := FieldType.int) (by decide +kernel) rfl rfl (Nat.le_of_ble_eq_true rfl) rfl ?_
  intro p e R s m args below meth c Q ls hC hw hQ hTab hl
  replace hQ := hQ _ _ rfl
  have hl : lv_has ls 4 [(0, .ref l0), (1, .int l1), (2, .ref l2)] := hl
  exact L_bitWidth_W hC hQ hTab hst hf hw hl

def L_wordCount (E : gE) (l0 : Nat) (l1 : Int32) (l2 : Nat) (σ : gS) : Option (Int32 × gS) :=
  ob (gcl σ l0 10) fun _ =>
  ob (X12_wordCount_f E l0 l1 σ) fun x1 =>
  gtry x1 (fun k9 σ9 =>
    if k9 = 0 then
      some ((1 : Int32), σ9)
    else
    none) (fun x5 σ4 =>
    ob (gwaJ E σ4 l2 (0 : Int32) x5.toInt64) fun σ6 =>
    some ((0 : Int32), σ6))
set_option maxHeartbeats 4000000 in
set_option maxRecDepth 100000 in
theorem L_wordCount_W {σ : gS} {l0 : Nat} {l1 : Int32} {l2 : Nat} {res : (Int32 × gS)} {ls : Array Slot} (hC : gC E D A p R s m args meth c cL_wordCount 4 RL "wordCount" 8 132) (hQ : gQI E D A p l e R s m args below meth c Q cL_wordCount FieldType.int res) (hTab : c.exceptionTable.toList = tableOf [((0 : Nat), (9 : Nat), (12 : Nat), (19 : Nat))]) (hst : l.stackTraces = false) (hf : L_wordCount E l0 l1 l2 σ = some res) (hw : gW E D A s σ H locs) (hl : lv_has ls 4 [(0, .ref l0), (1, .int l1), (2, .ref l2)]) : W p l e R s m args below meth c H locs cells slots Q (F0 m 0 ls []) := by
  have hC0 := hC
  obtain ⟨hx, hb, hml, hown, hts, -⟩ := hC0
  unfold L_wordCount at hf
  refine lv_aload_n hx hb dL_wordCount_0 rfl (lv_at hl 2 rfl) ?_
  refine lv_iconst (v := 0) hx hb dL_wordCount_1 (by decide) ?_
  refine lv_aload_n hx hb dL_wordCount_2 rfl (lv_at hl 0 rfl) ?_
  refine lv_iload_n hx hb dL_wordCount_3 rfl (lv_at hl 1 rfl) ?_
  obtain ⟨_, h3, hf⟩ := ob_some hf
  obtain ⟨x1, h2, hf⟩ := ob_some hf
  refine gg_yVI (As := [.int l1]) hC hw (X12_wordCount_M l hst E D A h2) h3 rfl g_ml_L_45 hd_X12_wordCount (Nat.le_of_ble_eq_true rfl) (Nat.le_of_ble_eq_true rfl) hl.1 rfl (Nat.le_of_ble_eq_true rfl) dL_wordCount_4 (fun k9 σ9 he => ?_) (fun x5 σ4 he H locs cells slots hw => ?_)
  · subst he
    replace hf := gtry_inl.symm.trans hf
    by_cases c8 : k9 = 0
    · replace hf := (if_pos c8).symm.trans hf
      subst c8
      intro H locs cells slots q9 ce hw hce hv hcl
      refine gg_catch (k := 0) hC hTab [] (⟨0, 9, 12, 19⟩ : ExceptionTableEntry) [] rfl (fun z hz => nomatch hz) (by decide) (by decide) cl_L_19 (by decide) hce hv hcl ?_
      refine lv_astore_n (lv' := [(3, .ref q9), (0, .ref l0), (1, .int l1), (2, .ref l2)]) hx hb dL_wordCount_12 rfl hl (by decide) rfl (fun ls hl => ?_)
      refine lv_iconst (v := 1) hx hb dL_wordCount_13 (by decide) ?_
      cases hf
      exact hQ _ _ _ _ _ _ dL_wordCount_14 rfl hw
    · replace hf := (if_neg c8).symm.trans hf
      cases hf
  · subst he
    replace hf := gtry_inr.symm.trans hf
    refine lv_i2l (v := x5.toInt64) hx hb dL_wordCount_7 rfl ?_
    obtain ⟨σ6, h7, hf⟩ := ob_some hf
    refine gg_astJ hC hw h7 dL_wordCount_8 (fun H locs hw => ?_)
    refine lv_goto (tgt := 15) hx hb dL_wordCount_9 (by decide) ?_
    refine lv_iconst (v := 0) hx hb dL_wordCount_15 (by decide) ?_
    cases hf
    exact hQ _ _ _ _ _ _ dL_wordCount_16 rfl hw

def L_wordCount_f (E : gE) (l0 : Nat) (l1 : Int32) (l2 : Nat) (σ : gS) : Option (Int32 × gS) := L_wordCount E l0 l1 l2 σ
set_option maxRecDepth 100000 in
theorem L_wordCount_M (l : Launch) (hst : l.stackTraces = false) (E : gE) (D : va_G) (A : Nat → Prop) {l0 : Nat} {l1 : Int32} {l2 : Nat} {σ : gS} {res : (Int32 × gS)} (hf : L_wordCount_f E l0 l1 l2 σ = some res) : gYI l E D A yL_wordCount (Cond.codeWith yL_wordCount cL_wordCount 4 (some FieldType.int) [((0 : Nat), (9 : Nat), (12 : Nat), (19 : Nat))]) 8 132 [.ref l0, .int l1, .ref l2] σ (.inr res.1, res.2) := by
  refine gg_entHI (own := RL) (nm := "wordCount") (ty := FieldType.int) (by decide +kernel) rfl rfl (Nat.le_of_ble_eq_true rfl) rfl ?_
  intro p e R s m args below meth c Q ls hC hw hQ hTab hl
  replace hQ := hQ _ _ rfl
  have hl : lv_has ls 4 [(0, .ref l0), (1, .int l1), (2, .ref l2)] := hl
  exact L_wordCount_W hC hQ hTab hst hf hw hl

def L_packedWord (E : gE) (l0 : Nat) (l1 : Int32) (l2 : Int32) (l3 : Nat) (σ : gS) : Option (Int32 × gS) :=
  ob (gcl σ l0 10) fun _ =>
  ob (X12_packedWord_f E l0 l1 l2 σ) fun x1 =>
  gtry x1 (fun k9 σ9 =>
    if k9 = 0 then
      some ((1 : Int32), σ9)
    else
    none) (fun x5 σ4 =>
    ob (gwaJ E σ4 l3 (0 : Int32) x5) fun σ6 =>
    some ((0 : Int32), σ6))
set_option maxHeartbeats 4000000 in
set_option maxRecDepth 100000 in
theorem L_packedWord_W {σ : gS} {l0 : Nat} {l1 : Int32} {l2 : Int32} {l3 : Nat} {res : (Int32 × gS)} {ls : Array Slot} (hC : gC E D A p R s m args meth c cL_packedWord 5 RL "packedWord" 8 133) (hQ : gQI E D A p l e R s m args below meth c Q cL_packedWord FieldType.int res) (hTab : c.exceptionTable.toList = tableOf [((0 : Nat), (9 : Nat), (12 : Nat), (19 : Nat))]) (hst : l.stackTraces = false) (hf : L_packedWord E l0 l1 l2 l3 σ = some res) (hw : gW E D A s σ H locs) (hl : lv_has ls 5 [(0, .ref l0), (1, .int l1), (2, .int l2), (3, .ref l3)]) : W p l e R s m args below meth c H locs cells slots Q (F0 m 0 ls []) := by
  have hC0 := hC
  obtain ⟨hx, hb, hml, hown, hts, -⟩ := hC0
  unfold L_packedWord at hf
  refine lv_aload_n hx hb dL_packedWord_0 rfl (lv_at hl 3 rfl) ?_
  refine lv_iconst (v := 0) hx hb dL_packedWord_1 (by decide) ?_
  refine lv_aload_n hx hb dL_packedWord_2 rfl (lv_at hl 0 rfl) ?_
  refine lv_iload_n hx hb dL_packedWord_3 rfl (lv_at hl 1 rfl) ?_
  refine lv_iload_n hx hb dL_packedWord_4 rfl (lv_at hl 2 rfl) ?_
  obtain ⟨_, h3, hf⟩ := ob_some hf
  obtain ⟨x1, h2, hf⟩ := ob_some hf
  refine gg_yVJ (As := [.int l1, .int l2]) hC hw (X12_packedWord_M l hst E D A h2) h3 rfl g_ml_L_48 hd_X12_packedWord (Nat.le_of_ble_eq_true rfl) (Nat.le_of_ble_eq_true rfl) hl.1 rfl (Nat.le_of_ble_eq_true rfl) dL_packedWord_5 (fun k9 σ9 he => ?_) (fun x5 σ4 he H locs cells slots hw => ?_)
  · subst he
    replace hf := gtry_inl.symm.trans hf
    by_cases c8 : k9 = 0
    · replace hf := (if_pos c8).symm.trans hf
      subst c8
      intro H locs cells slots q9 ce hw hce hv hcl
      refine gg_catch (k := 0) hC hTab [] (⟨0, 9, 12, 19⟩ : ExceptionTableEntry) [] rfl (fun z hz => nomatch hz) (by decide) (by decide) cl_L_19 (by decide) hce hv hcl ?_
      refine lv_astore (lv' := [(4, .ref q9), (0, .ref l0), (1, .int l1), (2, .int l2), (3, .ref l3)]) hx hb dL_packedWord_12 hl (by decide) rfl (fun ls hl => ?_)
      refine lv_iconst (v := 1) hx hb dL_packedWord_14 (by decide) ?_
      cases hf
      exact hQ _ _ _ _ _ _ dL_packedWord_15 rfl hw
    · replace hf := (if_neg c8).symm.trans hf
      cases hf
  · subst he
    replace hf := gtry_inr.symm.trans hf
    obtain ⟨σ6, h7, hf⟩ := ob_some hf
    refine gg_astJ hC hw h7 dL_packedWord_8 (fun H locs hw => ?_)
    refine lv_goto (tgt := 16) hx hb dL_packedWord_9 (by decide) ?_
    refine lv_iconst (v := 0) hx hb dL_packedWord_16 (by decide) ?_
    cases hf
    exact hQ _ _ _ _ _ _ dL_packedWord_17 rfl hw

def L_packedWord_f (E : gE) (l0 : Nat) (l1 : Int32) (l2 : Int32) (l3 : Nat) (σ : gS) : Option (Int32 × gS) := L_packedWord E l0 l1 l2 l3 σ
set_option maxRecDepth 100000 in
theorem L_packedWord_M (l : Launch) (hst : l.stackTraces = false) (E : gE) (D : va_G) (A : Nat → Prop) {l0 : Nat} {l1 : Int32} {l2 : Int32} {l3 : Nat} {σ : gS} {res : (Int32 × gS)} (hf : L_packedWord_f E l0 l1 l2 l3 σ = some res) : gYI l E D A yL_packedWord (Cond.codeWith yL_packedWord cL_packedWord 5 (some FieldType.int) [((0 : Nat), (9 : Nat), (12 : Nat), (19 : Nat))]) 8 133 [.ref l0, .int l1, .int l2, .ref l3] σ (.inr res.1, res.2) := by
  refine gg_entHI (own := RL) (nm := "packedWord") (ty := FieldType.int) (by decide +kernel) rfl rfl (Nat.le_of_ble_eq_true rfl) rfl ?_
  intro p e R s m args below meth c Q ls hC hw hQ hTab hl
  replace hQ := hQ _ _ rfl
  have hl : lv_has ls 5 [(0, .ref l0), (1, .int l1), (2, .int l2), (3, .ref l3)] := hl
  exact L_packedWord_W hC hQ hTab hst hf hw hl

def L_runCount (E : gE) (l0 : Nat) (l1 : Int32) (l2 : Nat) (σ : gS) : Option (Int32 × gS) :=
  ob (gcl σ l0 10) fun _ =>
  ob (X12_runCount_f E l0 l1 σ) fun x1 =>
  gtry x1 (fun k9 σ9 =>
    if k9 = 0 then
      some ((1 : Int32), σ9)
    else
    none) (fun x5 σ4 =>
    ob (gwaJ E σ4 l2 (0 : Int32) x5.toInt64) fun σ6 =>
    some ((0 : Int32), σ6))
set_option maxHeartbeats 4000000 in
set_option maxRecDepth 100000 in
theorem L_runCount_W {σ : gS} {l0 : Nat} {l1 : Int32} {l2 : Nat} {res : (Int32 × gS)} {ls : Array Slot} (hC : gC E D A p R s m args meth c cL_runCount 4 RL "runCount" 8 132) (hQ : gQI E D A p l e R s m args below meth c Q cL_runCount FieldType.int res) (hTab : c.exceptionTable.toList = tableOf [((0 : Nat), (9 : Nat), (12 : Nat), (19 : Nat))]) (hst : l.stackTraces = false) (hf : L_runCount E l0 l1 l2 σ = some res) (hw : gW E D A s σ H locs) (hl : lv_has ls 4 [(0, .ref l0), (1, .int l1), (2, .ref l2)]) : W p l e R s m args below meth c H locs cells slots Q (F0 m 0 ls []) := by
  have hC0 := hC
  obtain ⟨hx, hb, hml, hown, hts, -⟩ := hC0
  unfold L_runCount at hf
  refine lv_aload_n hx hb dL_runCount_0 rfl (lv_at hl 2 rfl) ?_
  refine lv_iconst (v := 0) hx hb dL_runCount_1 (by decide) ?_
  refine lv_aload_n hx hb dL_runCount_2 rfl (lv_at hl 0 rfl) ?_
  refine lv_iload_n hx hb dL_runCount_3 rfl (lv_at hl 1 rfl) ?_
  obtain ⟨_, h3, hf⟩ := ob_some hf
  obtain ⟨x1, h2, hf⟩ := ob_some hf
  refine gg_yVI (As := [.int l1]) hC hw (X12_runCount_M l hst E D A h2) h3 rfl g_ml_L_52 hd_X12_runCount (Nat.le_of_ble_eq_true rfl) (Nat.le_of_ble_eq_true rfl) hl.1 rfl (Nat.le_of_ble_eq_true rfl) dL_runCount_4 (fun k9 σ9 he => ?_) (fun x5 σ4 he H locs cells slots hw => ?_)
  · subst he
    replace hf := gtry_inl.symm.trans hf
    by_cases c8 : k9 = 0
    · replace hf := (if_pos c8).symm.trans hf
      subst c8
      intro H locs cells slots q9 ce hw hce hv hcl
      refine gg_catch (k := 0) hC hTab [] (⟨0, 9, 12, 19⟩ : ExceptionTableEntry) [] rfl (fun z hz => nomatch hz) (by decide) (by decide) cl_L_19 (by decide) hce hv hcl ?_
      refine lv_astore_n (lv' := [(3, .ref q9), (0, .ref l0), (1, .int l1), (2, .ref l2)]) hx hb dL_runCount_12 rfl hl (by decide) rfl (fun ls hl => ?_)
      refine lv_iconst (v := 1) hx hb dL_runCount_13 (by decide) ?_
      cases hf
      exact hQ _ _ _ _ _ _ dL_runCount_14 rfl hw
    · replace hf := (if_neg c8).symm.trans hf
      cases hf
  · subst he
    replace hf := gtry_inr.symm.trans hf
    refine lv_i2l (v := x5.toInt64) hx hb dL_runCount_7 rfl ?_
    obtain ⟨σ6, h7, hf⟩ := ob_some hf
    refine gg_astJ hC hw h7 dL_runCount_8 (fun H locs hw => ?_)
    refine lv_goto (tgt := 15) hx hb dL_runCount_9 (by decide) ?_
    refine lv_iconst (v := 0) hx hb dL_runCount_15 (by decide) ?_
    cases hf
    exact hQ _ _ _ _ _ _ dL_runCount_16 rfl hw

def L_runCount_f (E : gE) (l0 : Nat) (l1 : Int32) (l2 : Nat) (σ : gS) : Option (Int32 × gS) := L_runCount E l0 l1 l2 σ
set_option maxRecDepth 100000 in
theorem L_runCount_M (l : Launch) (hst : l.stackTraces = false) (E : gE) (D : va_G) (A : Nat → Prop) {l0 : Nat} {l1 : Int32} {l2 : Nat} {σ : gS} {res : (Int32 × gS)} (hf : L_runCount_f E l0 l1 l2 σ = some res) : gYI l E D A yL_runCount (Cond.codeWith yL_runCount cL_runCount 4 (some FieldType.int) [((0 : Nat), (9 : Nat), (12 : Nat), (19 : Nat))]) 8 132 [.ref l0, .int l1, .ref l2] σ (.inr res.1, res.2) := by
  refine gg_entHI (own := RL) (nm := "runCount") (ty := FieldType.int) (by decide +kernel) rfl rfl (Nat.le_of_ble_eq_true rfl) rfl ?_
  intro p e R s m args below meth c Q ls hC hw hQ hTab hl
  replace hQ := hQ _ _ rfl
  have hl : lv_has ls 4 [(0, .ref l0), (1, .int l1), (2, .ref l2)] := hl
  exact L_runCount_W hC hQ hTab hst hf hw hl

def L_longestRun (E : gE) (l0 : Nat) (l1 : Int32) (l2 : Nat) (σ : gS) : Option (Int32 × gS) :=
  ob (gcl σ l0 10) fun _ =>
  ob (X12_longestRun_f E l0 l1 σ) fun x1 =>
  gtry x1 (fun k9 σ9 =>
    if k9 = 0 then
      some ((1 : Int32), σ9)
    else
    none) (fun x5 σ4 =>
    ob (gwaJ E σ4 l2 (0 : Int32) x5.toInt64) fun σ6 =>
    some ((0 : Int32), σ6))
set_option maxHeartbeats 4000000 in
set_option maxRecDepth 100000 in
theorem L_longestRun_W {σ : gS} {l0 : Nat} {l1 : Int32} {l2 : Nat} {res : (Int32 × gS)} {ls : Array Slot} (hC : gC E D A p R s m args meth c cL_longestRun 4 RL "longestRun" 8 132) (hQ : gQI E D A p l e R s m args below meth c Q cL_longestRun FieldType.int res) (hTab : c.exceptionTable.toList = tableOf [((0 : Nat), (9 : Nat), (12 : Nat), (19 : Nat))]) (hst : l.stackTraces = false) (hf : L_longestRun E l0 l1 l2 σ = some res) (hw : gW E D A s σ H locs) (hl : lv_has ls 4 [(0, .ref l0), (1, .int l1), (2, .ref l2)]) : W p l e R s m args below meth c H locs cells slots Q (F0 m 0 ls []) := by
  have hC0 := hC
  obtain ⟨hx, hb, hml, hown, hts, -⟩ := hC0
  unfold L_longestRun at hf
  refine lv_aload_n hx hb dL_longestRun_0 rfl (lv_at hl 2 rfl) ?_
  refine lv_iconst (v := 0) hx hb dL_longestRun_1 (by decide) ?_
  refine lv_aload_n hx hb dL_longestRun_2 rfl (lv_at hl 0 rfl) ?_
  refine lv_iload_n hx hb dL_longestRun_3 rfl (lv_at hl 1 rfl) ?_
  obtain ⟨_, h3, hf⟩ := ob_some hf
  obtain ⟨x1, h2, hf⟩ := ob_some hf
  refine gg_yVI (As := [.int l1]) hC hw (X12_longestRun_M l hst E D A h2) h3 rfl g_ml_L_55 hd_X12_longestRun (Nat.le_of_ble_eq_true rfl) (Nat.le_of_ble_eq_true rfl) hl.1 rfl (Nat.le_of_ble_eq_true rfl) dL_longestRun_4 (fun k9 σ9 he => ?_) (fun x5 σ4 he H locs cells slots hw => ?_)
  · subst he
    replace hf := gtry_inl.symm.trans hf
    by_cases c8 : k9 = 0
    · replace hf := (if_pos c8).symm.trans hf
      subst c8
      intro H locs cells slots q9 ce hw hce hv hcl
      refine gg_catch (k := 0) hC hTab [] (⟨0, 9, 12, 19⟩ : ExceptionTableEntry) [] rfl (fun z hz => nomatch hz) (by decide) (by decide) cl_L_19 (by decide) hce hv hcl ?_
      refine lv_astore_n (lv' := [(3, .ref q9), (0, .ref l0), (1, .int l1), (2, .ref l2)]) hx hb dL_longestRun_12 rfl hl (by decide) rfl (fun ls hl => ?_)
      refine lv_iconst (v := 1) hx hb dL_longestRun_13 (by decide) ?_
      cases hf
      exact hQ _ _ _ _ _ _ dL_longestRun_14 rfl hw
    · replace hf := (if_neg c8).symm.trans hf
      cases hf
  · subst he
    replace hf := gtry_inr.symm.trans hf
    refine lv_i2l (v := x5.toInt64) hx hb dL_longestRun_7 rfl ?_
    obtain ⟨σ6, h7, hf⟩ := ob_some hf
    refine gg_astJ hC hw h7 dL_longestRun_8 (fun H locs hw => ?_)
    refine lv_goto (tgt := 15) hx hb dL_longestRun_9 (by decide) ?_
    refine lv_iconst (v := 0) hx hb dL_longestRun_15 (by decide) ?_
    cases hf
    exact hQ _ _ _ _ _ _ dL_longestRun_16 rfl hw

def L_longestRun_f (E : gE) (l0 : Nat) (l1 : Int32) (l2 : Nat) (σ : gS) : Option (Int32 × gS) := L_longestRun E l0 l1 l2 σ
set_option maxRecDepth 100000 in
theorem L_longestRun_M (l : Launch) (hst : l.stackTraces = false) (E : gE) (D : va_G) (A : Nat → Prop) {l0 : Nat} {l1 : Int32} {l2 : Nat} {σ : gS} {res : (Int32 × gS)} (hf : L_longestRun_f E l0 l1 l2 σ = some res) : gYI l E D A yL_longestRun (Cond.codeWith yL_longestRun cL_longestRun 4 (some FieldType.int) [((0 : Nat), (9 : Nat), (12 : Nat), (19 : Nat))]) 8 132 [.ref l0, .int l1, .ref l2] σ (.inr res.1, res.2) := by
  refine gg_entHI (own := RL) (nm := "longestRun") (ty := FieldType.int) (by decide +kernel) rfl rfl (Nat.le_of_ble_eq_true rfl) rfl ?_
  intro p e R s m args below meth c Q ls hC hw hQ hTab hl
  replace hQ := hQ _ _ rfl
  have hl : lv_has ls 4 [(0, .ref l0), (1, .int l1), (2, .ref l2)] := hl
  exact L_longestRun_W hC hQ hTab hst hf hw hl

def L_isSorted_15 (E : gE) (s0 : Int64) (s1 : Int32) (s2 : Nat) (σ : gS) : Option (Int32 × gS) :=
  ob (gwaJ E σ s2 s1 s0) fun σ1 =>
  some ((0 : Int32), σ1)
set_option maxHeartbeats 4000000 in
set_option maxRecDepth 100000 in
theorem L_isSorted_15_W {σ : gS} {s0 : Int64} {s1 : Int32} {s2 : Nat} {res : (Int32 × gS)} {ls : Array Slot} (hC : gC E D A p R s m args meth c cL_isSorted 4 RL "isSorted" 8 132) (hQ : gQI E D A p l e R s m args below meth c Q cL_isSorted FieldType.int res) (hTab : c.exceptionTable.toList = tableOf [((0 : Nat), (16 : Nat), (19 : Nat), (19 : Nat))]) (hst : l.stackTraces = false) (hf : L_isSorted_15 E s0 s1 s2 σ = some res) (hw : gW E D A s σ H locs) (hl : lv_has ls 4 []) : W p l e R s m args below meth c H locs cells slots Q (F0 m 15 ls [.long s0, .int s1, .ref s2]) := by
  have hC0 := hC
  obtain ⟨hx, hb, hml, hown, hts, -⟩ := hC0
  unfold L_isSorted_15 at hf
  obtain ⟨σ1, h2, hf⟩ := ob_some hf
  refine gg_astJ hC hw h2 dL_isSorted_15 (fun H locs hw => ?_)
  refine lv_goto (tgt := 22) hx hb dL_isSorted_16 (by decide) ?_
  refine lv_iconst (v := 0) hx hb dL_isSorted_22 (by decide) ?_
  cases hf
  exact hQ _ _ _ _ _ _ dL_isSorted_23 rfl hw

def L_isSorted (E : gE) (l0 : Nat) (l1 : Int32) (l2 : Nat) (σ : gS) : Option (Int32 × gS) :=
  ob (gcl σ l0 10) fun _ =>
  ob (X12_isSorted_f E l0 l1 σ) fun x3 =>
  gtry x3 (fun k9 σ9 =>
    if k9 = 0 then
      some ((1 : Int32), σ9)
    else
    none) (fun x7 σ6 =>
    if x7 = 0 then
      L_isSorted_15 E (0 : Int64) (0 : Int32) l2 σ6
    else
      L_isSorted_15 E (1 : Int64) (0 : Int32) l2 σ6)
set_option maxHeartbeats 4000000 in
set_option maxRecDepth 100000 in
theorem L_isSorted_W {σ : gS} {l0 : Nat} {l1 : Int32} {l2 : Nat} {res : (Int32 × gS)} {ls : Array Slot} (hC : gC E D A p R s m args meth c cL_isSorted 4 RL "isSorted" 8 132) (hQ : gQI E D A p l e R s m args below meth c Q cL_isSorted FieldType.int res) (hTab : c.exceptionTable.toList = tableOf [((0 : Nat), (16 : Nat), (19 : Nat), (19 : Nat))]) (hst : l.stackTraces = false) (hf : L_isSorted E l0 l1 l2 σ = some res) (hw : gW E D A s σ H locs) (hl : lv_has ls 4 [(0, .ref l0), (1, .int l1), (2, .ref l2)]) : W p l e R s m args below meth c H locs cells slots Q (F0 m 0 ls []) := by
  have hC0 := hC
  obtain ⟨hx, hb, hml, hown, hts, -⟩ := hC0
  unfold L_isSorted at hf
  refine lv_aload_n hx hb dL_isSorted_0 rfl (lv_at hl 2 rfl) ?_
  refine lv_iconst (v := 0) hx hb dL_isSorted_1 (by decide) ?_
  refine lv_aload_n hx hb dL_isSorted_2 rfl (lv_at hl 0 rfl) ?_
  refine lv_iload_n hx hb dL_isSorted_3 rfl (lv_at hl 1 rfl) ?_
  obtain ⟨_, h5, hf⟩ := ob_some hf
  obtain ⟨x3, h4, hf⟩ := ob_some hf
  refine gg_yVI (As := [.int l1]) hC hw (X12_isSorted_M l hst E D A h4) h5 rfl g_ml_L_58 hd_X12_isSorted (Nat.le_of_ble_eq_true rfl) (Nat.le_of_ble_eq_true rfl) hl.1 rfl (Nat.le_of_ble_eq_true rfl) dL_isSorted_4 (fun k9 σ9 he => ?_) (fun x7 σ6 he H locs cells slots hw => ?_)
  · subst he
    replace hf := gtry_inl.symm.trans hf
    by_cases c9 : k9 = 0
    · replace hf := (if_pos c9).symm.trans hf
      subst c9
      intro H locs cells slots q9 ce hw hce hv hcl
      refine gg_catch (k := 0) hC hTab [] (⟨0, 16, 19, 19⟩ : ExceptionTableEntry) [] rfl (fun z hz => nomatch hz) (by decide) (by decide) cl_L_19 (by decide) hce hv hcl ?_
      refine lv_astore_n (lv' := [(3, .ref q9), (0, .ref l0), (1, .int l1), (2, .ref l2)]) hx hb dL_isSorted_19 rfl hl (by decide) rfl (fun ls hl => ?_)
      refine lv_iconst (v := 1) hx hb dL_isSorted_20 (by decide) ?_
      cases hf
      exact hQ _ _ _ _ _ _ dL_isSorted_21 rfl hw
    · replace hf := (if_neg c9).symm.trans hf
      cases hf
  · subst he
    replace hf := gtry_inr.symm.trans hf
    refine lv_if_eq (tgt := 14) hx hb dL_isSorted_7 (by decide) (fun c8 => ?_) (fun c8 => ?_)
    · replace hf := (if_pos c8).symm.trans hf
      refine lv_lconst (v := 0) hx hb dL_isSorted_14 (by decide) ?_
      exact L_isSorted_15_W hC hQ hTab hst hf hw (lv_sub hl [] rfl)
    · replace hf := (if_neg c8).symm.trans hf
      refine lv_lconst (v := 1) hx hb dL_isSorted_10 (by decide) ?_
      refine lv_goto (tgt := 15) hx hb dL_isSorted_11 (by decide) ?_
      exact L_isSorted_15_W hC hQ hTab hst hf hw (lv_sub hl [] rfl)

def L_isSorted_f (E : gE) (l0 : Nat) (l1 : Int32) (l2 : Nat) (σ : gS) : Option (Int32 × gS) := L_isSorted E l0 l1 l2 σ
set_option maxRecDepth 100000 in
theorem L_isSorted_M (l : Launch) (hst : l.stackTraces = false) (E : gE) (D : va_G) (A : Nat → Prop) {l0 : Nat} {l1 : Int32} {l2 : Nat} {σ : gS} {res : (Int32 × gS)} (hf : L_isSorted_f E l0 l1 l2 σ = some res) : gYI l E D A yL_isSorted (Cond.codeWith yL_isSorted cL_isSorted 4 (some FieldType.int) [((0 : Nat), (16 : Nat), (19 : Nat), (19 : Nat))]) 8 132 [.ref l0, .int l1, .ref l2] σ (.inr res.1, res.2) := by
  refine gg_entHI (own := RL) (nm := "isSorted") (ty := FieldType.int) (by decide +kernel) rfl rfl (Nat.le_of_ble_eq_true rfl) rfl ?_
  intro p e R s m args below meth c Q ls hC hw hQ hTab hl
  replace hQ := hQ _ _ rfl
  have hl : lv_has ls 4 [(0, .ref l0), (1, .int l1), (2, .ref l2)] := hl
  exact L_isSorted_W hC hQ hTab hst hf hw hl

def L_conditionColumn (E : gE) (l0 : Nat) (l1 : Int32) (l2 : Nat) (σ : gS) : Option (Int32 × gS) :=
  ob (gcl σ l0 10) fun _ =>
  ob (X12_conditionColumn_f E l0 l1 σ) fun x1 =>
  gtry x1 (fun k9 σ9 =>
    if k9 = 0 then
      some ((1 : Int32), σ9)
    else
    none) (fun x5 σ4 =>
    ob (gwaJ E σ4 l2 (0 : Int32) x5.toInt64) fun σ6 =>
    some ((0 : Int32), σ6))
set_option maxHeartbeats 4000000 in
set_option maxRecDepth 100000 in
theorem L_conditionColumn_W {σ : gS} {l0 : Nat} {l1 : Int32} {l2 : Nat} {res : (Int32 × gS)} {ls : Array Slot} (hC : gC E D A p R s m args meth c cL_conditionColumn 4 RL "conditionColumn" 8 132) (hQ : gQI E D A p l e R s m args below meth c Q cL_conditionColumn FieldType.int res) (hTab : c.exceptionTable.toList = tableOf [((0 : Nat), (9 : Nat), (12 : Nat), (19 : Nat))]) (hst : l.stackTraces = false) (hf : L_conditionColumn E l0 l1 l2 σ = some res) (hw : gW E D A s σ H locs) (hl : lv_has ls 4 [(0, .ref l0), (1, .int l1), (2, .ref l2)]) : W p l e R s m args below meth c H locs cells slots Q (F0 m 0 ls []) := by
  have hC0 := hC
  obtain ⟨hx, hb, hml, hown, hts, -⟩ := hC0
  unfold L_conditionColumn at hf
  refine lv_aload_n hx hb dL_conditionColumn_0 rfl (lv_at hl 2 rfl) ?_
  refine lv_iconst (v := 0) hx hb dL_conditionColumn_1 (by decide) ?_
  refine lv_aload_n hx hb dL_conditionColumn_2 rfl (lv_at hl 0 rfl) ?_
  refine lv_iload_n hx hb dL_conditionColumn_3 rfl (lv_at hl 1 rfl) ?_
  obtain ⟨_, h3, hf⟩ := ob_some hf
  obtain ⟨x1, h2, hf⟩ := ob_some hf
  refine gg_yVI (As := [.int l1]) hC hw (X12_conditionColumn_M l hst E D A h2) h3 rfl g_ml_L_62 hd_X12_conditionColumn (Nat.le_of_ble_eq_true rfl) (Nat.le_of_ble_eq_true rfl) hl.1 rfl (Nat.le_of_ble_eq_true rfl) dL_conditionColumn_4 (fun k9 σ9 he => ?_) (fun x5 σ4 he H locs cells slots hw => ?_)
  · subst he
    replace hf := gtry_inl.symm.trans hf
    by_cases c8 : k9 = 0
    · replace hf := (if_pos c8).symm.trans hf
      subst c8
      intro H locs cells slots q9 ce hw hce hv hcl
      refine gg_catch (k := 0) hC hTab [] (⟨0, 9, 12, 19⟩ : ExceptionTableEntry) [] rfl (fun z hz => nomatch hz) (by decide) (by decide) cl_L_19 (by decide) hce hv hcl ?_
      refine lv_astore_n (lv' := [(3, .ref q9), (0, .ref l0), (1, .int l1), (2, .ref l2)]) hx hb dL_conditionColumn_12 rfl hl (by decide) rfl (fun ls hl => ?_)
      refine lv_iconst (v := 1) hx hb dL_conditionColumn_13 (by decide) ?_
      cases hf
      exact hQ _ _ _ _ _ _ dL_conditionColumn_14 rfl hw
    · replace hf := (if_neg c8).symm.trans hf
      cases hf
  · subst he
    replace hf := gtry_inr.symm.trans hf
    refine lv_i2l (v := x5.toInt64) hx hb dL_conditionColumn_7 rfl ?_
    obtain ⟨σ6, h7, hf⟩ := ob_some hf
    refine gg_astJ hC hw h7 dL_conditionColumn_8 (fun H locs hw => ?_)
    refine lv_goto (tgt := 15) hx hb dL_conditionColumn_9 (by decide) ?_
    refine lv_iconst (v := 0) hx hb dL_conditionColumn_15 (by decide) ?_
    cases hf
    exact hQ _ _ _ _ _ _ dL_conditionColumn_16 rfl hw

def L_conditionColumn_f (E : gE) (l0 : Nat) (l1 : Int32) (l2 : Nat) (σ : gS) : Option (Int32 × gS) := L_conditionColumn E l0 l1 l2 σ
set_option maxRecDepth 100000 in
theorem L_conditionColumn_M (l : Launch) (hst : l.stackTraces = false) (E : gE) (D : va_G) (A : Nat → Prop) {l0 : Nat} {l1 : Int32} {l2 : Nat} {σ : gS} {res : (Int32 × gS)} (hf : L_conditionColumn_f E l0 l1 l2 σ = some res) : gYI l E D A yL_conditionColumn (Cond.codeWith yL_conditionColumn cL_conditionColumn 4 (some FieldType.int) [((0 : Nat), (9 : Nat), (12 : Nat), (19 : Nat))]) 8 132 [.ref l0, .int l1, .ref l2] σ (.inr res.1, res.2) := by
  refine gg_entHI (own := RL) (nm := "conditionColumn") (ty := FieldType.int) (by decide +kernel) rfl rfl (Nat.le_of_ble_eq_true rfl) rfl ?_
  intro p e R s m args below meth c Q ls hC hw hQ hTab hl
  replace hQ := hQ _ _ rfl
  have hl : lv_has ls 4 [(0, .ref l0), (1, .int l1), (2, .ref l2)] := hl
  exact L_conditionColumn_W hC hQ hTab hst hf hw hl

def L_conditionValue (E : gE) (l0 : Nat) (l1 : Int32) (l2 : Nat) (σ : gS) : Option (Int32 × gS) :=
  ob (gcl σ l0 10) fun _ =>
  ob (X12_conditionValue_f E l0 l1 σ) fun x1 =>
  gtry x1 (fun k9 σ9 =>
    if k9 = 0 then
      some ((1 : Int32), σ9)
    else
    none) (fun x5 σ4 =>
    ob (gwaJ E σ4 l2 (0 : Int32) x5.toInt64) fun σ6 =>
    some ((0 : Int32), σ6))
set_option maxHeartbeats 4000000 in
set_option maxRecDepth 100000 in
theorem L_conditionValue_W {σ : gS} {l0 : Nat} {l1 : Int32} {l2 : Nat} {res : (Int32 × gS)} {ls : Array Slot} (hC : gC E D A p R s m args meth c cL_conditionValue 4 RL "conditionValue" 8 132) (hQ : gQI E D A p l e R s m args below meth c Q cL_conditionValue FieldType.int res) (hTab : c.exceptionTable.toList = tableOf [((0 : Nat), (9 : Nat), (12 : Nat), (19 : Nat))]) (hst : l.stackTraces = false) (hf : L_conditionValue E l0 l1 l2 σ = some res) (hw : gW E D A s σ H locs) (hl : lv_has ls 4 [(0, .ref l0), (1, .int l1), (2, .ref l2)]) : W p l e R s m args below meth c H locs cells slots Q (F0 m 0 ls []) := by
  have hC0 := hC
  obtain ⟨hx, hb, hml, hown, hts, -⟩ := hC0
  unfold L_conditionValue at hf
  refine lv_aload_n hx hb dL_conditionValue_0 rfl (lv_at hl 2 rfl) ?_
  refine lv_iconst (v := 0) hx hb dL_conditionValue_1 (by decide) ?_
  refine lv_aload_n hx hb dL_conditionValue_2 rfl (lv_at hl 0 rfl) ?_
  refine lv_iload_n hx hb dL_conditionValue_3 rfl (lv_at hl 1 rfl) ?_
  obtain ⟨_, h3, hf⟩ := ob_some hf
  obtain ⟨x1, h2, hf⟩ := ob_some hf
  refine gg_yVI (As := [.int l1]) hC hw (X12_conditionValue_M l hst E D A h2) h3 rfl g_ml_L_65 hd_X12_conditionValue (Nat.le_of_ble_eq_true rfl) (Nat.le_of_ble_eq_true rfl) hl.1 rfl (Nat.le_of_ble_eq_true rfl) dL_conditionValue_4 (fun k9 σ9 he => ?_) (fun x5 σ4 he H locs cells slots hw => ?_)
  · subst he
    replace hf := gtry_inl.symm.trans hf
    by_cases c8 : k9 = 0
    · replace hf := (if_pos c8).symm.trans hf
      subst c8
      intro H locs cells slots q9 ce hw hce hv hcl
      refine gg_catch (k := 0) hC hTab [] (⟨0, 9, 12, 19⟩ : ExceptionTableEntry) [] rfl (fun z hz => nomatch hz) (by decide) (by decide) cl_L_19 (by decide) hce hv hcl ?_
      refine lv_astore_n (lv' := [(3, .ref q9), (0, .ref l0), (1, .int l1), (2, .ref l2)]) hx hb dL_conditionValue_12 rfl hl (by decide) rfl (fun ls hl => ?_)
      refine lv_iconst (v := 1) hx hb dL_conditionValue_13 (by decide) ?_
      cases hf
      exact hQ _ _ _ _ _ _ dL_conditionValue_14 rfl hw
    · replace hf := (if_neg c8).symm.trans hf
      cases hf
  · subst he
    replace hf := gtry_inr.symm.trans hf
    refine lv_i2l (v := x5.toInt64) hx hb dL_conditionValue_7 rfl ?_
    obtain ⟨σ6, h7, hf⟩ := ob_some hf
    refine gg_astJ hC hw h7 dL_conditionValue_8 (fun H locs hw => ?_)
    refine lv_goto (tgt := 15) hx hb dL_conditionValue_9 (by decide) ?_
    refine lv_iconst (v := 0) hx hb dL_conditionValue_15 (by decide) ?_
    cases hf
    exact hQ _ _ _ _ _ _ dL_conditionValue_16 rfl hw

def L_conditionValue_f (E : gE) (l0 : Nat) (l1 : Int32) (l2 : Nat) (σ : gS) : Option (Int32 × gS) := L_conditionValue E l0 l1 l2 σ
set_option maxRecDepth 100000 in
theorem L_conditionValue_M (l : Launch) (hst : l.stackTraces = false) (E : gE) (D : va_G) (A : Nat → Prop) {l0 : Nat} {l1 : Int32} {l2 : Nat} {σ : gS} {res : (Int32 × gS)} (hf : L_conditionValue_f E l0 l1 l2 σ = some res) : gYI l E D A yL_conditionValue (Cond.codeWith yL_conditionValue cL_conditionValue 4 (some FieldType.int) [((0 : Nat), (9 : Nat), (12 : Nat), (19 : Nat))]) 8 132 [.ref l0, .int l1, .ref l2] σ (.inr res.1, res.2) := by
  refine gg_entHI (own := RL) (nm := "conditionValue") (ty := FieldType.int) (by decide +kernel) rfl rfl (Nat.le_of_ble_eq_true rfl) rfl ?_
  intro p e R s m args below meth c Q ls hC hw hQ hTab hl
  replace hQ := hQ _ _ rfl
  have hl : lv_has ls 4 [(0, .ref l0), (1, .int l1), (2, .ref l2)] := hl
  exact L_conditionValue_W hC hQ hTab hst hf hw hl

def L_conditionDirection (E : gE) (l0 : Nat) (l1 : Int32) (l2 : Nat) (σ : gS) : Option (Int32 × gS) :=
  ob (gcl σ l0 10) fun _ =>
  ob (X12_conditionDirection_f E l0 l1 σ) fun x1 =>
  gtry x1 (fun k9 σ9 =>
    if k9 = 0 then
      some ((1 : Int32), σ9)
    else
    none) (fun x5 σ4 =>
    ob (gwaJ E σ4 l2 (0 : Int32) x5.toInt64) fun σ6 =>
    some ((0 : Int32), σ6))
set_option maxHeartbeats 4000000 in
set_option maxRecDepth 100000 in
theorem L_conditionDirection_W {σ : gS} {l0 : Nat} {l1 : Int32} {l2 : Nat} {res : (Int32 × gS)} {ls : Array Slot} (hC : gC E D A p R s m args meth c cL_conditionDirection 4 RL "conditionDirection" 8 132) (hQ : gQI E D A p l e R s m args below meth c Q cL_conditionDirection FieldType.int res) (hTab : c.exceptionTable.toList = tableOf [((0 : Nat), (9 : Nat), (12 : Nat), (19 : Nat))]) (hst : l.stackTraces = false) (hf : L_conditionDirection E l0 l1 l2 σ = some res) (hw : gW E D A s σ H locs) (hl : lv_has ls 4 [(0, .ref l0), (1, .int l1), (2, .ref l2)]) : W p l e R s m args below meth c H locs cells slots Q (F0 m 0 ls []) := by
  have hC0 := hC
  obtain ⟨hx, hb, hml, hown, hts, -⟩ := hC0
  unfold L_conditionDirection at hf
  refine lv_aload_n hx hb dL_conditionDirection_0 rfl (lv_at hl 2 rfl) ?_
  refine lv_iconst (v := 0) hx hb dL_conditionDirection_1 (by decide) ?_
  refine lv_aload_n hx hb dL_conditionDirection_2 rfl (lv_at hl 0 rfl) ?_
  refine lv_iload_n hx hb dL_conditionDirection_3 rfl (lv_at hl 1 rfl) ?_
  obtain ⟨_, h3, hf⟩ := ob_some hf
  obtain ⟨x1, h2, hf⟩ := ob_some hf
  refine gg_yVI (As := [.int l1]) hC hw (X12_conditionDirection_M l hst E D A h2) h3 rfl g_ml_L_68 hd_X12_conditionDirection (Nat.le_of_ble_eq_true rfl) (Nat.le_of_ble_eq_true rfl) hl.1 rfl (Nat.le_of_ble_eq_true rfl) dL_conditionDirection_4 (fun k9 σ9 he => ?_) (fun x5 σ4 he H locs cells slots hw => ?_)
  · subst he
    replace hf := gtry_inl.symm.trans hf
    by_cases c8 : k9 = 0
    · replace hf := (if_pos c8).symm.trans hf
      subst c8
      intro H locs cells slots q9 ce hw hce hv hcl
      refine gg_catch (k := 0) hC hTab [] (⟨0, 9, 12, 19⟩ : ExceptionTableEntry) [] rfl (fun z hz => nomatch hz) (by decide) (by decide) cl_L_19 (by decide) hce hv hcl ?_
      refine lv_astore_n (lv' := [(3, .ref q9), (0, .ref l0), (1, .int l1), (2, .ref l2)]) hx hb dL_conditionDirection_12 rfl hl (by decide) rfl (fun ls hl => ?_)
      refine lv_iconst (v := 1) hx hb dL_conditionDirection_13 (by decide) ?_
      cases hf
      exact hQ _ _ _ _ _ _ dL_conditionDirection_14 rfl hw
    · replace hf := (if_neg c8).symm.trans hf
      cases hf
  · subst he
    replace hf := gtry_inr.symm.trans hf
    refine lv_i2l (v := x5.toInt64) hx hb dL_conditionDirection_7 rfl ?_
    obtain ⟨σ6, h7, hf⟩ := ob_some hf
    refine gg_astJ hC hw h7 dL_conditionDirection_8 (fun H locs hw => ?_)
    refine lv_goto (tgt := 15) hx hb dL_conditionDirection_9 (by decide) ?_
    refine lv_iconst (v := 0) hx hb dL_conditionDirection_15 (by decide) ?_
    cases hf
    exact hQ _ _ _ _ _ _ dL_conditionDirection_16 rfl hw

def L_conditionDirection_f (E : gE) (l0 : Nat) (l1 : Int32) (l2 : Nat) (σ : gS) : Option (Int32 × gS) := L_conditionDirection E l0 l1 l2 σ
set_option maxRecDepth 100000 in
theorem L_conditionDirection_M (l : Launch) (hst : l.stackTraces = false) (E : gE) (D : va_G) (A : Nat → Prop) {l0 : Nat} {l1 : Int32} {l2 : Nat} {σ : gS} {res : (Int32 × gS)} (hf : L_conditionDirection_f E l0 l1 l2 σ = some res) : gYI l E D A yL_conditionDirection (Cond.codeWith yL_conditionDirection cL_conditionDirection 4 (some FieldType.int) [((0 : Nat), (9 : Nat), (12 : Nat), (19 : Nat))]) 8 132 [.ref l0, .int l1, .ref l2] σ (.inr res.1, res.2) := by
  refine gg_entHI (own := RL) (nm := "conditionDirection") (ty := FieldType.int) (by decide +kernel) rfl rfl (Nat.le_of_ble_eq_true rfl) rfl ?_
  intro p e R s m args below meth c Q ls hC hw hQ hTab hl
  replace hQ := hQ _ _ rfl
  have hl : lv_has ls 4 [(0, .ref l0), (1, .int l1), (2, .ref l2)] := hl
  exact L_conditionDirection_W hC hQ hTab hst hf hw hl

def L_lowerCode (E : gE) (l0 : Nat) (l1 : Int32) (l2 : Nat) (σ : gS) : Option (Int32 × gS) :=
  ob (gcl σ l0 10) fun _ =>
  ob (X12_lowerCode_f E l0 l1 σ) fun x1 =>
  gtry x1 (fun k9 σ9 =>
    if k9 = 0 then
      some ((1 : Int32), σ9)
    else
    none) (fun x5 σ4 =>
    ob (gwaJ E σ4 l2 (0 : Int32) x5.toInt64) fun σ6 =>
    some ((0 : Int32), σ6))
set_option maxHeartbeats 4000000 in
set_option maxRecDepth 100000 in
theorem L_lowerCode_W {σ : gS} {l0 : Nat} {l1 : Int32} {l2 : Nat} {res : (Int32 × gS)} {ls : Array Slot} (hC : gC E D A p R s m args meth c cL_lowerCode 4 RL "lowerCode" 8 132) (hQ : gQI E D A p l e R s m args below meth c Q cL_lowerCode FieldType.int res) (hTab : c.exceptionTable.toList = tableOf [((0 : Nat), (9 : Nat), (12 : Nat), (19 : Nat))]) (hst : l.stackTraces = false) (hf : L_lowerCode E l0 l1 l2 σ = some res) (hw : gW E D A s σ H locs) (hl : lv_has ls 4 [(0, .ref l0), (1, .int l1), (2, .ref l2)]) : W p l e R s m args below meth c H locs cells slots Q (F0 m 0 ls []) := by
  have hC0 := hC
  obtain ⟨hx, hb, hml, hown, hts, -⟩ := hC0
  unfold L_lowerCode at hf
  refine lv_aload_n hx hb dL_lowerCode_0 rfl (lv_at hl 2 rfl) ?_
  refine lv_iconst (v := 0) hx hb dL_lowerCode_1 (by decide) ?_
  refine lv_aload_n hx hb dL_lowerCode_2 rfl (lv_at hl 0 rfl) ?_
  refine lv_iload_n hx hb dL_lowerCode_3 rfl (lv_at hl 1 rfl) ?_
  obtain ⟨_, h3, hf⟩ := ob_some hf
  obtain ⟨x1, h2, hf⟩ := ob_some hf
  refine gg_yVI (As := [.int l1]) hC hw (X12_lowerCode_M l hst E D A h2) h3 rfl g_ml_L_71 hd_X12_lowerCode (Nat.le_of_ble_eq_true rfl) (Nat.le_of_ble_eq_true rfl) hl.1 rfl (Nat.le_of_ble_eq_true rfl) dL_lowerCode_4 (fun k9 σ9 he => ?_) (fun x5 σ4 he H locs cells slots hw => ?_)
  · subst he
    replace hf := gtry_inl.symm.trans hf
    by_cases c8 : k9 = 0
    · replace hf := (if_pos c8).symm.trans hf
      subst c8
      intro H locs cells slots q9 ce hw hce hv hcl
      refine gg_catch (k := 0) hC hTab [] (⟨0, 9, 12, 19⟩ : ExceptionTableEntry) [] rfl (fun z hz => nomatch hz) (by decide) (by decide) cl_L_19 (by decide) hce hv hcl ?_
      refine lv_astore_n (lv' := [(3, .ref q9), (0, .ref l0), (1, .int l1), (2, .ref l2)]) hx hb dL_lowerCode_12 rfl hl (by decide) rfl (fun ls hl => ?_)
      refine lv_iconst (v := 1) hx hb dL_lowerCode_13 (by decide) ?_
      cases hf
      exact hQ _ _ _ _ _ _ dL_lowerCode_14 rfl hw
    · replace hf := (if_neg c8).symm.trans hf
      cases hf
  · subst he
    replace hf := gtry_inr.symm.trans hf
    refine lv_i2l (v := x5.toInt64) hx hb dL_lowerCode_7 rfl ?_
    obtain ⟨σ6, h7, hf⟩ := ob_some hf
    refine gg_astJ hC hw h7 dL_lowerCode_8 (fun H locs hw => ?_)
    refine lv_goto (tgt := 15) hx hb dL_lowerCode_9 (by decide) ?_
    refine lv_iconst (v := 0) hx hb dL_lowerCode_15 (by decide) ?_
    cases hf
    exact hQ _ _ _ _ _ _ dL_lowerCode_16 rfl hw

def L_lowerCode_f (E : gE) (l0 : Nat) (l1 : Int32) (l2 : Nat) (σ : gS) : Option (Int32 × gS) := L_lowerCode E l0 l1 l2 σ
set_option maxRecDepth 100000 in
theorem L_lowerCode_M (l : Launch) (hst : l.stackTraces = false) (E : gE) (D : va_G) (A : Nat → Prop) {l0 : Nat} {l1 : Int32} {l2 : Nat} {σ : gS} {res : (Int32 × gS)} (hf : L_lowerCode_f E l0 l1 l2 σ = some res) : gYI l E D A yL_lowerCode (Cond.codeWith yL_lowerCode cL_lowerCode 4 (some FieldType.int) [((0 : Nat), (9 : Nat), (12 : Nat), (19 : Nat))]) 8 132 [.ref l0, .int l1, .ref l2] σ (.inr res.1, res.2) := by
  refine gg_entHI (own := RL) (nm := "lowerCode") (ty := FieldType.int) (by decide +kernel) rfl rfl (Nat.le_of_ble_eq_true rfl) rfl ?_
  intro p e R s m args below meth c Q ls hC hw hQ hTab hl
  replace hQ := hQ _ _ rfl
  have hl : lv_has ls 4 [(0, .ref l0), (1, .int l1), (2, .ref l2)] := hl
  exact L_lowerCode_W hC hQ hTab hst hf hw hl

def L_upperCode (E : gE) (l0 : Nat) (l1 : Int32) (l2 : Nat) (σ : gS) : Option (Int32 × gS) :=
  ob (gcl σ l0 10) fun _ =>
  ob (X12_upperCode_f E l0 l1 σ) fun x1 =>
  gtry x1 (fun k9 σ9 =>
    if k9 = 0 then
      some ((1 : Int32), σ9)
    else
    none) (fun x5 σ4 =>
    ob (gwaJ E σ4 l2 (0 : Int32) x5.toInt64) fun σ6 =>
    some ((0 : Int32), σ6))
set_option maxHeartbeats 4000000 in
set_option maxRecDepth 100000 in
theorem L_upperCode_W {σ : gS} {l0 : Nat} {l1 : Int32} {l2 : Nat} {res : (Int32 × gS)} {ls : Array Slot} (hC : gC E D A p R s m args meth c cL_upperCode 4 RL "upperCode" 8 132) (hQ : gQI E D A p l e R s m args below meth c Q cL_upperCode FieldType.int res) (hTab : c.exceptionTable.toList = tableOf [((0 : Nat), (9 : Nat), (12 : Nat), (19 : Nat))]) (hst : l.stackTraces = false) (hf : L_upperCode E l0 l1 l2 σ = some res) (hw : gW E D A s σ H locs) (hl : lv_has ls 4 [(0, .ref l0), (1, .int l1), (2, .ref l2)]) : W p l e R s m args below meth c H locs cells slots Q (F0 m 0 ls []) := by
  have hC0 := hC
  obtain ⟨hx, hb, hml, hown, hts, -⟩ := hC0
  unfold L_upperCode at hf
  refine lv_aload_n hx hb dL_upperCode_0 rfl (lv_at hl 2 rfl) ?_
  refine lv_iconst (v := 0) hx hb dL_upperCode_1 (by decide) ?_
  refine lv_aload_n hx hb dL_upperCode_2 rfl (lv_at hl 0 rfl) ?_
  refine lv_iload_n hx hb dL_upperCode_3 rfl (lv_at hl 1 rfl) ?_
  obtain ⟨_, h3, hf⟩ := ob_some hf
  obtain ⟨x1, h2, hf⟩ := ob_some hf
  refine gg_yVI (As := [.int l1]) hC hw (X12_upperCode_M l hst E D A h2) h3 rfl g_ml_L_74 hd_X12_upperCode (Nat.le_of_ble_eq_true rfl) (Nat.le_of_ble_eq_true rfl) hl.1 rfl (Nat.le_of_ble_eq_true rfl) dL_upperCode_4 (fun k9 σ9 he => ?_) (fun x5 σ4 he H locs cells slots hw => ?_)
  · subst he
    replace hf := gtry_inl.symm.trans hf
    by_cases c8 : k9 = 0
    · replace hf := (if_pos c8).symm.trans hf
      subst c8
      intro H locs cells slots q9 ce hw hce hv hcl
      refine gg_catch (k := 0) hC hTab [] (⟨0, 9, 12, 19⟩ : ExceptionTableEntry) [] rfl (fun z hz => nomatch hz) (by decide) (by decide) cl_L_19 (by decide) hce hv hcl ?_
      refine lv_astore_n (lv' := [(3, .ref q9), (0, .ref l0), (1, .int l1), (2, .ref l2)]) hx hb dL_upperCode_12 rfl hl (by decide) rfl (fun ls hl => ?_)
      refine lv_iconst (v := 1) hx hb dL_upperCode_13 (by decide) ?_
      cases hf
      exact hQ _ _ _ _ _ _ dL_upperCode_14 rfl hw
    · replace hf := (if_neg c8).symm.trans hf
      cases hf
  · subst he
    replace hf := gtry_inr.symm.trans hf
    refine lv_i2l (v := x5.toInt64) hx hb dL_upperCode_7 rfl ?_
    obtain ⟨σ6, h7, hf⟩ := ob_some hf
    refine gg_astJ hC hw h7 dL_upperCode_8 (fun H locs hw => ?_)
    refine lv_goto (tgt := 15) hx hb dL_upperCode_9 (by decide) ?_
    refine lv_iconst (v := 0) hx hb dL_upperCode_15 (by decide) ?_
    cases hf
    exact hQ _ _ _ _ _ _ dL_upperCode_16 rfl hw

def L_upperCode_f (E : gE) (l0 : Nat) (l1 : Int32) (l2 : Nat) (σ : gS) : Option (Int32 × gS) := L_upperCode E l0 l1 l2 σ
set_option maxRecDepth 100000 in
theorem L_upperCode_M (l : Launch) (hst : l.stackTraces = false) (E : gE) (D : va_G) (A : Nat → Prop) {l0 : Nat} {l1 : Int32} {l2 : Nat} {σ : gS} {res : (Int32 × gS)} (hf : L_upperCode_f E l0 l1 l2 σ = some res) : gYI l E D A yL_upperCode (Cond.codeWith yL_upperCode cL_upperCode 4 (some FieldType.int) [((0 : Nat), (9 : Nat), (12 : Nat), (19 : Nat))]) 8 132 [.ref l0, .int l1, .ref l2] σ (.inr res.1, res.2) := by
  refine gg_entHI (own := RL) (nm := "upperCode") (ty := FieldType.int) (by decide +kernel) rfl rfl (Nat.le_of_ble_eq_true rfl) rfl ?_
  intro p e R s m args below meth c Q ls hC hw hQ hTab hl
  replace hQ := hQ _ _ rfl
  have hl : lv_has ls 4 [(0, .ref l0), (1, .int l1), (2, .ref l2)] := hl
  exact L_upperCode_W hC hQ hTab hst hf hw hl

def L_matches (E : gE) (l0 : Nat) (l1 : Int32) (l2 : Nat) (σ : gS) : Option (Int32 × gS) :=
  ob (gcl σ l0 10) fun _ =>
  ob (X12_matches_f E l0 l1 σ) fun x1 =>
  gtry x1 (fun k9 σ9 =>
    if k9 = 0 then
      some ((1 : Int32), σ9)
    else
    none) (fun x5 σ4 =>
    ob (gwaJ E σ4 l2 (0 : Int32) x5.toInt64) fun σ6 =>
    some ((0 : Int32), σ6))
set_option maxHeartbeats 4000000 in
set_option maxRecDepth 100000 in
theorem L_matches_W {σ : gS} {l0 : Nat} {l1 : Int32} {l2 : Nat} {res : (Int32 × gS)} {ls : Array Slot} (hC : gC E D A p R s m args meth c cL_matches 4 RL "matches" 8 132) (hQ : gQI E D A p l e R s m args below meth c Q cL_matches FieldType.int res) (hTab : c.exceptionTable.toList = tableOf [((0 : Nat), (9 : Nat), (12 : Nat), (19 : Nat))]) (hst : l.stackTraces = false) (hf : L_matches E l0 l1 l2 σ = some res) (hw : gW E D A s σ H locs) (hl : lv_has ls 4 [(0, .ref l0), (1, .int l1), (2, .ref l2)]) : W p l e R s m args below meth c H locs cells slots Q (F0 m 0 ls []) := by
  have hC0 := hC
  obtain ⟨hx, hb, hml, hown, hts, -⟩ := hC0
  unfold L_matches at hf
  refine lv_aload_n hx hb dL_matches_0 rfl (lv_at hl 2 rfl) ?_
  refine lv_iconst (v := 0) hx hb dL_matches_1 (by decide) ?_
  refine lv_aload_n hx hb dL_matches_2 rfl (lv_at hl 0 rfl) ?_
  refine lv_iload_n hx hb dL_matches_3 rfl (lv_at hl 1 rfl) ?_
  obtain ⟨_, h3, hf⟩ := ob_some hf
  obtain ⟨x1, h2, hf⟩ := ob_some hf
  refine gg_yVI (As := [.int l1]) hC hw (X12_matches_M l hst E D A h2) h3 rfl g_ml_L_77 hd_X12_matches (Nat.le_of_ble_eq_true rfl) (Nat.le_of_ble_eq_true rfl) hl.1 rfl (Nat.le_of_ble_eq_true rfl) dL_matches_4 (fun k9 σ9 he => ?_) (fun x5 σ4 he H locs cells slots hw => ?_)
  · subst he
    replace hf := gtry_inl.symm.trans hf
    by_cases c8 : k9 = 0
    · replace hf := (if_pos c8).symm.trans hf
      subst c8
      intro H locs cells slots q9 ce hw hce hv hcl
      refine gg_catch (k := 0) hC hTab [] (⟨0, 9, 12, 19⟩ : ExceptionTableEntry) [] rfl (fun z hz => nomatch hz) (by decide) (by decide) cl_L_19 (by decide) hce hv hcl ?_
      refine lv_astore_n (lv' := [(3, .ref q9), (0, .ref l0), (1, .int l1), (2, .ref l2)]) hx hb dL_matches_12 rfl hl (by decide) rfl (fun ls hl => ?_)
      refine lv_iconst (v := 1) hx hb dL_matches_13 (by decide) ?_
      cases hf
      exact hQ _ _ _ _ _ _ dL_matches_14 rfl hw
    · replace hf := (if_neg c8).symm.trans hf
      cases hf
  · subst he
    replace hf := gtry_inr.symm.trans hf
    refine lv_i2l (v := x5.toInt64) hx hb dL_matches_7 rfl ?_
    obtain ⟨σ6, h7, hf⟩ := ob_some hf
    refine gg_astJ hC hw h7 dL_matches_8 (fun H locs hw => ?_)
    refine lv_goto (tgt := 15) hx hb dL_matches_9 (by decide) ?_
    refine lv_iconst (v := 0) hx hb dL_matches_15 (by decide) ?_
    cases hf
    exact hQ _ _ _ _ _ _ dL_matches_16 rfl hw

def L_matches_f (E : gE) (l0 : Nat) (l1 : Int32) (l2 : Nat) (σ : gS) : Option (Int32 × gS) := L_matches E l0 l1 l2 σ
set_option maxRecDepth 100000 in
theorem L_matches_M (l : Launch) (hst : l.stackTraces = false) (E : gE) (D : va_G) (A : Nat → Prop) {l0 : Nat} {l1 : Int32} {l2 : Nat} {σ : gS} {res : (Int32 × gS)} (hf : L_matches_f E l0 l1 l2 σ = some res) : gYI l E D A yL_matches (Cond.codeWith yL_matches cL_matches 4 (some FieldType.int) [((0 : Nat), (9 : Nat), (12 : Nat), (19 : Nat))]) 8 132 [.ref l0, .int l1, .ref l2] σ (.inr res.1, res.2) := by
  refine gg_entHI (own := RL) (nm := "matches") (ty := FieldType.int) (by decide +kernel) rfl rfl (Nat.le_of_ble_eq_true rfl) rfl ?_
  intro p e R s m args below meth c Q ls hC hw hQ hTab hl
  replace hQ := hQ _ _ rfl
  have hl : lv_has ls 4 [(0, .ref l0), (1, .int l1), (2, .ref l2)] := hl
  exact L_matches_W hC hQ hTab hst hf hw hl

def L_isSelected_15 (E : gE) (s0 : Int64) (s1 : Int32) (s2 : Nat) (σ : gS) : Option (Int32 × gS) :=
  ob (gwaJ E σ s2 s1 s0) fun σ1 =>
  some ((0 : Int32), σ1)
set_option maxHeartbeats 4000000 in
set_option maxRecDepth 100000 in
theorem L_isSelected_15_W {σ : gS} {s0 : Int64} {s1 : Int32} {s2 : Nat} {res : (Int32 × gS)} {ls : Array Slot} (hC : gC E D A p R s m args meth c cL_isSelected 4 RL "isSelected" 8 132) (hQ : gQI E D A p l e R s m args below meth c Q cL_isSelected FieldType.int res) (hTab : c.exceptionTable.toList = tableOf [((0 : Nat), (16 : Nat), (19 : Nat), (19 : Nat))]) (hst : l.stackTraces = false) (hf : L_isSelected_15 E s0 s1 s2 σ = some res) (hw : gW E D A s σ H locs) (hl : lv_has ls 4 []) : W p l e R s m args below meth c H locs cells slots Q (F0 m 15 ls [.long s0, .int s1, .ref s2]) := by
  have hC0 := hC
  obtain ⟨hx, hb, hml, hown, hts, -⟩ := hC0
  unfold L_isSelected_15 at hf
  obtain ⟨σ1, h2, hf⟩ := ob_some hf
  refine gg_astJ hC hw h2 dL_isSelected_15 (fun H locs hw => ?_)
  refine lv_goto (tgt := 22) hx hb dL_isSelected_16 (by decide) ?_
  refine lv_iconst (v := 0) hx hb dL_isSelected_22 (by decide) ?_
  cases hf
  exact hQ _ _ _ _ _ _ dL_isSelected_23 rfl hw

def L_isSelected (E : gE) (l0 : Nat) (l1 : Int32) (l2 : Nat) (σ : gS) : Option (Int32 × gS) :=
  ob (gcl σ l0 10) fun _ =>
  ob (X12_isSelected_f E l0 l1 σ) fun x3 =>
  gtry x3 (fun k9 σ9 =>
    if k9 = 0 then
      some ((1 : Int32), σ9)
    else
    none) (fun x7 σ6 =>
    if x7 = 0 then
      L_isSelected_15 E (0 : Int64) (0 : Int32) l2 σ6
    else
      L_isSelected_15 E (1 : Int64) (0 : Int32) l2 σ6)
set_option maxHeartbeats 4000000 in
set_option maxRecDepth 100000 in
theorem L_isSelected_W {σ : gS} {l0 : Nat} {l1 : Int32} {l2 : Nat} {res : (Int32 × gS)} {ls : Array Slot} (hC : gC E D A p R s m args meth c cL_isSelected 4 RL "isSelected" 8 132) (hQ : gQI E D A p l e R s m args below meth c Q cL_isSelected FieldType.int res) (hTab : c.exceptionTable.toList = tableOf [((0 : Nat), (16 : Nat), (19 : Nat), (19 : Nat))]) (hst : l.stackTraces = false) (hf : L_isSelected E l0 l1 l2 σ = some res) (hw : gW E D A s σ H locs) (hl : lv_has ls 4 [(0, .ref l0), (1, .int l1), (2, .ref l2)]) : W p l e R s m args below meth c H locs cells slots Q (F0 m 0 ls []) := by
  have hC0 := hC
  obtain ⟨hx, hb, hml, hown, hts, -⟩ := hC0
  unfold L_isSelected at hf
  refine lv_aload_n hx hb dL_isSelected_0 rfl (lv_at hl 2 rfl) ?_
  refine lv_iconst (v := 0) hx hb dL_isSelected_1 (by decide) ?_
  refine lv_aload_n hx hb dL_isSelected_2 rfl (lv_at hl 0 rfl) ?_
  refine lv_iload_n hx hb dL_isSelected_3 rfl (lv_at hl 1 rfl) ?_
  obtain ⟨_, h5, hf⟩ := ob_some hf
  obtain ⟨x3, h4, hf⟩ := ob_some hf
  refine gg_yVI (As := [.int l1]) hC hw (X12_isSelected_M l hst E D A h4) h5 rfl g_ml_L_80 hd_X12_isSelected (Nat.le_of_ble_eq_true rfl) (Nat.le_of_ble_eq_true rfl) hl.1 rfl (Nat.le_of_ble_eq_true rfl) dL_isSelected_4 (fun k9 σ9 he => ?_) (fun x7 σ6 he H locs cells slots hw => ?_)
  · subst he
    replace hf := gtry_inl.symm.trans hf
    by_cases c9 : k9 = 0
    · replace hf := (if_pos c9).symm.trans hf
      subst c9
      intro H locs cells slots q9 ce hw hce hv hcl
      refine gg_catch (k := 0) hC hTab [] (⟨0, 16, 19, 19⟩ : ExceptionTableEntry) [] rfl (fun z hz => nomatch hz) (by decide) (by decide) cl_L_19 (by decide) hce hv hcl ?_
      refine lv_astore_n (lv' := [(3, .ref q9), (0, .ref l0), (1, .int l1), (2, .ref l2)]) hx hb dL_isSelected_19 rfl hl (by decide) rfl (fun ls hl => ?_)
      refine lv_iconst (v := 1) hx hb dL_isSelected_20 (by decide) ?_
      cases hf
      exact hQ _ _ _ _ _ _ dL_isSelected_21 rfl hw
    · replace hf := (if_neg c9).symm.trans hf
      cases hf
  · subst he
    replace hf := gtry_inr.symm.trans hf
    refine lv_if_eq (tgt := 14) hx hb dL_isSelected_7 (by decide) (fun c8 => ?_) (fun c8 => ?_)
    · replace hf := (if_pos c8).symm.trans hf
      refine lv_lconst (v := 0) hx hb dL_isSelected_14 (by decide) ?_
      exact L_isSelected_15_W hC hQ hTab hst hf hw (lv_sub hl [] rfl)
    · replace hf := (if_neg c8).symm.trans hf
      refine lv_lconst (v := 1) hx hb dL_isSelected_10 (by decide) ?_
      refine lv_goto (tgt := 15) hx hb dL_isSelected_11 (by decide) ?_
      exact L_isSelected_15_W hC hQ hTab hst hf hw (lv_sub hl [] rfl)

def L_isSelected_f (E : gE) (l0 : Nat) (l1 : Int32) (l2 : Nat) (σ : gS) : Option (Int32 × gS) := L_isSelected E l0 l1 l2 σ
set_option maxRecDepth 100000 in
theorem L_isSelected_M (l : Launch) (hst : l.stackTraces = false) (E : gE) (D : va_G) (A : Nat → Prop) {l0 : Nat} {l1 : Int32} {l2 : Nat} {σ : gS} {res : (Int32 × gS)} (hf : L_isSelected_f E l0 l1 l2 σ = some res) : gYI l E D A yL_isSelected (Cond.codeWith yL_isSelected cL_isSelected 4 (some FieldType.int) [((0 : Nat), (16 : Nat), (19 : Nat), (19 : Nat))]) 8 132 [.ref l0, .int l1, .ref l2] σ (.inr res.1, res.2) := by
  refine gg_entHI (own := RL) (nm := "isSelected") (ty := FieldType.int) (by decide +kernel) rfl rfl (Nat.le_of_ble_eq_true rfl) rfl ?_
  intro p e R s m args below meth c Q ls hC hw hQ hTab hl
  replace hQ := hQ _ _ rfl
  have hl : lv_has ls 4 [(0, .ref l0), (1, .int l1), (2, .ref l2)] := hl
  exact L_isSelected_W hC hQ hTab hst hf hw hl

def L_rejectedBy (E : gE) (l0 : Nat) (l1 : Int32) (l2 : Nat) (σ : gS) : Option (Int32 × gS) :=
  ob (gcl σ l0 10) fun _ =>
  ob (X12_rejectedBy_f E l0 l1 σ) fun x1 =>
  gtry x1 (fun k9 σ9 =>
    if k9 = 0 then
      some ((1 : Int32), σ9)
    else
    none) (fun x5 σ4 =>
    ob (gwaJ E σ4 l2 (0 : Int32) x5.toInt64) fun σ6 =>
    some ((0 : Int32), σ6))
set_option maxHeartbeats 4000000 in
set_option maxRecDepth 100000 in
theorem L_rejectedBy_W {σ : gS} {l0 : Nat} {l1 : Int32} {l2 : Nat} {res : (Int32 × gS)} {ls : Array Slot} (hC : gC E D A p R s m args meth c cL_rejectedBy 4 RL "rejectedBy" 8 132) (hQ : gQI E D A p l e R s m args below meth c Q cL_rejectedBy FieldType.int res) (hTab : c.exceptionTable.toList = tableOf [((0 : Nat), (9 : Nat), (12 : Nat), (19 : Nat))]) (hst : l.stackTraces = false) (hf : L_rejectedBy E l0 l1 l2 σ = some res) (hw : gW E D A s σ H locs) (hl : lv_has ls 4 [(0, .ref l0), (1, .int l1), (2, .ref l2)]) : W p l e R s m args below meth c H locs cells slots Q (F0 m 0 ls []) := by
  have hC0 := hC
  obtain ⟨hx, hb, hml, hown, hts, -⟩ := hC0
  unfold L_rejectedBy at hf
  refine lv_aload_n hx hb dL_rejectedBy_0 rfl (lv_at hl 2 rfl) ?_
  refine lv_iconst (v := 0) hx hb dL_rejectedBy_1 (by decide) ?_
  refine lv_aload_n hx hb dL_rejectedBy_2 rfl (lv_at hl 0 rfl) ?_
  refine lv_iload_n hx hb dL_rejectedBy_3 rfl (lv_at hl 1 rfl) ?_
  obtain ⟨_, h3, hf⟩ := ob_some hf
  obtain ⟨x1, h2, hf⟩ := ob_some hf
  refine gg_yVI (As := [.int l1]) hC hw (X12_rejectedBy_M l hst E D A h2) h3 rfl g_ml_L_83 hd_X12_rejectedBy (Nat.le_of_ble_eq_true rfl) (Nat.le_of_ble_eq_true rfl) hl.1 rfl (Nat.le_of_ble_eq_true rfl) dL_rejectedBy_4 (fun k9 σ9 he => ?_) (fun x5 σ4 he H locs cells slots hw => ?_)
  · subst he
    replace hf := gtry_inl.symm.trans hf
    by_cases c8 : k9 = 0
    · replace hf := (if_pos c8).symm.trans hf
      subst c8
      intro H locs cells slots q9 ce hw hce hv hcl
      refine gg_catch (k := 0) hC hTab [] (⟨0, 9, 12, 19⟩ : ExceptionTableEntry) [] rfl (fun z hz => nomatch hz) (by decide) (by decide) cl_L_19 (by decide) hce hv hcl ?_
      refine lv_astore_n (lv' := [(3, .ref q9), (0, .ref l0), (1, .int l1), (2, .ref l2)]) hx hb dL_rejectedBy_12 rfl hl (by decide) rfl (fun ls hl => ?_)
      refine lv_iconst (v := 1) hx hb dL_rejectedBy_13 (by decide) ?_
      cases hf
      exact hQ _ _ _ _ _ _ dL_rejectedBy_14 rfl hw
    · replace hf := (if_neg c8).symm.trans hf
      cases hf
  · subst he
    replace hf := gtry_inr.symm.trans hf
    refine lv_i2l (v := x5.toInt64) hx hb dL_rejectedBy_7 rfl ?_
    obtain ⟨σ6, h7, hf⟩ := ob_some hf
    refine gg_astJ hC hw h7 dL_rejectedBy_8 (fun H locs hw => ?_)
    refine lv_goto (tgt := 15) hx hb dL_rejectedBy_9 (by decide) ?_
    refine lv_iconst (v := 0) hx hb dL_rejectedBy_15 (by decide) ?_
    cases hf
    exact hQ _ _ _ _ _ _ dL_rejectedBy_16 rfl hw

def L_rejectedBy_f (E : gE) (l0 : Nat) (l1 : Int32) (l2 : Nat) (σ : gS) : Option (Int32 × gS) := L_rejectedBy E l0 l1 l2 σ
set_option maxRecDepth 100000 in
theorem L_rejectedBy_M (l : Launch) (hst : l.stackTraces = false) (E : gE) (D : va_G) (A : Nat → Prop) {l0 : Nat} {l1 : Int32} {l2 : Nat} {σ : gS} {res : (Int32 × gS)} (hf : L_rejectedBy_f E l0 l1 l2 σ = some res) : gYI l E D A yL_rejectedBy (Cond.codeWith yL_rejectedBy cL_rejectedBy 4 (some FieldType.int) [((0 : Nat), (9 : Nat), (12 : Nat), (19 : Nat))]) 8 132 [.ref l0, .int l1, .ref l2] σ (.inr res.1, res.2) := by
  refine gg_entHI (own := RL) (nm := "rejectedBy") (ty := FieldType.int) (by decide +kernel) rfl rfl (Nat.le_of_ble_eq_true rfl) rfl ?_
  intro p e R s m args below meth c Q ls hC hw hQ hTab hl
  replace hQ := hQ _ _ rfl
  have hl : lv_has ls 4 [(0, .ref l0), (1, .int l1), (2, .ref l2)] := hl
  exact L_rejectedBy_W hC hQ hTab hst hf hw hl

def L_bitWidthWith (E : gE) (l0 : Nat) (l1 : Int32) (l2 : Int32) (l3 : Nat) (σ : gS) : Option (Int32 × gS) :=
  ob (gcl σ l0 10) fun _ =>
  ob (X12_bitWidthWith_f E l0 l1 l2 σ) fun x1 =>
  gtry x1 (fun k9 σ9 =>
    if k9 = 0 then
      some ((1 : Int32), σ9)
    else
    if k9 = 1 then
      some ((2 : Int32), σ9)
    else
    none) (fun x5 σ4 =>
    ob (gwaJ E σ4 l3 (0 : Int32) x5.toInt64) fun σ6 =>
    some ((0 : Int32), σ6))
set_option maxHeartbeats 4000000 in
set_option maxRecDepth 100000 in
theorem L_bitWidthWith_W {σ : gS} {l0 : Nat} {l1 : Int32} {l2 : Int32} {l3 : Nat} {res : (Int32 × gS)} {ls : Array Slot} (hC : gC E D A p R s m args meth c cL_bitWidthWith 5 RL "bitWidthWith" 8 134) (hQ : gQI E D A p l e R s m args below meth c Q cL_bitWidthWith FieldType.int res) (hTab : c.exceptionTable.toList = tableOf [((0 : Nat), (10 : Nat), (13 : Nat), (19 : Nat)), ((0 : Nat), (10 : Nat), (17 : Nat), (13 : Nat))]) (hst : l.stackTraces = false) (hf : L_bitWidthWith E l0 l1 l2 l3 σ = some res) (hw : gW E D A s σ H locs) (hl : lv_has ls 5 [(0, .ref l0), (1, .int l1), (2, .int l2), (3, .ref l3)]) : W p l e R s m args below meth c H locs cells slots Q (F0 m 0 ls []) := by
  have hC0 := hC
  obtain ⟨hx, hb, hml, hown, hts, -⟩ := hC0
  unfold L_bitWidthWith at hf
  refine lv_aload_n hx hb dL_bitWidthWith_0 rfl (lv_at hl 3 rfl) ?_
  refine lv_iconst (v := 0) hx hb dL_bitWidthWith_1 (by decide) ?_
  refine lv_aload_n hx hb dL_bitWidthWith_2 rfl (lv_at hl 0 rfl) ?_
  refine lv_iload_n hx hb dL_bitWidthWith_3 rfl (lv_at hl 1 rfl) ?_
  refine lv_iload_n hx hb dL_bitWidthWith_4 rfl (lv_at hl 2 rfl) ?_
  obtain ⟨_, h3, hf⟩ := ob_some hf
  obtain ⟨x1, h2, hf⟩ := ob_some hf
  refine gg_yVI (As := [.int l1, .int l2]) hC hw (X12_bitWidthWith_M l hst E D A h2) h3 rfl g_ml_L_105 hd_X12_bitWidthWith (Nat.le_of_ble_eq_true rfl) (Nat.le_of_ble_eq_true rfl) hl.1 rfl (Nat.le_of_ble_eq_true rfl) dL_bitWidthWith_5 (fun k9 σ9 he => ?_) (fun x5 σ4 he H locs cells slots hw => ?_)
  · subst he
    replace hf := gtry_inl.symm.trans hf
    by_cases c8 : k9 = 0
    · replace hf := (if_pos c8).symm.trans hf
      subst c8
      intro H locs cells slots q9 ce hw hce hv hcl
      refine gg_catch (k := 0) hC hTab [] (⟨0, 10, 13, 19⟩ : ExceptionTableEntry) [⟨0, 10, 17, 13⟩] rfl (fun z hz => nomatch hz) (by decide) (by decide) cl_L_19 (by decide) hce hv hcl ?_
      refine lv_astore (lv' := [(4, .ref q9), (0, .ref l0), (1, .int l1), (2, .int l2), (3, .ref l3)]) hx hb dL_bitWidthWith_13 hl (by decide) rfl (fun ls hl => ?_)
      refine lv_iconst (v := 1) hx hb dL_bitWidthWith_15 (by decide) ?_
      cases hf
      exact hQ _ _ _ _ _ _ dL_bitWidthWith_16 rfl hw
    · replace hf := (if_neg c8).symm.trans hf
      by_cases c9 : k9 = 1
      · replace hf := (if_pos c9).symm.trans hf
        subst c9
        intro H locs cells slots q9 ce hw hce hv hcl
        refine gg_catch (k := 1) hC hTab [⟨0, 10, 13, 19⟩] (⟨0, 10, 17, 13⟩ : ExceptionTableEntry) [] rfl (by intro z hz; simp only [List.mem_cons, List.not_mem_nil, or_false] at hz; rcases hz with rfl <;> first | exact Or.inr ⟨by decide, _, cl_L_19, by decide⟩) (by decide) (by decide) cl_L_13 (by decide) hce hv hcl ?_
        refine lv_astore (lv' := [(4, .ref q9), (0, .ref l0), (1, .int l1), (2, .int l2), (3, .ref l3)]) hx hb dL_bitWidthWith_17 hl (by decide) rfl (fun ls hl => ?_)
        refine lv_iconst (v := 2) hx hb dL_bitWidthWith_19 (by decide) ?_
        cases hf
        exact hQ _ _ _ _ _ _ dL_bitWidthWith_20 rfl hw
      · replace hf := (if_neg c9).symm.trans hf
        cases hf
  · subst he
    replace hf := gtry_inr.symm.trans hf
    refine lv_i2l (v := x5.toInt64) hx hb dL_bitWidthWith_8 rfl ?_
    obtain ⟨σ6, h7, hf⟩ := ob_some hf
    refine gg_astJ hC hw h7 dL_bitWidthWith_9 (fun H locs hw => ?_)
    refine lv_goto (tgt := 21) hx hb dL_bitWidthWith_10 (by decide) ?_
    refine lv_iconst (v := 0) hx hb dL_bitWidthWith_21 (by decide) ?_
    cases hf
    exact hQ _ _ _ _ _ _ dL_bitWidthWith_22 rfl hw

def L_bitWidthWith_f (E : gE) (l0 : Nat) (l1 : Int32) (l2 : Int32) (l3 : Nat) (σ : gS) : Option (Int32 × gS) := L_bitWidthWith E l0 l1 l2 l3 σ
set_option maxRecDepth 100000 in
theorem L_bitWidthWith_M (l : Launch) (hst : l.stackTraces = false) (E : gE) (D : va_G) (A : Nat → Prop) {l0 : Nat} {l1 : Int32} {l2 : Int32} {l3 : Nat} {σ : gS} {res : (Int32 × gS)} (hf : L_bitWidthWith_f E l0 l1 l2 l3 σ = some res) : gYI l E D A yL_bitWidthWith (Cond.codeWith yL_bitWidthWith cL_bitWidthWith 5 (some FieldType.int) [((0 : Nat), (10 : Nat), (13 : Nat), (19 : Nat)), ((0 : Nat), (10 : Nat), (17 : Nat), (13 : Nat))]) 8 134 [.ref l0, .int l1, .int l2, .ref l3] σ (.inr res.1, res.2) := by
  refine gg_entHI (own := RL) (nm := "bitWidthWith") (ty := FieldType.int) (by decide +kernel) rfl rfl (Nat.le_of_ble_eq_true rfl) rfl ?_
  intro p e R s m args below meth c Q ls hC hw hQ hTab hl
  replace hQ := hQ _ _ rfl
  have hl : lv_has ls 5 [(0, .ref l0), (1, .int l1), (2, .int l2), (3, .ref l3)] := hl
  exact L_bitWidthWith_W hC hQ hTab hst hf hw hl

def L_restoreSnapshot (E : gE) (l0 : Nat) (l1 : Nat) (σ : gS) : Option (Int32 × gS) :=
  ob (gcl σ l0 10) fun _ =>
  ob (X12_restoreSnapshot_f E l0 σ) fun x1 =>
  gtry x1 (fun k9 σ9 =>
    if k9 = 2 then
      some ((1 : Int32), σ9)
    else
    none) (fun x5 σ4 =>
    ob (gwaJ E σ4 l1 (0 : Int32) x5.toInt64) fun σ6 =>
    some ((0 : Int32), σ6))
set_option maxHeartbeats 4000000 in
set_option maxRecDepth 100000 in
theorem L_restoreSnapshot_W {σ : gS} {l0 : Nat} {l1 : Nat} {res : (Int32 × gS)} {ls : Array Slot} (hC : gC E D A p R s m args meth c cL_restoreSnapshot 3 RL "restoreSnapshot" 7 164) (hQ : gQI E D A p l e R s m args below meth c Q cL_restoreSnapshot FieldType.int res) (hTab : c.exceptionTable.toList = tableOf [((0 : Nat), (8 : Nat), (11 : Nat), (93 : Nat))]) (hst : l.stackTraces = false) (hf : L_restoreSnapshot E l0 l1 σ = some res) (hw : gW E D A s σ H locs) (hl : lv_has ls 3 [(0, .ref l0), (1, .ref l1)]) : W p l e R s m args below meth c H locs cells slots Q (F0 m 0 ls []) := by
  have hC0 := hC
  obtain ⟨hx, hb, hml, hown, hts, -⟩ := hC0
  unfold L_restoreSnapshot at hf
  refine lv_aload_n hx hb dL_restoreSnapshot_0 rfl (lv_at hl 1 rfl) ?_
  refine lv_iconst (v := 0) hx hb dL_restoreSnapshot_1 (by decide) ?_
  refine lv_aload_n hx hb dL_restoreSnapshot_2 rfl (lv_at hl 0 rfl) ?_
  obtain ⟨_, h3, hf⟩ := ob_some hf
  obtain ⟨x1, h2, hf⟩ := ob_some hf
  refine gg_yVI (As := []) hC hw (X12_restoreSnapshot_M l hst E D A h2) h3 rfl g_ml_L_156 hd_X12_restoreSnapshot (Nat.le_of_ble_eq_true rfl) (Nat.le_of_ble_eq_true rfl) hl.1 rfl (Nat.le_of_ble_eq_true rfl) dL_restoreSnapshot_3 (fun k9 σ9 he => ?_) (fun x5 σ4 he H locs cells slots hw => ?_)
  · subst he
    replace hf := gtry_inl.symm.trans hf
    by_cases c8 : k9 = 2
    · replace hf := (if_pos c8).symm.trans hf
      subst c8
      intro H locs cells slots q9 ce hw hce hv hcl
      refine gg_catch (k := 2) hC hTab [] (⟨0, 8, 11, 93⟩ : ExceptionTableEntry) [] rfl (fun z hz => nomatch hz) (by decide) (by decide) cl_L_93 (by decide) hce hv hcl ?_
      refine lv_astore_n (lv' := [(2, .ref q9), (0, .ref l0), (1, .ref l1)]) hx hb dL_restoreSnapshot_11 rfl hl (by decide) rfl (fun ls hl => ?_)
      refine lv_iconst (v := 1) hx hb dL_restoreSnapshot_12 (by decide) ?_
      cases hf
      exact hQ _ _ _ _ _ _ dL_restoreSnapshot_13 rfl hw
    · replace hf := (if_neg c8).symm.trans hf
      cases hf
  · subst he
    replace hf := gtry_inr.symm.trans hf
    refine lv_i2l (v := x5.toInt64) hx hb dL_restoreSnapshot_6 rfl ?_
    obtain ⟨σ6, h7, hf⟩ := ob_some hf
    refine gg_astJ hC hw h7 dL_restoreSnapshot_7 (fun H locs hw => ?_)
    refine lv_goto (tgt := 14) hx hb dL_restoreSnapshot_8 (by decide) ?_
    refine lv_iconst (v := 0) hx hb dL_restoreSnapshot_14 (by decide) ?_
    cases hf
    exact hQ _ _ _ _ _ _ dL_restoreSnapshot_15 rfl hw

def L_restoreSnapshot_f (E : gE) (l0 : Nat) (l1 : Nat) (σ : gS) : Option (Int32 × gS) := L_restoreSnapshot E l0 l1 σ
set_option maxRecDepth 100000 in
theorem L_restoreSnapshot_M (l : Launch) (hst : l.stackTraces = false) (E : gE) (D : va_G) (A : Nat → Prop) {l0 : Nat} {l1 : Nat} {σ : gS} {res : (Int32 × gS)} (hf : L_restoreSnapshot_f E l0 l1 σ = some res) : gYI l E D A yL_restoreSnapshot (Cond.codeWith yL_restoreSnapshot cL_restoreSnapshot 3 (some FieldType.int) [((0 : Nat), (8 : Nat), (11 : Nat), (93 : Nat))]) 7 164 [.ref l0, .ref l1] σ (.inr res.1, res.2) := by
  refine gg_entHI (own := RL) (nm := "restoreSnapshot") (ty := FieldType.int) (by decide +kernel) rfl rfl (Nat.le_of_ble_eq_true rfl) rfl ?_
  intro p e R s m args below meth c Q ls hC hw hQ hTab hl
  replace hQ := hQ _ _ rfl
  have hl : lv_has ls 3 [(0, .ref l0), (1, .ref l1)] := hl
  exact L_restoreSnapshot_W hC hQ hTab hst hf hw hl

def L_staleCount (E : gE) (l0 : Nat) (l1 : Int32) (l2 : Nat) (σ : gS) : Option (Int32 × gS) :=
  ob (gcl σ l0 10) fun _ =>
  ob (X12_staleCount_f E l0 l1 σ) fun x1 =>
  gtry x1 (fun k9 σ9 =>
    if k9 = 0 then
      some ((1 : Int32), σ9)
    else
    none) (fun x5 σ4 =>
    ob (gwaJ E σ4 l2 (0 : Int32) x5.toInt64) fun σ6 =>
    some ((0 : Int32), σ6))
set_option maxHeartbeats 4000000 in
set_option maxRecDepth 100000 in
theorem L_staleCount_W {σ : gS} {l0 : Nat} {l1 : Int32} {l2 : Nat} {res : (Int32 × gS)} {ls : Array Slot} (hC : gC E D A p R s m args meth c cL_staleCount 4 RL "staleCount" 8 167) (hQ : gQI E D A p l e R s m args below meth c Q cL_staleCount FieldType.int res) (hTab : c.exceptionTable.toList = tableOf [((0 : Nat), (9 : Nat), (12 : Nat), (19 : Nat))]) (hst : l.stackTraces = false) (hf : L_staleCount E l0 l1 l2 σ = some res) (hw : gW E D A s σ H locs) (hl : lv_has ls 4 [(0, .ref l0), (1, .int l1), (2, .ref l2)]) : W p l e R s m args below meth c H locs cells slots Q (F0 m 0 ls []) := by
  have hC0 := hC
  obtain ⟨hx, hb, hml, hown, hts, -⟩ := hC0
  unfold L_staleCount at hf
  refine lv_aload_n hx hb dL_staleCount_0 rfl (lv_at hl 2 rfl) ?_
  refine lv_iconst (v := 0) hx hb dL_staleCount_1 (by decide) ?_
  refine lv_aload_n hx hb dL_staleCount_2 rfl (lv_at hl 0 rfl) ?_
  refine lv_iload_n hx hb dL_staleCount_3 rfl (lv_at hl 1 rfl) ?_
  obtain ⟨_, h3, hf⟩ := ob_some hf
  obtain ⟨x1, h2, hf⟩ := ob_some hf
  refine gg_yVI (As := [.int l1]) hC hw (X12_staleCount_M l hst E D A h2) h3 rfl g_ml_L_33 hd_X12_staleCount (Nat.le_of_ble_eq_true rfl) (Nat.le_of_ble_eq_true rfl) hl.1 rfl (Nat.le_of_ble_eq_true rfl) dL_staleCount_4 (fun k9 σ9 he => ?_) (fun x5 σ4 he H locs cells slots hw => ?_)
  · subst he
    replace hf := gtry_inl.symm.trans hf
    by_cases c8 : k9 = 0
    · replace hf := (if_pos c8).symm.trans hf
      subst c8
      intro H locs cells slots q9 ce hw hce hv hcl
      refine gg_catch (k := 0) hC hTab [] (⟨0, 9, 12, 19⟩ : ExceptionTableEntry) [] rfl (fun z hz => nomatch hz) (by decide) (by decide) cl_L_19 (by decide) hce hv hcl ?_
      refine lv_astore_n (lv' := [(3, .ref q9), (0, .ref l0), (1, .int l1), (2, .ref l2)]) hx hb dL_staleCount_12 rfl hl (by decide) rfl (fun ls hl => ?_)
      refine lv_iconst (v := 1) hx hb dL_staleCount_13 (by decide) ?_
      cases hf
      exact hQ _ _ _ _ _ _ dL_staleCount_14 rfl hw
    · replace hf := (if_neg c8).symm.trans hf
      cases hf
  · subst he
    replace hf := gtry_inr.symm.trans hf
    refine lv_i2l (v := x5.toInt64) hx hb dL_staleCount_7 rfl ?_
    obtain ⟨σ6, h7, hf⟩ := ob_some hf
    refine gg_astJ hC hw h7 dL_staleCount_8 (fun H locs hw => ?_)
    refine lv_goto (tgt := 15) hx hb dL_staleCount_9 (by decide) ?_
    refine lv_iconst (v := 0) hx hb dL_staleCount_15 (by decide) ?_
    cases hf
    exact hQ _ _ _ _ _ _ dL_staleCount_16 rfl hw

def L_staleCount_f (E : gE) (l0 : Nat) (l1 : Int32) (l2 : Nat) (σ : gS) : Option (Int32 × gS) := L_staleCount E l0 l1 l2 σ
set_option maxRecDepth 100000 in
theorem L_staleCount_M (l : Launch) (hst : l.stackTraces = false) (E : gE) (D : va_G) (A : Nat → Prop) {l0 : Nat} {l1 : Int32} {l2 : Nat} {σ : gS} {res : (Int32 × gS)} (hf : L_staleCount_f E l0 l1 l2 σ = some res) : gYI l E D A yL_staleCount (Cond.codeWith yL_staleCount cL_staleCount 4 (some FieldType.int) [((0 : Nat), (9 : Nat), (12 : Nat), (19 : Nat))]) 8 167 [.ref l0, .int l1, .ref l2] σ (.inr res.1, res.2) := by
  refine gg_entHI (own := RL) (nm := "staleCount") (ty := FieldType.int) (by decide +kernel) rfl rfl (Nat.le_of_ble_eq_true rfl) rfl ?_
  intro p e R s m args below meth c Q ls hC hw hQ hTab hl
  replace hQ := hQ _ _ rfl
  have hl : lv_has ls 4 [(0, .ref l0), (1, .int l1), (2, .ref l2)] := hl
  exact L_staleCount_W hC hQ hTab hst hf hw hl

def L_sumSelected (E : gE) (l0 : Nat) (l1 : Int32) (l2 : Nat) (σ : gS) : Option (Int32 × gS) :=
  ob (gcl σ l0 10) fun _ =>
  ob (X12_sumSelected_f E l0 l1 σ) fun x1 =>
  gtry x1 (fun k9 σ9 =>
    if k9 = 0 then
      some ((1 : Int32), σ9)
    else
    none) (fun x5 σ4 =>
    ob (gwaJ E σ4 l2 (0 : Int32) x5) fun σ6 =>
    some ((0 : Int32), σ6))
set_option maxHeartbeats 4000000 in
set_option maxRecDepth 100000 in
theorem L_sumSelected_W {σ : gS} {l0 : Nat} {l1 : Int32} {l2 : Nat} {res : (Int32 × gS)} {ls : Array Slot} (hC : gC E D A p R s m args meth c cL_sumSelected 4 RL "sumSelected" 8 152) (hQ : gQI E D A p l e R s m args below meth c Q cL_sumSelected FieldType.int res) (hTab : c.exceptionTable.toList = tableOf [((0 : Nat), (8 : Nat), (11 : Nat), (19 : Nat))]) (hst : l.stackTraces = false) (hf : L_sumSelected E l0 l1 l2 σ = some res) (hw : gW E D A s σ H locs) (hl : lv_has ls 4 [(0, .ref l0), (1, .int l1), (2, .ref l2)]) : W p l e R s m args below meth c H locs cells slots Q (F0 m 0 ls []) := by
  have hC0 := hC
  obtain ⟨hx, hb, hml, hown, hts, -⟩ := hC0
  unfold L_sumSelected at hf
  refine lv_aload_n hx hb dL_sumSelected_0 rfl (lv_at hl 2 rfl) ?_
  refine lv_iconst (v := 0) hx hb dL_sumSelected_1 (by decide) ?_
  refine lv_aload_n hx hb dL_sumSelected_2 rfl (lv_at hl 0 rfl) ?_
  refine lv_iload_n hx hb dL_sumSelected_3 rfl (lv_at hl 1 rfl) ?_
  obtain ⟨_, h3, hf⟩ := ob_some hf
  obtain ⟨x1, h2, hf⟩ := ob_some hf
  refine gg_yVJ (As := [.int l1]) hC hw (X12_sumSelected_M l hst E D A h2) h3 rfl g_ml_L_86 hd_X12_sumSelected (Nat.le_of_ble_eq_true rfl) (Nat.le_of_ble_eq_true rfl) hl.1 rfl (Nat.le_of_ble_eq_true rfl) dL_sumSelected_4 (fun k9 σ9 he => ?_) (fun x5 σ4 he H locs cells slots hw => ?_)
  · subst he
    replace hf := gtry_inl.symm.trans hf
    by_cases c8 : k9 = 0
    · replace hf := (if_pos c8).symm.trans hf
      subst c8
      intro H locs cells slots q9 ce hw hce hv hcl
      refine gg_catch (k := 0) hC hTab [] (⟨0, 8, 11, 19⟩ : ExceptionTableEntry) [] rfl (fun z hz => nomatch hz) (by decide) (by decide) cl_L_19 (by decide) hce hv hcl ?_
      refine lv_astore_n (lv' := [(3, .ref q9), (0, .ref l0), (1, .int l1), (2, .ref l2)]) hx hb dL_sumSelected_11 rfl hl (by decide) rfl (fun ls hl => ?_)
      refine lv_iconst (v := 1) hx hb dL_sumSelected_12 (by decide) ?_
      cases hf
      exact hQ _ _ _ _ _ _ dL_sumSelected_13 rfl hw
    · replace hf := (if_neg c8).symm.trans hf
      cases hf
  · subst he
    replace hf := gtry_inr.symm.trans hf
    obtain ⟨σ6, h7, hf⟩ := ob_some hf
    refine gg_astJ hC hw h7 dL_sumSelected_7 (fun H locs hw => ?_)
    refine lv_goto (tgt := 14) hx hb dL_sumSelected_8 (by decide) ?_
    refine lv_iconst (v := 0) hx hb dL_sumSelected_14 (by decide) ?_
    cases hf
    exact hQ _ _ _ _ _ _ dL_sumSelected_15 rfl hw

def L_sumSelected_f (E : gE) (l0 : Nat) (l1 : Int32) (l2 : Nat) (σ : gS) : Option (Int32 × gS) := L_sumSelected E l0 l1 l2 σ
set_option maxRecDepth 100000 in
theorem L_sumSelected_M (l : Launch) (hst : l.stackTraces = false) (E : gE) (D : va_G) (A : Nat → Prop) {l0 : Nat} {l1 : Int32} {l2 : Nat} {σ : gS} {res : (Int32 × gS)} (hf : L_sumSelected_f E l0 l1 l2 σ = some res) : gYI l E D A yL_sumSelected (Cond.codeWith yL_sumSelected cL_sumSelected 4 (some FieldType.int) [((0 : Nat), (8 : Nat), (11 : Nat), (19 : Nat))]) 8 152 [.ref l0, .int l1, .ref l2] σ (.inr res.1, res.2) := by
  refine gg_entHI (own := RL) (nm := "sumSelected") (ty := FieldType.int) (by decide +kernel) rfl rfl (Nat.le_of_ble_eq_true rfl) rfl ?_
  intro p e R s m args below meth c Q ls hC hw hQ hTab hl
  replace hQ := hQ _ _ rfl
  have hl : lv_has ls 4 [(0, .ref l0), (1, .int l1), (2, .ref l2)] := hl
  exact L_sumSelected_W hC hQ hTab hst hf hw hl

def L_smallestSelected (E : gE) (l0 : Nat) (l1 : Int32) (l2 : Nat) (σ : gS) : Option (Int32 × gS) :=
  ob (gcl σ l0 10) fun _ =>
  ob (X12_smallestSelected_f E l0 l1 σ) fun x1 =>
  gtry x1 (fun k9 σ9 =>
    if k9 = 0 then
      some ((1 : Int32), σ9)
    else
    if k9 = 2 then
      some ((2 : Int32), σ9)
    else
    none) (fun x5 σ4 =>
    ob (gwaJ E σ4 l2 (0 : Int32) x5.toInt64) fun σ6 =>
    some ((0 : Int32), σ6))
set_option maxHeartbeats 4000000 in
set_option maxRecDepth 100000 in
theorem L_smallestSelected_W {σ : gS} {l0 : Nat} {l1 : Int32} {l2 : Nat} {res : (Int32 × gS)} {ls : Array Slot} (hC : gC E D A p R s m args meth c cL_smallestSelected 4 RL "smallestSelected" 8 167) (hQ : gQI E D A p l e R s m args below meth c Q cL_smallestSelected FieldType.int res) (hTab : c.exceptionTable.toList = tableOf [((0 : Nat), (9 : Nat), (12 : Nat), (19 : Nat)), ((0 : Nat), (9 : Nat), (15 : Nat), (93 : Nat))]) (hst : l.stackTraces = false) (hf : L_smallestSelected E l0 l1 l2 σ = some res) (hw : gW E D A s σ H locs) (hl : lv_has ls 4 [(0, .ref l0), (1, .int l1), (2, .ref l2)]) : W p l e R s m args below meth c H locs cells slots Q (F0 m 0 ls []) := by
  have hC0 := hC
  obtain ⟨hx, hb, hml, hown, hts, -⟩ := hC0
  unfold L_smallestSelected at hf
  refine lv_aload_n hx hb dL_smallestSelected_0 rfl (lv_at hl 2 rfl) ?_
  refine lv_iconst (v := 0) hx hb dL_smallestSelected_1 (by decide) ?_
  refine lv_aload_n hx hb dL_smallestSelected_2 rfl (lv_at hl 0 rfl) ?_
  refine lv_iload_n hx hb dL_smallestSelected_3 rfl (lv_at hl 1 rfl) ?_
  obtain ⟨_, h3, hf⟩ := ob_some hf
  obtain ⟨x1, h2, hf⟩ := ob_some hf
  refine gg_yVI (As := [.int l1]) hC hw (X12_smallestSelected_M l hst E D A h2) h3 rfl g_ml_L_90 hd_X12_smallestSelected (Nat.le_of_ble_eq_true rfl) (Nat.le_of_ble_eq_true rfl) hl.1 rfl (Nat.le_of_ble_eq_true rfl) dL_smallestSelected_4 (fun k9 σ9 he => ?_) (fun x5 σ4 he H locs cells slots hw => ?_)
  · subst he
    replace hf := gtry_inl.symm.trans hf
    by_cases c8 : k9 = 0
    · replace hf := (if_pos c8).symm.trans hf
      subst c8
      intro H locs cells slots q9 ce hw hce hv hcl
      refine gg_catch (k := 0) hC hTab [] (⟨0, 9, 12, 19⟩ : ExceptionTableEntry) [⟨0, 9, 15, 93⟩] rfl (fun z hz => nomatch hz) (by decide) (by decide) cl_L_19 (by decide) hce hv hcl ?_
      refine lv_astore_n (lv' := [(3, .ref q9), (0, .ref l0), (1, .int l1), (2, .ref l2)]) hx hb dL_smallestSelected_12 rfl hl (by decide) rfl (fun ls hl => ?_)
      refine lv_iconst (v := 1) hx hb dL_smallestSelected_13 (by decide) ?_
      cases hf
      exact hQ _ _ _ _ _ _ dL_smallestSelected_14 rfl hw
    · replace hf := (if_neg c8).symm.trans hf
      by_cases c9 : k9 = 2
      · replace hf := (if_pos c9).symm.trans hf
        subst c9
        intro H locs cells slots q9 ce hw hce hv hcl
        refine gg_catch (k := 2) hC hTab [⟨0, 9, 12, 19⟩] (⟨0, 9, 15, 93⟩ : ExceptionTableEntry) [] rfl (by intro z hz; simp only [List.mem_cons, List.not_mem_nil, or_false] at hz; rcases hz with rfl <;> first | exact Or.inr ⟨by decide, _, cl_L_19, by decide⟩) (by decide) (by decide) cl_L_93 (by decide) hce hv hcl ?_
        refine lv_astore_n (lv' := [(3, .ref q9), (0, .ref l0), (1, .int l1), (2, .ref l2)]) hx hb dL_smallestSelected_15 rfl hl (by decide) rfl (fun ls hl => ?_)
        refine lv_iconst (v := 2) hx hb dL_smallestSelected_16 (by decide) ?_
        cases hf
        exact hQ _ _ _ _ _ _ dL_smallestSelected_17 rfl hw
      · replace hf := (if_neg c9).symm.trans hf
        cases hf
  · subst he
    replace hf := gtry_inr.symm.trans hf
    refine lv_i2l (v := x5.toInt64) hx hb dL_smallestSelected_7 rfl ?_
    obtain ⟨σ6, h7, hf⟩ := ob_some hf
    refine gg_astJ hC hw h7 dL_smallestSelected_8 (fun H locs hw => ?_)
    refine lv_goto (tgt := 18) hx hb dL_smallestSelected_9 (by decide) ?_
    refine lv_iconst (v := 0) hx hb dL_smallestSelected_18 (by decide) ?_
    cases hf
    exact hQ _ _ _ _ _ _ dL_smallestSelected_19 rfl hw

def L_smallestSelected_f (E : gE) (l0 : Nat) (l1 : Int32) (l2 : Nat) (σ : gS) : Option (Int32 × gS) := L_smallestSelected E l0 l1 l2 σ
set_option maxRecDepth 100000 in
theorem L_smallestSelected_M (l : Launch) (hst : l.stackTraces = false) (E : gE) (D : va_G) (A : Nat → Prop) {l0 : Nat} {l1 : Int32} {l2 : Nat} {σ : gS} {res : (Int32 × gS)} (hf : L_smallestSelected_f E l0 l1 l2 σ = some res) : gYI l E D A yL_smallestSelected (Cond.codeWith yL_smallestSelected cL_smallestSelected 4 (some FieldType.int) [((0 : Nat), (9 : Nat), (12 : Nat), (19 : Nat)), ((0 : Nat), (9 : Nat), (15 : Nat), (93 : Nat))]) 8 167 [.ref l0, .int l1, .ref l2] σ (.inr res.1, res.2) := by
  refine gg_entHI (own := RL) (nm := "smallestSelected") (ty := FieldType.int) (by decide +kernel) rfl rfl (Nat.le_of_ble_eq_true rfl) rfl ?_
  intro p e R s m args below meth c Q ls hC hw hQ hTab hl
  replace hQ := hQ _ _ rfl
  have hl : lv_has ls 4 [(0, .ref l0), (1, .int l1), (2, .ref l2)] := hl
  exact L_smallestSelected_W hC hQ hTab hst hf hw hl

def L_greatestSelected (E : gE) (l0 : Nat) (l1 : Int32) (l2 : Nat) (σ : gS) : Option (Int32 × gS) :=
  ob (gcl σ l0 10) fun _ =>
  ob (X12_greatestSelected_f E l0 l1 σ) fun x1 =>
  gtry x1 (fun k9 σ9 =>
    if k9 = 0 then
      some ((1 : Int32), σ9)
    else
    if k9 = 2 then
      some ((2 : Int32), σ9)
    else
    none) (fun x5 σ4 =>
    ob (gwaJ E σ4 l2 (0 : Int32) x5.toInt64) fun σ6 =>
    some ((0 : Int32), σ6))
set_option maxHeartbeats 4000000 in
set_option maxRecDepth 100000 in
theorem L_greatestSelected_W {σ : gS} {l0 : Nat} {l1 : Int32} {l2 : Nat} {res : (Int32 × gS)} {ls : Array Slot} (hC : gC E D A p R s m args meth c cL_greatestSelected 4 RL "greatestSelected" 8 167) (hQ : gQI E D A p l e R s m args below meth c Q cL_greatestSelected FieldType.int res) (hTab : c.exceptionTable.toList = tableOf [((0 : Nat), (9 : Nat), (12 : Nat), (19 : Nat)), ((0 : Nat), (9 : Nat), (15 : Nat), (93 : Nat))]) (hst : l.stackTraces = false) (hf : L_greatestSelected E l0 l1 l2 σ = some res) (hw : gW E D A s σ H locs) (hl : lv_has ls 4 [(0, .ref l0), (1, .int l1), (2, .ref l2)]) : W p l e R s m args below meth c H locs cells slots Q (F0 m 0 ls []) := by
  have hC0 := hC
  obtain ⟨hx, hb, hml, hown, hts, -⟩ := hC0
  unfold L_greatestSelected at hf
  refine lv_aload_n hx hb dL_greatestSelected_0 rfl (lv_at hl 2 rfl) ?_
  refine lv_iconst (v := 0) hx hb dL_greatestSelected_1 (by decide) ?_
  refine lv_aload_n hx hb dL_greatestSelected_2 rfl (lv_at hl 0 rfl) ?_
  refine lv_iload_n hx hb dL_greatestSelected_3 rfl (lv_at hl 1 rfl) ?_
  obtain ⟨_, h3, hf⟩ := ob_some hf
  obtain ⟨x1, h2, hf⟩ := ob_some hf
  refine gg_yVI (As := [.int l1]) hC hw (X12_greatestSelected_M l hst E D A h2) h3 rfl g_ml_L_95 hd_X12_greatestSelected (Nat.le_of_ble_eq_true rfl) (Nat.le_of_ble_eq_true rfl) hl.1 rfl (Nat.le_of_ble_eq_true rfl) dL_greatestSelected_4 (fun k9 σ9 he => ?_) (fun x5 σ4 he H locs cells slots hw => ?_)
  · subst he
    replace hf := gtry_inl.symm.trans hf
    by_cases c8 : k9 = 0
    · replace hf := (if_pos c8).symm.trans hf
      subst c8
      intro H locs cells slots q9 ce hw hce hv hcl
      refine gg_catch (k := 0) hC hTab [] (⟨0, 9, 12, 19⟩ : ExceptionTableEntry) [⟨0, 9, 15, 93⟩] rfl (fun z hz => nomatch hz) (by decide) (by decide) cl_L_19 (by decide) hce hv hcl ?_
      refine lv_astore_n (lv' := [(3, .ref q9), (0, .ref l0), (1, .int l1), (2, .ref l2)]) hx hb dL_greatestSelected_12 rfl hl (by decide) rfl (fun ls hl => ?_)
      refine lv_iconst (v := 1) hx hb dL_greatestSelected_13 (by decide) ?_
      cases hf
      exact hQ _ _ _ _ _ _ dL_greatestSelected_14 rfl hw
    · replace hf := (if_neg c8).symm.trans hf
      by_cases c9 : k9 = 2
      · replace hf := (if_pos c9).symm.trans hf
        subst c9
        intro H locs cells slots q9 ce hw hce hv hcl
        refine gg_catch (k := 2) hC hTab [⟨0, 9, 12, 19⟩] (⟨0, 9, 15, 93⟩ : ExceptionTableEntry) [] rfl (by intro z hz; simp only [List.mem_cons, List.not_mem_nil, or_false] at hz; rcases hz with rfl <;> first | exact Or.inr ⟨by decide, _, cl_L_19, by decide⟩) (by decide) (by decide) cl_L_93 (by decide) hce hv hcl ?_
        refine lv_astore_n (lv' := [(3, .ref q9), (0, .ref l0), (1, .int l1), (2, .ref l2)]) hx hb dL_greatestSelected_15 rfl hl (by decide) rfl (fun ls hl => ?_)
        refine lv_iconst (v := 2) hx hb dL_greatestSelected_16 (by decide) ?_
        cases hf
        exact hQ _ _ _ _ _ _ dL_greatestSelected_17 rfl hw
      · replace hf := (if_neg c9).symm.trans hf
        cases hf
  · subst he
    replace hf := gtry_inr.symm.trans hf
    refine lv_i2l (v := x5.toInt64) hx hb dL_greatestSelected_7 rfl ?_
    obtain ⟨σ6, h7, hf⟩ := ob_some hf
    refine gg_astJ hC hw h7 dL_greatestSelected_8 (fun H locs hw => ?_)
    refine lv_goto (tgt := 18) hx hb dL_greatestSelected_9 (by decide) ?_
    refine lv_iconst (v := 0) hx hb dL_greatestSelected_18 (by decide) ?_
    cases hf
    exact hQ _ _ _ _ _ _ dL_greatestSelected_19 rfl hw

def L_greatestSelected_f (E : gE) (l0 : Nat) (l1 : Int32) (l2 : Nat) (σ : gS) : Option (Int32 × gS) := L_greatestSelected E l0 l1 l2 σ
set_option maxRecDepth 100000 in
theorem L_greatestSelected_M (l : Launch) (hst : l.stackTraces = false) (E : gE) (D : va_G) (A : Nat → Prop) {l0 : Nat} {l1 : Int32} {l2 : Nat} {σ : gS} {res : (Int32 × gS)} (hf : L_greatestSelected_f E l0 l1 l2 σ = some res) : gYI l E D A yL_greatestSelected (Cond.codeWith yL_greatestSelected cL_greatestSelected 4 (some FieldType.int) [((0 : Nat), (9 : Nat), (12 : Nat), (19 : Nat)), ((0 : Nat), (9 : Nat), (15 : Nat), (93 : Nat))]) 8 167 [.ref l0, .int l1, .ref l2] σ (.inr res.1, res.2) := by
  refine gg_entHI (own := RL) (nm := "greatestSelected") (ty := FieldType.int) (by decide +kernel) rfl rfl (Nat.le_of_ble_eq_true rfl) rfl ?_
  intro p e R s m args below meth c Q ls hC hw hQ hTab hl
  replace hQ := hQ _ _ rfl
  have hl : lv_has ls 4 [(0, .ref l0), (1, .int l1), (2, .ref l2)] := hl
  exact L_greatestSelected_W hC hQ hTab hst hf hw hl

def L_distinctSelected (E : gE) (l0 : Nat) (l1 : Int32) (l2 : Nat) (σ : gS) : Option (Int32 × gS) :=
  ob (gcl σ l0 10) fun _ =>
  ob (X12_distinctSelected_f E l0 l1 σ) fun x1 =>
  gtry x1 (fun k9 σ9 =>
    if k9 = 0 then
      some ((1 : Int32), σ9)
    else
    none) (fun x5 σ4 =>
    ob (gwaJ E σ4 l2 (0 : Int32) x5.toInt64) fun σ6 =>
    some ((0 : Int32), σ6))
set_option maxHeartbeats 4000000 in
set_option maxRecDepth 100000 in
theorem L_distinctSelected_W {σ : gS} {l0 : Nat} {l1 : Int32} {l2 : Nat} {res : (Int32 × gS)} {ls : Array Slot} (hC : gC E D A p R s m args meth c cL_distinctSelected 4 RL "distinctSelected" 8 167) (hQ : gQI E D A p l e R s m args below meth c Q cL_distinctSelected FieldType.int res) (hTab : c.exceptionTable.toList = tableOf [((0 : Nat), (9 : Nat), (12 : Nat), (19 : Nat))]) (hst : l.stackTraces = false) (hf : L_distinctSelected E l0 l1 l2 σ = some res) (hw : gW E D A s σ H locs) (hl : lv_has ls 4 [(0, .ref l0), (1, .int l1), (2, .ref l2)]) : W p l e R s m args below meth c H locs cells slots Q (F0 m 0 ls []) := by
  have hC0 := hC
  obtain ⟨hx, hb, hml, hown, hts, -⟩ := hC0
  unfold L_distinctSelected at hf
  refine lv_aload_n hx hb dL_distinctSelected_0 rfl (lv_at hl 2 rfl) ?_
  refine lv_iconst (v := 0) hx hb dL_distinctSelected_1 (by decide) ?_
  refine lv_aload_n hx hb dL_distinctSelected_2 rfl (lv_at hl 0 rfl) ?_
  refine lv_iload_n hx hb dL_distinctSelected_3 rfl (lv_at hl 1 rfl) ?_
  obtain ⟨_, h3, hf⟩ := ob_some hf
  obtain ⟨x1, h2, hf⟩ := ob_some hf
  refine gg_yVI (As := [.int l1]) hC hw (X12_distinctSelected_M l hst E D A h2) h3 rfl g_ml_L_98 hd_X12_distinctSelected (Nat.le_of_ble_eq_true rfl) (Nat.le_of_ble_eq_true rfl) hl.1 rfl (Nat.le_of_ble_eq_true rfl) dL_distinctSelected_4 (fun k9 σ9 he => ?_) (fun x5 σ4 he H locs cells slots hw => ?_)
  · subst he
    replace hf := gtry_inl.symm.trans hf
    by_cases c8 : k9 = 0
    · replace hf := (if_pos c8).symm.trans hf
      subst c8
      intro H locs cells slots q9 ce hw hce hv hcl
      refine gg_catch (k := 0) hC hTab [] (⟨0, 9, 12, 19⟩ : ExceptionTableEntry) [] rfl (fun z hz => nomatch hz) (by decide) (by decide) cl_L_19 (by decide) hce hv hcl ?_
      refine lv_astore_n (lv' := [(3, .ref q9), (0, .ref l0), (1, .int l1), (2, .ref l2)]) hx hb dL_distinctSelected_12 rfl hl (by decide) rfl (fun ls hl => ?_)
      refine lv_iconst (v := 1) hx hb dL_distinctSelected_13 (by decide) ?_
      cases hf
      exact hQ _ _ _ _ _ _ dL_distinctSelected_14 rfl hw
    · replace hf := (if_neg c8).symm.trans hf
      cases hf
  · subst he
    replace hf := gtry_inr.symm.trans hf
    refine lv_i2l (v := x5.toInt64) hx hb dL_distinctSelected_7 rfl ?_
    obtain ⟨σ6, h7, hf⟩ := ob_some hf
    refine gg_astJ hC hw h7 dL_distinctSelected_8 (fun H locs hw => ?_)
    refine lv_goto (tgt := 15) hx hb dL_distinctSelected_9 (by decide) ?_
    refine lv_iconst (v := 0) hx hb dL_distinctSelected_15 (by decide) ?_
    cases hf
    exact hQ _ _ _ _ _ _ dL_distinctSelected_16 rfl hw

def L_distinctSelected_f (E : gE) (l0 : Nat) (l1 : Int32) (l2 : Nat) (σ : gS) : Option (Int32 × gS) := L_distinctSelected E l0 l1 l2 σ
set_option maxRecDepth 100000 in
theorem L_distinctSelected_M (l : Launch) (hst : l.stackTraces = false) (E : gE) (D : va_G) (A : Nat → Prop) {l0 : Nat} {l1 : Int32} {l2 : Nat} {σ : gS} {res : (Int32 × gS)} (hf : L_distinctSelected_f E l0 l1 l2 σ = some res) : gYI l E D A yL_distinctSelected (Cond.codeWith yL_distinctSelected cL_distinctSelected 4 (some FieldType.int) [((0 : Nat), (9 : Nat), (12 : Nat), (19 : Nat))]) 8 167 [.ref l0, .int l1, .ref l2] σ (.inr res.1, res.2) := by
  refine gg_entHI (own := RL) (nm := "distinctSelected") (ty := FieldType.int) (by decide +kernel) rfl rfl (Nat.le_of_ble_eq_true rfl) rfl ?_
  intro p e R s m args below meth c Q ls hC hw hQ hTab hl
  replace hQ := hQ _ _ rfl
  have hl : lv_has ls 4 [(0, .ref l0), (1, .int l1), (2, .ref l2)] := hl
  exact L_distinctSelected_W hC hQ hTab hst hf hw hl

def L_meanSelected (E : gE) (l0 : Nat) (l1 : Int32) (l2 : Nat) (σ : gS) : Option (Int32 × gS) :=
  ob (gcl σ l0 10) fun _ =>
  ob (X12_meanSelected_f E l0 l1 σ) fun x1 =>
  gtry x1 (fun k9 σ9 =>
    if k9 = 0 then
      some ((1 : Int32), σ9)
    else
    none) (fun x5 σ4 =>
    ob (gwaD E σ4 l2 (0 : Int32) x5) fun σ6 =>
    some ((0 : Int32), σ6))
set_option maxHeartbeats 4000000 in
set_option maxRecDepth 100000 in
theorem L_meanSelected_W {σ : gS} {l0 : Nat} {l1 : Int32} {l2 : Nat} {res : (Int32 × gS)} {ls : Array Slot} (hC : gC E D A p R s m args meth c cL_meanSelected 4 RL "meanSelected" 8 153) (hQ : gQI E D A p l e R s m args below meth c Q cL_meanSelected FieldType.int res) (hTab : c.exceptionTable.toList = tableOf [((0 : Nat), (8 : Nat), (11 : Nat), (19 : Nat))]) (hst : l.stackTraces = false) (hf : L_meanSelected E l0 l1 l2 σ = some res) (hw : gW E D A s σ H locs) (hl : lv_has ls 4 [(0, .ref l0), (1, .int l1), (2, .ref l2)]) : W p l e R s m args below meth c H locs cells slots Q (F0 m 0 ls []) := by
  have hC0 := hC
  obtain ⟨hx, hb, hml, hown, hts, -⟩ := hC0
  unfold L_meanSelected at hf
  refine lv_aload_n hx hb dL_meanSelected_0 rfl (lv_at hl 2 rfl) ?_
  refine lv_iconst (v := 0) hx hb dL_meanSelected_1 (by decide) ?_
  refine lv_aload_n hx hb dL_meanSelected_2 rfl (lv_at hl 0 rfl) ?_
  refine lv_iload_n hx hb dL_meanSelected_3 rfl (lv_at hl 1 rfl) ?_
  obtain ⟨_, h3, hf⟩ := ob_some hf
  obtain ⟨x1, h2, hf⟩ := ob_some hf
  refine gg_yVD (As := [.int l1]) hC hw (X12_meanSelected_M l hst E D A h2) h3 rfl g_ml_L_101 hd_X12_meanSelected (Nat.le_of_ble_eq_true rfl) (Nat.le_of_ble_eq_true rfl) hl.1 rfl (Nat.le_of_ble_eq_true rfl) dL_meanSelected_4 (fun k9 σ9 he => ?_) (fun x5 σ4 he H locs cells slots hw => ?_)
  · subst he
    replace hf := gtry_inl.symm.trans hf
    by_cases c8 : k9 = 0
    · replace hf := (if_pos c8).symm.trans hf
      subst c8
      intro H locs cells slots q9 ce hw hce hv hcl
      refine gg_catch (k := 0) hC hTab [] (⟨0, 8, 11, 19⟩ : ExceptionTableEntry) [] rfl (fun z hz => nomatch hz) (by decide) (by decide) cl_L_19 (by decide) hce hv hcl ?_
      refine lv_astore_n (lv' := [(3, .ref q9), (0, .ref l0), (1, .int l1), (2, .ref l2)]) hx hb dL_meanSelected_11 rfl hl (by decide) rfl (fun ls hl => ?_)
      refine lv_iconst (v := 1) hx hb dL_meanSelected_12 (by decide) ?_
      cases hf
      exact hQ _ _ _ _ _ _ dL_meanSelected_13 rfl hw
    · replace hf := (if_neg c8).symm.trans hf
      cases hf
  · subst he
    replace hf := gtry_inr.symm.trans hf
    obtain ⟨σ6, h7, hf⟩ := ob_some hf
    refine gg_astD hC hw h7 dL_meanSelected_7 (fun H locs hw => ?_)
    refine lv_goto (tgt := 14) hx hb dL_meanSelected_8 (by decide) ?_
    refine lv_iconst (v := 0) hx hb dL_meanSelected_14 (by decide) ?_
    cases hf
    exact hQ _ _ _ _ _ _ dL_meanSelected_15 rfl hw

def L_meanSelected_f (E : gE) (l0 : Nat) (l1 : Int32) (l2 : Nat) (σ : gS) : Option (Int32 × gS) := L_meanSelected E l0 l1 l2 σ
set_option maxRecDepth 100000 in
theorem L_meanSelected_M (l : Launch) (hst : l.stackTraces = false) (E : gE) (D : va_G) (A : Nat → Prop) {l0 : Nat} {l1 : Int32} {l2 : Nat} {σ : gS} {res : (Int32 × gS)} (hf : L_meanSelected_f E l0 l1 l2 σ = some res) : gYI l E D A yL_meanSelected (Cond.codeWith yL_meanSelected cL_meanSelected 4 (some FieldType.int) [((0 : Nat), (8 : Nat), (11 : Nat), (19 : Nat))]) 8 153 [.ref l0, .int l1, .ref l2] σ (.inr res.1, res.2) := by
  refine gg_entHI (own := RL) (nm := "meanSelected") (ty := FieldType.int) (by decide +kernel) rfl rfl (Nat.le_of_ble_eq_true rfl) rfl ?_
  intro p e R s m args below meth c Q ls hC hw hQ hTab hl
  replace hQ := hQ _ _ rfl
  have hl : lv_has ls 4 [(0, .ref l0), (1, .int l1), (2, .ref l2)] := hl
  exact L_meanSelected_W hC hQ hTab hst hf hw hl

def L_bitWidthCompacted (E : gE) (l0 : Nat) (l1 : Int32) (l2 : Nat) (σ : gS) : Option (Int32 × gS) :=
  ob (gcl σ l0 10) fun _ =>
  ob (X12_bitWidthCompacted_f E l0 l1 σ) fun x1 =>
  gtry x1 (fun k9 σ9 =>
    if k9 = 0 then
      some ((1 : Int32), σ9)
    else
    none) (fun x5 σ4 =>
    ob (gwaJ E σ4 l2 (0 : Int32) x5.toInt64) fun σ6 =>
    some ((0 : Int32), σ6))
set_option maxHeartbeats 4000000 in
set_option maxRecDepth 100000 in
theorem L_bitWidthCompacted_W {σ : gS} {l0 : Nat} {l1 : Int32} {l2 : Nat} {res : (Int32 × gS)} {ls : Array Slot} (hC : gC E D A p R s m args meth c cL_bitWidthCompacted 4 RL "bitWidthCompacted" 8 167) (hQ : gQI E D A p l e R s m args below meth c Q cL_bitWidthCompacted FieldType.int res) (hTab : c.exceptionTable.toList = tableOf [((0 : Nat), (9 : Nat), (12 : Nat), (19 : Nat))]) (hst : l.stackTraces = false) (hf : L_bitWidthCompacted E l0 l1 l2 σ = some res) (hw : gW E D A s σ H locs) (hl : lv_has ls 4 [(0, .ref l0), (1, .int l1), (2, .ref l2)]) : W p l e R s m args below meth c H locs cells slots Q (F0 m 0 ls []) := by
  have hC0 := hC
  obtain ⟨hx, hb, hml, hown, hts, -⟩ := hC0
  unfold L_bitWidthCompacted at hf
  refine lv_aload_n hx hb dL_bitWidthCompacted_0 rfl (lv_at hl 2 rfl) ?_
  refine lv_iconst (v := 0) hx hb dL_bitWidthCompacted_1 (by decide) ?_
  refine lv_aload_n hx hb dL_bitWidthCompacted_2 rfl (lv_at hl 0 rfl) ?_
  refine lv_iload_n hx hb dL_bitWidthCompacted_3 rfl (lv_at hl 1 rfl) ?_
  obtain ⟨_, h3, hf⟩ := ob_some hf
  obtain ⟨x1, h2, hf⟩ := ob_some hf
  refine gg_yVI (As := [.int l1]) hC hw (X12_bitWidthCompacted_M l hst E D A h2) h3 rfl g_ml_L_108 hd_X12_bitWidthCompacted (Nat.le_of_ble_eq_true rfl) (Nat.le_of_ble_eq_true rfl) hl.1 rfl (Nat.le_of_ble_eq_true rfl) dL_bitWidthCompacted_4 (fun k9 σ9 he => ?_) (fun x5 σ4 he H locs cells slots hw => ?_)
  · subst he
    replace hf := gtry_inl.symm.trans hf
    by_cases c8 : k9 = 0
    · replace hf := (if_pos c8).symm.trans hf
      subst c8
      intro H locs cells slots q9 ce hw hce hv hcl
      refine gg_catch (k := 0) hC hTab [] (⟨0, 9, 12, 19⟩ : ExceptionTableEntry) [] rfl (fun z hz => nomatch hz) (by decide) (by decide) cl_L_19 (by decide) hce hv hcl ?_
      refine lv_astore_n (lv' := [(3, .ref q9), (0, .ref l0), (1, .int l1), (2, .ref l2)]) hx hb dL_bitWidthCompacted_12 rfl hl (by decide) rfl (fun ls hl => ?_)
      refine lv_iconst (v := 1) hx hb dL_bitWidthCompacted_13 (by decide) ?_
      cases hf
      exact hQ _ _ _ _ _ _ dL_bitWidthCompacted_14 rfl hw
    · replace hf := (if_neg c8).symm.trans hf
      cases hf
  · subst he
    replace hf := gtry_inr.symm.trans hf
    refine lv_i2l (v := x5.toInt64) hx hb dL_bitWidthCompacted_7 rfl ?_
    obtain ⟨σ6, h7, hf⟩ := ob_some hf
    refine gg_astJ hC hw h7 dL_bitWidthCompacted_8 (fun H locs hw => ?_)
    refine lv_goto (tgt := 15) hx hb dL_bitWidthCompacted_9 (by decide) ?_
    refine lv_iconst (v := 0) hx hb dL_bitWidthCompacted_15 (by decide) ?_
    cases hf
    exact hQ _ _ _ _ _ _ dL_bitWidthCompacted_16 rfl hw

def L_bitWidthCompacted_f (E : gE) (l0 : Nat) (l1 : Int32) (l2 : Nat) (σ : gS) : Option (Int32 × gS) := L_bitWidthCompacted E l0 l1 l2 σ
set_option maxRecDepth 100000 in
theorem L_bitWidthCompacted_M (l : Launch) (hst : l.stackTraces = false) (E : gE) (D : va_G) (A : Nat → Prop) {l0 : Nat} {l1 : Int32} {l2 : Nat} {σ : gS} {res : (Int32 × gS)} (hf : L_bitWidthCompacted_f E l0 l1 l2 σ = some res) : gYI l E D A yL_bitWidthCompacted (Cond.codeWith yL_bitWidthCompacted cL_bitWidthCompacted 4 (some FieldType.int) [((0 : Nat), (9 : Nat), (12 : Nat), (19 : Nat))]) 8 167 [.ref l0, .int l1, .ref l2] σ (.inr res.1, res.2) := by
  refine gg_entHI (own := RL) (nm := "bitWidthCompacted") (ty := FieldType.int) (by decide +kernel) rfl rfl (Nat.le_of_ble_eq_true rfl) rfl ?_
  intro p e R s m args below meth c Q ls hC hw hQ hTab hl
  replace hQ := hQ _ _ rfl
  have hl : lv_has ls 4 [(0, .ref l0), (1, .int l1), (2, .ref l2)] := hl
  exact L_bitWidthCompacted_W hC hQ hTab hst hf hw hl

def L_runsIfSorted (E : gE) (l0 : Nat) (l1 : Int32) (l2 : Nat) (σ : gS) : Option (Int32 × gS) :=
  ob (gcl σ l0 10) fun _ =>
  ob (X12_runsIfSorted_f E l0 l1 σ) fun x1 =>
  gtry x1 (fun k9 σ9 =>
    if k9 = 0 then
      some ((1 : Int32), σ9)
    else
    none) (fun x5 σ4 =>
    ob (gwaJ E σ4 l2 (0 : Int32) x5.toInt64) fun σ6 =>
    some ((0 : Int32), σ6))
set_option maxHeartbeats 4000000 in
set_option maxRecDepth 100000 in
theorem L_runsIfSorted_W {σ : gS} {l0 : Nat} {l1 : Int32} {l2 : Nat} {res : (Int32 × gS)} {ls : Array Slot} (hC : gC E D A p R s m args meth c cL_runsIfSorted 4 RL "runsIfSorted" 8 132) (hQ : gQI E D A p l e R s m args below meth c Q cL_runsIfSorted FieldType.int res) (hTab : c.exceptionTable.toList = tableOf [((0 : Nat), (9 : Nat), (12 : Nat), (19 : Nat))]) (hst : l.stackTraces = false) (hf : L_runsIfSorted E l0 l1 l2 σ = some res) (hw : gW E D A s σ H locs) (hl : lv_has ls 4 [(0, .ref l0), (1, .int l1), (2, .ref l2)]) : W p l e R s m args below meth c H locs cells slots Q (F0 m 0 ls []) := by
  have hC0 := hC
  obtain ⟨hx, hb, hml, hown, hts, -⟩ := hC0
  unfold L_runsIfSorted at hf
  refine lv_aload_n hx hb dL_runsIfSorted_0 rfl (lv_at hl 2 rfl) ?_
  refine lv_iconst (v := 0) hx hb dL_runsIfSorted_1 (by decide) ?_
  refine lv_aload_n hx hb dL_runsIfSorted_2 rfl (lv_at hl 0 rfl) ?_
  refine lv_iload_n hx hb dL_runsIfSorted_3 rfl (lv_at hl 1 rfl) ?_
  obtain ⟨_, h3, hf⟩ := ob_some hf
  obtain ⟨x1, h2, hf⟩ := ob_some hf
  refine gg_yVI (As := [.int l1]) hC hw (X12_runsIfSorted_M l hst E D A h2) h3 rfl g_ml_L_111 hd_X12_runsIfSorted (Nat.le_of_ble_eq_true rfl) (Nat.le_of_ble_eq_true rfl) hl.1 rfl (Nat.le_of_ble_eq_true rfl) dL_runsIfSorted_4 (fun k9 σ9 he => ?_) (fun x5 σ4 he H locs cells slots hw => ?_)
  · subst he
    replace hf := gtry_inl.symm.trans hf
    by_cases c8 : k9 = 0
    · replace hf := (if_pos c8).symm.trans hf
      subst c8
      intro H locs cells slots q9 ce hw hce hv hcl
      refine gg_catch (k := 0) hC hTab [] (⟨0, 9, 12, 19⟩ : ExceptionTableEntry) [] rfl (fun z hz => nomatch hz) (by decide) (by decide) cl_L_19 (by decide) hce hv hcl ?_
      refine lv_astore_n (lv' := [(3, .ref q9), (0, .ref l0), (1, .int l1), (2, .ref l2)]) hx hb dL_runsIfSorted_12 rfl hl (by decide) rfl (fun ls hl => ?_)
      refine lv_iconst (v := 1) hx hb dL_runsIfSorted_13 (by decide) ?_
      cases hf
      exact hQ _ _ _ _ _ _ dL_runsIfSorted_14 rfl hw
    · replace hf := (if_neg c8).symm.trans hf
      cases hf
  · subst he
    replace hf := gtry_inr.symm.trans hf
    refine lv_i2l (v := x5.toInt64) hx hb dL_runsIfSorted_7 rfl ?_
    obtain ⟨σ6, h7, hf⟩ := ob_some hf
    refine gg_astJ hC hw h7 dL_runsIfSorted_8 (fun H locs hw => ?_)
    refine lv_goto (tgt := 15) hx hb dL_runsIfSorted_9 (by decide) ?_
    refine lv_iconst (v := 0) hx hb dL_runsIfSorted_15 (by decide) ?_
    cases hf
    exact hQ _ _ _ _ _ _ dL_runsIfSorted_16 rfl hw

def L_runsIfSorted_f (E : gE) (l0 : Nat) (l1 : Int32) (l2 : Nat) (σ : gS) : Option (Int32 × gS) := L_runsIfSorted E l0 l1 l2 σ
set_option maxRecDepth 100000 in
theorem L_runsIfSorted_M (l : Launch) (hst : l.stackTraces = false) (E : gE) (D : va_G) (A : Nat → Prop) {l0 : Nat} {l1 : Int32} {l2 : Nat} {σ : gS} {res : (Int32 × gS)} (hf : L_runsIfSorted_f E l0 l1 l2 σ = some res) : gYI l E D A yL_runsIfSorted (Cond.codeWith yL_runsIfSorted cL_runsIfSorted 4 (some FieldType.int) [((0 : Nat), (9 : Nat), (12 : Nat), (19 : Nat))]) 8 132 [.ref l0, .int l1, .ref l2] σ (.inr res.1, res.2) := by
  refine gg_entHI (own := RL) (nm := "runsIfSorted") (ty := FieldType.int) (by decide +kernel) rfl rfl (Nat.le_of_ble_eq_true rfl) rfl ?_
  intro p e R s m args below meth c Q ls hC hw hQ hTab hl
  replace hQ := hQ _ _ rfl
  have hl : lv_has ls 4 [(0, .ref l0), (1, .int l1), (2, .ref l2)] := hl
  exact L_runsIfSorted_W hC hQ hTab hst hf hw hl

def L_removeRow (E : gE) (l0 : Nat) (l1 : Int32) (l2 : Nat) (σ : gS) : Option (Int32 × gS) :=
  ob (gcl σ l0 10) fun _ =>
  ob (X12_removeRow_f E l0 l1 σ) fun x1 =>
  gtry x1 (fun k9 σ9 =>
    if k9 = 0 then
      some ((1 : Int32), σ9)
    else
    none) (fun x5 σ4 =>
    ob (gwaJ E σ4 l2 (0 : Int32) x5.toInt64) fun σ6 =>
    some ((0 : Int32), σ6))
set_option maxHeartbeats 4000000 in
set_option maxRecDepth 100000 in
theorem L_removeRow_W {σ : gS} {l0 : Nat} {l1 : Int32} {l2 : Nat} {res : (Int32 × gS)} {ls : Array Slot} (hC : gC E D A p R s m args meth c cL_removeRow 4 RL "removeRow" 8 186) (hQ : gQI E D A p l e R s m args below meth c Q cL_removeRow FieldType.int res) (hTab : c.exceptionTable.toList = tableOf [((0 : Nat), (9 : Nat), (12 : Nat), (19 : Nat))]) (hst : l.stackTraces = false) (hf : L_removeRow E l0 l1 l2 σ = some res) (hw : gW E D A s σ H locs) (hl : lv_has ls 4 [(0, .ref l0), (1, .int l1), (2, .ref l2)]) : W p l e R s m args below meth c H locs cells slots Q (F0 m 0 ls []) := by
  have hC0 := hC
  obtain ⟨hx, hb, hml, hown, hts, -⟩ := hC0
  unfold L_removeRow at hf
  refine lv_aload_n hx hb dL_removeRow_0 rfl (lv_at hl 2 rfl) ?_
  refine lv_iconst (v := 0) hx hb dL_removeRow_1 (by decide) ?_
  refine lv_aload_n hx hb dL_removeRow_2 rfl (lv_at hl 0 rfl) ?_
  refine lv_iload_n hx hb dL_removeRow_3 rfl (lv_at hl 1 rfl) ?_
  obtain ⟨_, h3, hf⟩ := ob_some hf
  obtain ⟨x1, h2, hf⟩ := ob_some hf
  refine gg_yVI (As := [.int l1]) hC hw (X12_removeRow_M l hst E D A h2) h3 rfl g_ml_L_117 hd_X12_removeRow (Nat.le_of_ble_eq_true rfl) (Nat.le_of_ble_eq_true rfl) hl.1 rfl (Nat.le_of_ble_eq_true rfl) dL_removeRow_4 (fun k9 σ9 he => ?_) (fun x5 σ4 he H locs cells slots hw => ?_)
  · subst he
    replace hf := gtry_inl.symm.trans hf
    by_cases c8 : k9 = 0
    · replace hf := (if_pos c8).symm.trans hf
      subst c8
      intro H locs cells slots q9 ce hw hce hv hcl
      refine gg_catch (k := 0) hC hTab [] (⟨0, 9, 12, 19⟩ : ExceptionTableEntry) [] rfl (fun z hz => nomatch hz) (by decide) (by decide) cl_L_19 (by decide) hce hv hcl ?_
      refine lv_astore_n (lv' := [(3, .ref q9), (0, .ref l0), (1, .int l1), (2, .ref l2)]) hx hb dL_removeRow_12 rfl hl (by decide) rfl (fun ls hl => ?_)
      refine lv_iconst (v := 1) hx hb dL_removeRow_13 (by decide) ?_
      cases hf
      exact hQ _ _ _ _ _ _ dL_removeRow_14 rfl hw
    · replace hf := (if_neg c8).symm.trans hf
      cases hf
  · subst he
    replace hf := gtry_inr.symm.trans hf
    refine lv_i2l (v := x5.toInt64) hx hb dL_removeRow_7 rfl ?_
    obtain ⟨σ6, h7, hf⟩ := ob_some hf
    refine gg_astJ hC hw h7 dL_removeRow_8 (fun H locs hw => ?_)
    refine lv_goto (tgt := 15) hx hb dL_removeRow_9 (by decide) ?_
    refine lv_iconst (v := 0) hx hb dL_removeRow_15 (by decide) ?_
    cases hf
    exact hQ _ _ _ _ _ _ dL_removeRow_16 rfl hw

def L_removeRow_f (E : gE) (l0 : Nat) (l1 : Int32) (l2 : Nat) (σ : gS) : Option (Int32 × gS) := L_removeRow E l0 l1 l2 σ
set_option maxRecDepth 100000 in
theorem L_removeRow_M (l : Launch) (hst : l.stackTraces = false) (E : gE) (D : va_G) (A : Nat → Prop) {l0 : Nat} {l1 : Int32} {l2 : Nat} {σ : gS} {res : (Int32 × gS)} (hf : L_removeRow_f E l0 l1 l2 σ = some res) : gYI l E D A yL_removeRow (Cond.codeWith yL_removeRow cL_removeRow 4 (some FieldType.int) [((0 : Nat), (9 : Nat), (12 : Nat), (19 : Nat))]) 8 186 [.ref l0, .int l1, .ref l2] σ (.inr res.1, res.2) := by
  refine gg_entHI (own := RL) (nm := "removeRow") (ty := FieldType.int) (by decide +kernel) rfl rfl (Nat.le_of_ble_eq_true rfl) rfl ?_
  intro p e R s m args below meth c Q ls hC hw hQ hTab hl
  replace hQ := hQ _ _ rfl
  have hl : lv_has ls 4 [(0, .ref l0), (1, .int l1), (2, .ref l2)] := hl
  exact L_removeRow_W hC hQ hTab hst hf hw hl

def L_setValue (E : gE) (l0 : Nat) (l1 : Int32) (l2 : Int32) (l3 : Int32) (l4 : Nat) (σ : gS) : Option (Int32 × gS) :=
  ob (gcl σ l0 10) fun _ =>
  ob (X12_setValue_f E l0 l1 l2 l3 σ) fun x1 =>
  gtry x1 (fun k9 σ9 =>
    if k9 = 0 then
      some ((1 : Int32), σ9)
    else
    if k9 = 1 then
      some ((2 : Int32), σ9)
    else
    none) (fun x5 σ4 =>
    ob (gwaJ E σ4 l4 (0 : Int32) x5.toInt64) fun σ6 =>
    some ((0 : Int32), σ6))
set_option maxHeartbeats 4000000 in
set_option maxRecDepth 100000 in
theorem L_setValue_W {σ : gS} {l0 : Nat} {l1 : Int32} {l2 : Int32} {l3 : Int32} {l4 : Nat} {res : (Int32 × gS)} {ls : Array Slot} (hC : gC E D A p R s m args meth c cL_setValue 6 RL "setValue" 8 189) (hQ : gQI E D A p l e R s m args below meth c Q cL_setValue FieldType.int res) (hTab : c.exceptionTable.toList = tableOf [((0 : Nat), (12 : Nat), (15 : Nat), (19 : Nat)), ((0 : Nat), (12 : Nat), (19 : Nat), (13 : Nat))]) (hst : l.stackTraces = false) (hf : L_setValue E l0 l1 l2 l3 l4 σ = some res) (hw : gW E D A s σ H locs) (hl : lv_has ls 6 [(0, .ref l0), (1, .int l1), (2, .int l2), (3, .int l3), (4, .ref l4)]) : W p l e R s m args below meth c H locs cells slots Q (F0 m 0 ls []) := by
  have hC0 := hC
  obtain ⟨hx, hb, hml, hown, hts, -⟩ := hC0
  unfold L_setValue at hf
  refine lv_aload hx hb dL_setValue_0 (lv_at hl 4 rfl) ?_
  refine lv_iconst (v := 0) hx hb dL_setValue_2 (by decide) ?_
  refine lv_aload_n hx hb dL_setValue_3 rfl (lv_at hl 0 rfl) ?_
  refine lv_iload_n hx hb dL_setValue_4 rfl (lv_at hl 1 rfl) ?_
  refine lv_iload_n hx hb dL_setValue_5 rfl (lv_at hl 2 rfl) ?_
  refine lv_iload_n hx hb dL_setValue_6 rfl (lv_at hl 3 rfl) ?_
  obtain ⟨_, h3, hf⟩ := ob_some hf
  obtain ⟨x1, h2, hf⟩ := ob_some hf
  refine gg_yVI (As := [.int l1, .int l2, .int l3]) hC hw (X12_setValue_M l hst E D A h2) h3 rfl g_ml_L_120 hd_X12_setValue (Nat.le_of_ble_eq_true rfl) (Nat.le_of_ble_eq_true rfl) hl.1 rfl (Nat.le_of_ble_eq_true rfl) dL_setValue_7 (fun k9 σ9 he => ?_) (fun x5 σ4 he H locs cells slots hw => ?_)
  · subst he
    replace hf := gtry_inl.symm.trans hf
    by_cases c8 : k9 = 0
    · replace hf := (if_pos c8).symm.trans hf
      subst c8
      intro H locs cells slots q9 ce hw hce hv hcl
      refine gg_catch (k := 0) hC hTab [] (⟨0, 12, 15, 19⟩ : ExceptionTableEntry) [⟨0, 12, 19, 13⟩] rfl (fun z hz => nomatch hz) (by decide) (by decide) cl_L_19 (by decide) hce hv hcl ?_
      refine lv_astore (lv' := [(5, .ref q9), (0, .ref l0), (1, .int l1), (2, .int l2), (3, .int l3), (4, .ref l4)]) hx hb dL_setValue_15 hl (by decide) rfl (fun ls hl => ?_)
      refine lv_iconst (v := 1) hx hb dL_setValue_17 (by decide) ?_
      cases hf
      exact hQ _ _ _ _ _ _ dL_setValue_18 rfl hw
    · replace hf := (if_neg c8).symm.trans hf
      by_cases c9 : k9 = 1
      · replace hf := (if_pos c9).symm.trans hf
        subst c9
        intro H locs cells slots q9 ce hw hce hv hcl
        refine gg_catch (k := 1) hC hTab [⟨0, 12, 15, 19⟩] (⟨0, 12, 19, 13⟩ : ExceptionTableEntry) [] rfl (by intro z hz; simp only [List.mem_cons, List.not_mem_nil, or_false] at hz; rcases hz with rfl <;> first | exact Or.inr ⟨by decide, _, cl_L_19, by decide⟩) (by decide) (by decide) cl_L_13 (by decide) hce hv hcl ?_
        refine lv_astore (lv' := [(5, .ref q9), (0, .ref l0), (1, .int l1), (2, .int l2), (3, .int l3), (4, .ref l4)]) hx hb dL_setValue_19 hl (by decide) rfl (fun ls hl => ?_)
        refine lv_iconst (v := 2) hx hb dL_setValue_21 (by decide) ?_
        cases hf
        exact hQ _ _ _ _ _ _ dL_setValue_22 rfl hw
      · replace hf := (if_neg c9).symm.trans hf
        cases hf
  · subst he
    replace hf := gtry_inr.symm.trans hf
    refine lv_i2l (v := x5.toInt64) hx hb dL_setValue_10 rfl ?_
    obtain ⟨σ6, h7, hf⟩ := ob_some hf
    refine gg_astJ hC hw h7 dL_setValue_11 (fun H locs hw => ?_)
    refine lv_goto (tgt := 23) hx hb dL_setValue_12 (by decide) ?_
    refine lv_iconst (v := 0) hx hb dL_setValue_23 (by decide) ?_
    cases hf
    exact hQ _ _ _ _ _ _ dL_setValue_24 rfl hw

def L_setValue_f (E : gE) (l0 : Nat) (l1 : Int32) (l2 : Int32) (l3 : Int32) (l4 : Nat) (σ : gS) : Option (Int32 × gS) := L_setValue E l0 l1 l2 l3 l4 σ
set_option maxRecDepth 100000 in
theorem L_setValue_M (l : Launch) (hst : l.stackTraces = false) (E : gE) (D : va_G) (A : Nat → Prop) {l0 : Nat} {l1 : Int32} {l2 : Int32} {l3 : Int32} {l4 : Nat} {σ : gS} {res : (Int32 × gS)} (hf : L_setValue_f E l0 l1 l2 l3 l4 σ = some res) : gYI l E D A yL_setValue (Cond.codeWith yL_setValue cL_setValue 6 (some FieldType.int) [((0 : Nat), (12 : Nat), (15 : Nat), (19 : Nat)), ((0 : Nat), (12 : Nat), (19 : Nat), (13 : Nat))]) 8 189 [.ref l0, .int l1, .int l2, .int l3, .ref l4] σ (.inr res.1, res.2) := by
  refine gg_entHI (own := RL) (nm := "setValue") (ty := FieldType.int) (by decide +kernel) rfl rfl (Nat.le_of_ble_eq_true rfl) rfl ?_
  intro p e R s m args below meth c Q ls hC hw hQ hTab hl
  replace hQ := hQ _ _ rfl
  have hl : lv_has ls 6 [(0, .ref l0), (1, .int l1), (2, .int l2), (3, .int l3), (4, .ref l4)] := hl
  exact L_setValue_W hC hQ hTab hst hf hw hl

def L_sort (E : gE) (l0 : Nat) (l1 : Int32) (l2 : Int32) (l3 : Nat) (σ : gS) : Option (Int32 × gS) :=
  ob (gcl σ l0 10) fun _ =>
  ob (X12_sort_f E l0 l1 l2 σ) fun x1 =>
  gtry x1 (fun k9 σ9 =>
    if k9 = 0 then
      some ((1 : Int32), σ9)
    else
    none) (fun x5 σ4 =>
    ob (gwaJ E σ4 l3 (0 : Int32) x5.toInt64) fun σ6 =>
    some ((0 : Int32), σ6))
set_option maxHeartbeats 4000000 in
set_option maxRecDepth 100000 in
theorem L_sort_W {σ : gS} {l0 : Nat} {l1 : Int32} {l2 : Int32} {l3 : Nat} {res : (Int32 × gS)} {ls : Array Slot} (hC : gC E D A p R s m args meth c cL_sort 5 RL "sort" 8 189) (hQ : gQI E D A p l e R s m args below meth c Q cL_sort FieldType.int res) (hTab : c.exceptionTable.toList = tableOf [((0 : Nat), (10 : Nat), (13 : Nat), (19 : Nat))]) (hst : l.stackTraces = false) (hf : L_sort E l0 l1 l2 l3 σ = some res) (hw : gW E D A s σ H locs) (hl : lv_has ls 5 [(0, .ref l0), (1, .int l1), (2, .int l2), (3, .ref l3)]) : W p l e R s m args below meth c H locs cells slots Q (F0 m 0 ls []) := by
  have hC0 := hC
  obtain ⟨hx, hb, hml, hown, hts, -⟩ := hC0
  unfold L_sort at hf
  refine lv_aload_n hx hb dL_sort_0 rfl (lv_at hl 3 rfl) ?_
  refine lv_iconst (v := 0) hx hb dL_sort_1 (by decide) ?_
  refine lv_aload_n hx hb dL_sort_2 rfl (lv_at hl 0 rfl) ?_
  refine lv_iload_n hx hb dL_sort_3 rfl (lv_at hl 1 rfl) ?_
  refine lv_iload_n hx hb dL_sort_4 rfl (lv_at hl 2 rfl) ?_
  obtain ⟨_, h3, hf⟩ := ob_some hf
  obtain ⟨x1, h2, hf⟩ := ob_some hf
  refine gg_yVI (As := [.int l1, .int l2]) hC hw (X12_sort_M l hst E D A h2) h3 rfl g_ml_L_124 hd_X12_sort (Nat.le_of_ble_eq_true rfl) (Nat.le_of_ble_eq_true rfl) hl.1 rfl (Nat.le_of_ble_eq_true rfl) dL_sort_5 (fun k9 σ9 he => ?_) (fun x5 σ4 he H locs cells slots hw => ?_)
  · subst he
    replace hf := gtry_inl.symm.trans hf
    by_cases c8 : k9 = 0
    · replace hf := (if_pos c8).symm.trans hf
      subst c8
      intro H locs cells slots q9 ce hw hce hv hcl
      refine gg_catch (k := 0) hC hTab [] (⟨0, 10, 13, 19⟩ : ExceptionTableEntry) [] rfl (fun z hz => nomatch hz) (by decide) (by decide) cl_L_19 (by decide) hce hv hcl ?_
      refine lv_astore (lv' := [(4, .ref q9), (0, .ref l0), (1, .int l1), (2, .int l2), (3, .ref l3)]) hx hb dL_sort_13 hl (by decide) rfl (fun ls hl => ?_)
      refine lv_iconst (v := 1) hx hb dL_sort_15 (by decide) ?_
      cases hf
      exact hQ _ _ _ _ _ _ dL_sort_16 rfl hw
    · replace hf := (if_neg c8).symm.trans hf
      cases hf
  · subst he
    replace hf := gtry_inr.symm.trans hf
    refine lv_i2l (v := x5.toInt64) hx hb dL_sort_8 rfl ?_
    obtain ⟨σ6, h7, hf⟩ := ob_some hf
    refine gg_astJ hC hw h7 dL_sort_9 (fun H locs hw => ?_)
    refine lv_goto (tgt := 17) hx hb dL_sort_10 (by decide) ?_
    refine lv_iconst (v := 0) hx hb dL_sort_17 (by decide) ?_
    cases hf
    exact hQ _ _ _ _ _ _ dL_sort_18 rfl hw

def L_sort_f (E : gE) (l0 : Nat) (l1 : Int32) (l2 : Int32) (l3 : Nat) (σ : gS) : Option (Int32 × gS) := L_sort E l0 l1 l2 l3 σ
set_option maxRecDepth 100000 in
theorem L_sort_M (l : Launch) (hst : l.stackTraces = false) (E : gE) (D : va_G) (A : Nat → Prop) {l0 : Nat} {l1 : Int32} {l2 : Int32} {l3 : Nat} {σ : gS} {res : (Int32 × gS)} (hf : L_sort_f E l0 l1 l2 l3 σ = some res) : gYI l E D A yL_sort (Cond.codeWith yL_sort cL_sort 5 (some FieldType.int) [((0 : Nat), (10 : Nat), (13 : Nat), (19 : Nat))]) 8 189 [.ref l0, .int l1, .int l2, .ref l3] σ (.inr res.1, res.2) := by
  refine gg_entHI (own := RL) (nm := "sort") (ty := FieldType.int) (by decide +kernel) rfl rfl (Nat.le_of_ble_eq_true rfl) rfl ?_
  intro p e R s m args below meth c Q ls hC hw hQ hTab hl
  replace hQ := hQ _ _ rfl
  have hl : lv_has ls 5 [(0, .ref l0), (1, .int l1), (2, .int l2), (3, .ref l3)] := hl
  exact L_sort_W hC hQ hTab hst hf hw hl

def L_removeCondition (E : gE) (l0 : Nat) (l1 : Int32) (l2 : Nat) (σ : gS) : Option (Int32 × gS) :=
  ob (gcl σ l0 10) fun _ =>
  ob (X12_removeCondition_f E l0 l1 σ) fun x1 =>
  gtry x1 (fun k9 σ9 =>
    if k9 = 0 then
      some ((1 : Int32), σ9)
    else
    none) (fun x5 σ4 =>
    ob (gwaJ E σ4 l2 (0 : Int32) x5.toInt64) fun σ6 =>
    some ((0 : Int32), σ6))
set_option maxHeartbeats 4000000 in
set_option maxRecDepth 100000 in
theorem L_removeCondition_W {σ : gS} {l0 : Nat} {l1 : Int32} {l2 : Nat} {res : (Int32 × gS)} {ls : Array Slot} (hC : gC E D A p R s m args meth c cL_removeCondition 4 RL "removeCondition" 8 186) (hQ : gQI E D A p l e R s m args below meth c Q cL_removeCondition FieldType.int res) (hTab : c.exceptionTable.toList = tableOf [((0 : Nat), (9 : Nat), (12 : Nat), (19 : Nat))]) (hst : l.stackTraces = false) (hf : L_removeCondition E l0 l1 l2 σ = some res) (hw : gW E D A s σ H locs) (hl : lv_has ls 4 [(0, .ref l0), (1, .int l1), (2, .ref l2)]) : W p l e R s m args below meth c H locs cells slots Q (F0 m 0 ls []) := by
  have hC0 := hC
  obtain ⟨hx, hb, hml, hown, hts, -⟩ := hC0
  unfold L_removeCondition at hf
  refine lv_aload_n hx hb dL_removeCondition_0 rfl (lv_at hl 2 rfl) ?_
  refine lv_iconst (v := 0) hx hb dL_removeCondition_1 (by decide) ?_
  refine lv_aload_n hx hb dL_removeCondition_2 rfl (lv_at hl 0 rfl) ?_
  refine lv_iload_n hx hb dL_removeCondition_3 rfl (lv_at hl 1 rfl) ?_
  obtain ⟨_, h3, hf⟩ := ob_some hf
  obtain ⟨x1, h2, hf⟩ := ob_some hf
  refine gg_yVI (As := [.int l1]) hC hw (X12_removeCondition_M l hst E D A h2) h3 rfl g_ml_L_137 hd_X12_removeCondition (Nat.le_of_ble_eq_true rfl) (Nat.le_of_ble_eq_true rfl) hl.1 rfl (Nat.le_of_ble_eq_true rfl) dL_removeCondition_4 (fun k9 σ9 he => ?_) (fun x5 σ4 he H locs cells slots hw => ?_)
  · subst he
    replace hf := gtry_inl.symm.trans hf
    by_cases c8 : k9 = 0
    · replace hf := (if_pos c8).symm.trans hf
      subst c8
      intro H locs cells slots q9 ce hw hce hv hcl
      refine gg_catch (k := 0) hC hTab [] (⟨0, 9, 12, 19⟩ : ExceptionTableEntry) [] rfl (fun z hz => nomatch hz) (by decide) (by decide) cl_L_19 (by decide) hce hv hcl ?_
      refine lv_astore_n (lv' := [(3, .ref q9), (0, .ref l0), (1, .int l1), (2, .ref l2)]) hx hb dL_removeCondition_12 rfl hl (by decide) rfl (fun ls hl => ?_)
      refine lv_iconst (v := 1) hx hb dL_removeCondition_13 (by decide) ?_
      cases hf
      exact hQ _ _ _ _ _ _ dL_removeCondition_14 rfl hw
    · replace hf := (if_neg c8).symm.trans hf
      cases hf
  · subst he
    replace hf := gtry_inr.symm.trans hf
    refine lv_i2l (v := x5.toInt64) hx hb dL_removeCondition_7 rfl ?_
    obtain ⟨σ6, h7, hf⟩ := ob_some hf
    refine gg_astJ hC hw h7 dL_removeCondition_8 (fun H locs hw => ?_)
    refine lv_goto (tgt := 15) hx hb dL_removeCondition_9 (by decide) ?_
    refine lv_iconst (v := 0) hx hb dL_removeCondition_15 (by decide) ?_
    cases hf
    exact hQ _ _ _ _ _ _ dL_removeCondition_16 rfl hw

def L_removeCondition_f (E : gE) (l0 : Nat) (l1 : Int32) (l2 : Nat) (σ : gS) : Option (Int32 × gS) := L_removeCondition E l0 l1 l2 σ
set_option maxRecDepth 100000 in
theorem L_removeCondition_M (l : Launch) (hst : l.stackTraces = false) (E : gE) (D : va_G) (A : Nat → Prop) {l0 : Nat} {l1 : Int32} {l2 : Nat} {σ : gS} {res : (Int32 × gS)} (hf : L_removeCondition_f E l0 l1 l2 σ = some res) : gYI l E D A yL_removeCondition (Cond.codeWith yL_removeCondition cL_removeCondition 4 (some FieldType.int) [((0 : Nat), (9 : Nat), (12 : Nat), (19 : Nat))]) 8 186 [.ref l0, .int l1, .ref l2] σ (.inr res.1, res.2) := by
  refine gg_entHI (own := RL) (nm := "removeCondition") (ty := FieldType.int) (by decide +kernel) rfl rfl (Nat.le_of_ble_eq_true rfl) rfl ?_
  intro p e R s m args below meth c Q ls hC hw hQ hTab hl
  replace hQ := hQ _ _ rfl
  have hl : lv_has ls 4 [(0, .ref l0), (1, .int l1), (2, .ref l2)] := hl
  exact L_removeCondition_W hC hQ hTab hst hf hw hl

def L_compact (E : gE) (l0 : Nat) (l1 : Int32) (l2 : Nat) (σ : gS) : Option (Int32 × gS) :=
  ob (gcl σ l0 10) fun _ =>
  ob (X12_compact_f E l0 l1 σ) fun x1 =>
  gtry x1 (fun k9 σ9 =>
    if k9 = 0 then
      some ((1 : Int32), σ9)
    else
    none) (fun x5 σ4 =>
    ob (gwaJ E σ4 l2 (0 : Int32) x5.toInt64) fun σ6 =>
    some ((0 : Int32), σ6))
set_option maxHeartbeats 4000000 in
set_option maxRecDepth 100000 in
theorem L_compact_W {σ : gS} {l0 : Nat} {l1 : Int32} {l2 : Nat} {res : (Int32 × gS)} {ls : Array Slot} (hC : gC E D A p R s m args meth c cL_compact 4 RL "compact" 8 188) (hQ : gQI E D A p l e R s m args below meth c Q cL_compact FieldType.int res) (hTab : c.exceptionTable.toList = tableOf [((0 : Nat), (9 : Nat), (12 : Nat), (19 : Nat))]) (hst : l.stackTraces = false) (hf : L_compact E l0 l1 l2 σ = some res) (hw : gW E D A s σ H locs) (hl : lv_has ls 4 [(0, .ref l0), (1, .int l1), (2, .ref l2)]) : W p l e R s m args below meth c H locs cells slots Q (F0 m 0 ls []) := by
  have hC0 := hC
  obtain ⟨hx, hb, hml, hown, hts, -⟩ := hC0
  unfold L_compact at hf
  refine lv_aload_n hx hb dL_compact_0 rfl (lv_at hl 2 rfl) ?_
  refine lv_iconst (v := 0) hx hb dL_compact_1 (by decide) ?_
  refine lv_aload_n hx hb dL_compact_2 rfl (lv_at hl 0 rfl) ?_
  refine lv_iload_n hx hb dL_compact_3 rfl (lv_at hl 1 rfl) ?_
  obtain ⟨_, h3, hf⟩ := ob_some hf
  obtain ⟨x1, h2, hf⟩ := ob_some hf
  refine gg_yVI (As := [.int l1]) hC hw (X12_compact_M l hst E D A h2) h3 rfl g_ml_L_140 hd_X12_compact (Nat.le_of_ble_eq_true rfl) (Nat.le_of_ble_eq_true rfl) hl.1 rfl (Nat.le_of_ble_eq_true rfl) dL_compact_4 (fun k9 σ9 he => ?_) (fun x5 σ4 he H locs cells slots hw => ?_)
  · subst he
    replace hf := gtry_inl.symm.trans hf
    by_cases c8 : k9 = 0
    · replace hf := (if_pos c8).symm.trans hf
      subst c8
      intro H locs cells slots q9 ce hw hce hv hcl
      refine gg_catch (k := 0) hC hTab [] (⟨0, 9, 12, 19⟩ : ExceptionTableEntry) [] rfl (fun z hz => nomatch hz) (by decide) (by decide) cl_L_19 (by decide) hce hv hcl ?_
      refine lv_astore_n (lv' := [(3, .ref q9), (0, .ref l0), (1, .int l1), (2, .ref l2)]) hx hb dL_compact_12 rfl hl (by decide) rfl (fun ls hl => ?_)
      refine lv_iconst (v := 1) hx hb dL_compact_13 (by decide) ?_
      cases hf
      exact hQ _ _ _ _ _ _ dL_compact_14 rfl hw
    · replace hf := (if_neg c8).symm.trans hf
      cases hf
  · subst he
    replace hf := gtry_inr.symm.trans hf
    refine lv_i2l (v := x5.toInt64) hx hb dL_compact_7 rfl ?_
    obtain ⟨σ6, h7, hf⟩ := ob_some hf
    refine gg_astJ hC hw h7 dL_compact_8 (fun H locs hw => ?_)
    refine lv_goto (tgt := 15) hx hb dL_compact_9 (by decide) ?_
    refine lv_iconst (v := 0) hx hb dL_compact_15 (by decide) ?_
    cases hf
    exact hQ _ _ _ _ _ _ dL_compact_16 rfl hw

def L_compact_f (E : gE) (l0 : Nat) (l1 : Int32) (l2 : Nat) (σ : gS) : Option (Int32 × gS) := L_compact E l0 l1 l2 σ
set_option maxRecDepth 100000 in
theorem L_compact_M (l : Launch) (hst : l.stackTraces = false) (E : gE) (D : va_G) (A : Nat → Prop) {l0 : Nat} {l1 : Int32} {l2 : Nat} {σ : gS} {res : (Int32 × gS)} (hf : L_compact_f E l0 l1 l2 σ = some res) : gYI l E D A yL_compact (Cond.codeWith yL_compact cL_compact 4 (some FieldType.int) [((0 : Nat), (9 : Nat), (12 : Nat), (19 : Nat))]) 8 188 [.ref l0, .int l1, .ref l2] σ (.inr res.1, res.2) := by
  refine gg_entHI (own := RL) (nm := "compact") (ty := FieldType.int) (by decide +kernel) rfl rfl (Nat.le_of_ble_eq_true rfl) rfl ?_
  intro p e R s m args below meth c Q ls hC hw hQ hTab hl
  replace hQ := hQ _ _ rfl
  have hl : lv_has ls 4 [(0, .ref l0), (1, .int l1), (2, .ref l2)] := hl
  exact L_compact_W hC hQ hTab hst hf hw hl

def L_writeRow (E : gE) (l0 : Nat) (l1 : Int32) (l2 : Nat) (σ : gS) : Option (Int32 × gS) :=
  ob (gcl σ l0 10) fun _ =>
  ob (X12_writeRow_f E l0 l1 σ) fun x1 =>
  gtry x1 (fun k9 σ9 =>
    if k9 = 0 then
      some ((1 : Int32), σ9)
    else
    none) (fun x5 σ4 =>
    ob (gwaJ E σ4 l2 (0 : Int32) x5.toInt64) fun σ6 =>
    some ((0 : Int32), σ6))
set_option maxHeartbeats 4000000 in
set_option maxRecDepth 100000 in
theorem L_writeRow_W {σ : gS} {l0 : Nat} {l1 : Int32} {l2 : Nat} {res : (Int32 × gS)} {ls : Array Slot} (hC : gC E D A p R s m args meth c cL_writeRow 4 RL "writeRow" 8 133) (hQ : gQI E D A p l e R s m args below meth c Q cL_writeRow FieldType.int res) (hTab : c.exceptionTable.toList = tableOf [((0 : Nat), (9 : Nat), (12 : Nat), (19 : Nat))]) (hst : l.stackTraces = false) (hf : L_writeRow E l0 l1 l2 σ = some res) (hw : gW E D A s σ H locs) (hl : lv_has ls 4 [(0, .ref l0), (1, .int l1), (2, .ref l2)]) : W p l e R s m args below meth c H locs cells slots Q (F0 m 0 ls []) := by
  have hC0 := hC
  obtain ⟨hx, hb, hml, hown, hts, -⟩ := hC0
  unfold L_writeRow at hf
  refine lv_aload_n hx hb dL_writeRow_0 rfl (lv_at hl 2 rfl) ?_
  refine lv_iconst (v := 0) hx hb dL_writeRow_1 (by decide) ?_
  refine lv_aload_n hx hb dL_writeRow_2 rfl (lv_at hl 0 rfl) ?_
  refine lv_iload_n hx hb dL_writeRow_3 rfl (lv_at hl 1 rfl) ?_
  obtain ⟨_, h3, hf⟩ := ob_some hf
  obtain ⟨x1, h2, hf⟩ := ob_some hf
  refine gg_yVI (As := [.int l1]) hC hw (X12_writeRow_M l hst E D A h2) h3 rfl g_ml_L_146 hd_X12_writeRow (Nat.le_of_ble_eq_true rfl) (Nat.le_of_ble_eq_true rfl) hl.1 rfl (Nat.le_of_ble_eq_true rfl) dL_writeRow_4 (fun k9 σ9 he => ?_) (fun x5 σ4 he H locs cells slots hw => ?_)
  · subst he
    replace hf := gtry_inl.symm.trans hf
    by_cases c8 : k9 = 0
    · replace hf := (if_pos c8).symm.trans hf
      subst c8
      intro H locs cells slots q9 ce hw hce hv hcl
      refine gg_catch (k := 0) hC hTab [] (⟨0, 9, 12, 19⟩ : ExceptionTableEntry) [] rfl (fun z hz => nomatch hz) (by decide) (by decide) cl_L_19 (by decide) hce hv hcl ?_
      refine lv_astore_n (lv' := [(3, .ref q9), (0, .ref l0), (1, .int l1), (2, .ref l2)]) hx hb dL_writeRow_12 rfl hl (by decide) rfl (fun ls hl => ?_)
      refine lv_iconst (v := 1) hx hb dL_writeRow_13 (by decide) ?_
      cases hf
      exact hQ _ _ _ _ _ _ dL_writeRow_14 rfl hw
    · replace hf := (if_neg c8).symm.trans hf
      cases hf
  · subst he
    replace hf := gtry_inr.symm.trans hf
    refine lv_i2l (v := x5.toInt64) hx hb dL_writeRow_7 rfl ?_
    obtain ⟨σ6, h7, hf⟩ := ob_some hf
    refine gg_astJ hC hw h7 dL_writeRow_8 (fun H locs hw => ?_)
    refine lv_goto (tgt := 15) hx hb dL_writeRow_9 (by decide) ?_
    refine lv_iconst (v := 0) hx hb dL_writeRow_15 (by decide) ?_
    cases hf
    exact hQ _ _ _ _ _ _ dL_writeRow_16 rfl hw

def L_writeRow_f (E : gE) (l0 : Nat) (l1 : Int32) (l2 : Nat) (σ : gS) : Option (Int32 × gS) := L_writeRow E l0 l1 l2 σ
set_option maxRecDepth 100000 in
theorem L_writeRow_M (l : Launch) (hst : l.stackTraces = false) (E : gE) (D : va_G) (A : Nat → Prop) {l0 : Nat} {l1 : Int32} {l2 : Nat} {σ : gS} {res : (Int32 × gS)} (hf : L_writeRow_f E l0 l1 l2 σ = some res) : gYI l E D A yL_writeRow (Cond.codeWith yL_writeRow cL_writeRow 4 (some FieldType.int) [((0 : Nat), (9 : Nat), (12 : Nat), (19 : Nat))]) 8 133 [.ref l0, .int l1, .ref l2] σ (.inr res.1, res.2) := by
  refine gg_entHI (own := RL) (nm := "writeRow") (ty := FieldType.int) (by decide +kernel) rfl rfl (Nat.le_of_ble_eq_true rfl) rfl ?_
  intro p e R s m args below meth c Q ls hC hw hQ hTab hl
  replace hQ := hQ _ _ rfl
  have hl : lv_has ls 4 [(0, .ref l0), (1, .int l1), (2, .ref l2)] := hl
  exact L_writeRow_W hC hQ hTab hst hf hw hl

def L_undo (E : gE) (l0 : Nat) (l1 : Nat) (σ : gS) : Option (Int32 × gS) :=
  ob (gcl σ l0 10) fun _ =>
  ob (X12_undo_f E l0 σ) fun x1 =>
  gtry x1 (fun k9 σ9 =>
    if k9 = 2 then
      some ((1 : Int32), σ9)
    else
    none) (fun x5 σ4 =>
    ob (gwaJ E σ4 l1 (0 : Int32) x5.toInt64) fun σ6 =>
    some ((0 : Int32), σ6))
set_option maxHeartbeats 4000000 in
set_option maxRecDepth 100000 in
theorem L_undo_W {σ : gS} {l0 : Nat} {l1 : Nat} {res : (Int32 × gS)} {ls : Array Slot} (hC : gC E D A p R s m args meth c cL_undo 3 RL "undo" 8 185) (hQ : gQI E D A p l e R s m args below meth c Q cL_undo FieldType.int res) (hTab : c.exceptionTable.toList = tableOf [((0 : Nat), (8 : Nat), (11 : Nat), (93 : Nat))]) (hst : l.stackTraces = false) (hf : L_undo E l0 l1 σ = some res) (hw : gW E D A s σ H locs) (hl : lv_has ls 3 [(0, .ref l0), (1, .ref l1)]) : W p l e R s m args below meth c H locs cells slots Q (F0 m 0 ls []) := by
  have hC0 := hC
  obtain ⟨hx, hb, hml, hown, hts, -⟩ := hC0
  unfold L_undo at hf
  refine lv_aload_n hx hb dL_undo_0 rfl (lv_at hl 1 rfl) ?_
  refine lv_iconst (v := 0) hx hb dL_undo_1 (by decide) ?_
  refine lv_aload_n hx hb dL_undo_2 rfl (lv_at hl 0 rfl) ?_
  obtain ⟨_, h3, hf⟩ := ob_some hf
  obtain ⟨x1, h2, hf⟩ := ob_some hf
  refine gg_yVI (As := []) hC hw (X12_undo_M l hst E D A h2) h3 rfl g_ml_L_152 hd_X12_undo (Nat.le_of_ble_eq_true rfl) (Nat.le_of_ble_eq_true rfl) hl.1 rfl (Nat.le_of_ble_eq_true rfl) dL_undo_3 (fun k9 σ9 he => ?_) (fun x5 σ4 he H locs cells slots hw => ?_)
  · subst he
    replace hf := gtry_inl.symm.trans hf
    by_cases c8 : k9 = 2
    · replace hf := (if_pos c8).symm.trans hf
      subst c8
      intro H locs cells slots q9 ce hw hce hv hcl
      refine gg_catch (k := 2) hC hTab [] (⟨0, 8, 11, 93⟩ : ExceptionTableEntry) [] rfl (fun z hz => nomatch hz) (by decide) (by decide) cl_L_93 (by decide) hce hv hcl ?_
      refine lv_astore_n (lv' := [(2, .ref q9), (0, .ref l0), (1, .ref l1)]) hx hb dL_undo_11 rfl hl (by decide) rfl (fun ls hl => ?_)
      refine lv_iconst (v := 1) hx hb dL_undo_12 (by decide) ?_
      cases hf
      exact hQ _ _ _ _ _ _ dL_undo_13 rfl hw
    · replace hf := (if_neg c8).symm.trans hf
      cases hf
  · subst he
    replace hf := gtry_inr.symm.trans hf
    refine lv_i2l (v := x5.toInt64) hx hb dL_undo_6 rfl ?_
    obtain ⟨σ6, h7, hf⟩ := ob_some hf
    refine gg_astJ hC hw h7 dL_undo_7 (fun H locs hw => ?_)
    refine lv_goto (tgt := 14) hx hb dL_undo_8 (by decide) ?_
    refine lv_iconst (v := 0) hx hb dL_undo_14 (by decide) ?_
    cases hf
    exact hQ _ _ _ _ _ _ dL_undo_15 rfl hw

def L_undo_f (E : gE) (l0 : Nat) (l1 : Nat) (σ : gS) : Option (Int32 × gS) := L_undo E l0 l1 σ
set_option maxRecDepth 100000 in
theorem L_undo_M (l : Launch) (hst : l.stackTraces = false) (E : gE) (D : va_G) (A : Nat → Prop) {l0 : Nat} {l1 : Nat} {σ : gS} {res : (Int32 × gS)} (hf : L_undo_f E l0 l1 σ = some res) : gYI l E D A yL_undo (Cond.codeWith yL_undo cL_undo 3 (some FieldType.int) [((0 : Nat), (8 : Nat), (11 : Nat), (93 : Nat))]) 8 185 [.ref l0, .ref l1] σ (.inr res.1, res.2) := by
  refine gg_entHI (own := RL) (nm := "undo") (ty := FieldType.int) (by decide +kernel) rfl rfl (Nat.le_of_ble_eq_true rfl) rfl ?_
  intro p e R s m args below meth c Q ls hC hw hQ hTab hl
  replace hQ := hQ _ _ rfl
  have hl : lv_has ls 3 [(0, .ref l0), (1, .ref l1)] := hl
  exact L_undo_W hC hQ hTab hst hf hw hl

def L_addLess (E : gE) (l0 : Nat) (l1 : Int32) (l2 : Int32) (l3 : Nat) (σ : gS) : Option (Int32 × gS) :=
  ob (gcl σ l0 10) fun _ =>
  ob (X12_addLess_f E l0 l1 l2 σ) fun x1 =>
  gtry x1 (fun k9 σ9 =>
    if k9 = 0 then
      some ((1 : Int32), σ9)
    else
    if k9 = 1 then
      some ((2 : Int32), σ9)
    else
    if k9 = 2 then
      some ((3 : Int32), σ9)
    else
    none) (fun x5 σ4 =>
    ob (gwaJ E σ4 l3 (0 : Int32) x5.toInt64) fun σ6 =>
    some ((0 : Int32), σ6))
set_option maxHeartbeats 4000000 in
set_option maxRecDepth 100000 in
theorem L_addLess_W {σ : gS} {l0 : Nat} {l1 : Int32} {l2 : Int32} {l3 : Nat} {res : (Int32 × gS)} {ls : Array Slot} (hC : gC E D A p R s m args meth c cL_addLess 5 RL "addLess" 9 210) (hQ : gQI E D A p l e R s m args below meth c Q cL_addLess FieldType.int res) (hTab : c.exceptionTable.toList = tableOf [((0 : Nat), (10 : Nat), (13 : Nat), (19 : Nat)), ((0 : Nat), (10 : Nat), (17 : Nat), (13 : Nat)), ((0 : Nat), (10 : Nat), (21 : Nat), (93 : Nat))]) (hst : l.stackTraces = false) (hf : L_addLess E l0 l1 l2 l3 σ = some res) (hw : gW E D A s σ H locs) (hl : lv_has ls 5 [(0, .ref l0), (1, .int l1), (2, .int l2), (3, .ref l3)]) : W p l e R s m args below meth c H locs cells slots Q (F0 m 0 ls []) := by
  have hC0 := hC
  obtain ⟨hx, hb, hml, hown, hts, -⟩ := hC0
  unfold L_addLess at hf
  refine lv_aload_n hx hb dL_addLess_0 rfl (lv_at hl 3 rfl) ?_
  refine lv_iconst (v := 0) hx hb dL_addLess_1 (by decide) ?_
  refine lv_aload_n hx hb dL_addLess_2 rfl (lv_at hl 0 rfl) ?_
  refine lv_iload_n hx hb dL_addLess_3 rfl (lv_at hl 1 rfl) ?_
  refine lv_iload_n hx hb dL_addLess_4 rfl (lv_at hl 2 rfl) ?_
  obtain ⟨_, h3, hf⟩ := ob_some hf
  obtain ⟨x1, h2, hf⟩ := ob_some hf
  refine gg_yVI (As := [.int l1, .int l2]) hC hw (X12_addLess_M l hst E D A h2) h3 rfl g_ml_L_128 hd_X12_addLess (Nat.le_of_ble_eq_true rfl) (Nat.le_of_ble_eq_true rfl) hl.1 rfl (Nat.le_of_ble_eq_true rfl) dL_addLess_5 (fun k9 σ9 he => ?_) (fun x5 σ4 he H locs cells slots hw => ?_)
  · subst he
    replace hf := gtry_inl.symm.trans hf
    by_cases c8 : k9 = 0
    · replace hf := (if_pos c8).symm.trans hf
      subst c8
      intro H locs cells slots q9 ce hw hce hv hcl
      refine gg_catch (k := 0) hC hTab [] (⟨0, 10, 13, 19⟩ : ExceptionTableEntry) [⟨0, 10, 17, 13⟩, ⟨0, 10, 21, 93⟩] rfl (fun z hz => nomatch hz) (by decide) (by decide) cl_L_19 (by decide) hce hv hcl ?_
      refine lv_astore (lv' := [(4, .ref q9), (0, .ref l0), (1, .int l1), (2, .int l2), (3, .ref l3)]) hx hb dL_addLess_13 hl (by decide) rfl (fun ls hl => ?_)
      refine lv_iconst (v := 1) hx hb dL_addLess_15 (by decide) ?_
      cases hf
      exact hQ _ _ _ _ _ _ dL_addLess_16 rfl hw
    · replace hf := (if_neg c8).symm.trans hf
      by_cases c9 : k9 = 1
      · replace hf := (if_pos c9).symm.trans hf
        subst c9
        intro H locs cells slots q9 ce hw hce hv hcl
        refine gg_catch (k := 1) hC hTab [⟨0, 10, 13, 19⟩] (⟨0, 10, 17, 13⟩ : ExceptionTableEntry) [⟨0, 10, 21, 93⟩] rfl (by intro z hz; simp only [List.mem_cons, List.not_mem_nil, or_false] at hz; rcases hz with rfl <;> first | exact Or.inr ⟨by decide, _, cl_L_19, by decide⟩) (by decide) (by decide) cl_L_13 (by decide) hce hv hcl ?_
        refine lv_astore (lv' := [(4, .ref q9), (0, .ref l0), (1, .int l1), (2, .int l2), (3, .ref l3)]) hx hb dL_addLess_17 hl (by decide) rfl (fun ls hl => ?_)
        refine lv_iconst (v := 2) hx hb dL_addLess_19 (by decide) ?_
        cases hf
        exact hQ _ _ _ _ _ _ dL_addLess_20 rfl hw
      · replace hf := (if_neg c9).symm.trans hf
        by_cases c10 : k9 = 2
        · replace hf := (if_pos c10).symm.trans hf
          subst c10
          intro H locs cells slots q9 ce hw hce hv hcl
          refine gg_catch (k := 2) hC hTab [⟨0, 10, 13, 19⟩, ⟨0, 10, 17, 13⟩] (⟨0, 10, 21, 93⟩ : ExceptionTableEntry) [] rfl (by intro z hz; simp only [List.mem_cons, List.not_mem_nil, or_false] at hz; rcases hz with rfl | rfl <;> first | exact Or.inr ⟨by decide, _, cl_L_19, by decide⟩ | exact Or.inr ⟨by decide, _, cl_L_13, by decide⟩) (by decide) (by decide) cl_L_93 (by decide) hce hv hcl ?_
          refine lv_astore (lv' := [(4, .ref q9), (0, .ref l0), (1, .int l1), (2, .int l2), (3, .ref l3)]) hx hb dL_addLess_21 hl (by decide) rfl (fun ls hl => ?_)
          refine lv_iconst (v := 3) hx hb dL_addLess_23 (by decide) ?_
          cases hf
          exact hQ _ _ _ _ _ _ dL_addLess_24 rfl hw
        · replace hf := (if_neg c10).symm.trans hf
          cases hf
  · subst he
    replace hf := gtry_inr.symm.trans hf
    refine lv_i2l (v := x5.toInt64) hx hb dL_addLess_8 rfl ?_
    obtain ⟨σ6, h7, hf⟩ := ob_some hf
    refine gg_astJ hC hw h7 dL_addLess_9 (fun H locs hw => ?_)
    refine lv_goto (tgt := 25) hx hb dL_addLess_10 (by decide) ?_
    refine lv_iconst (v := 0) hx hb dL_addLess_25 (by decide) ?_
    cases hf
    exact hQ _ _ _ _ _ _ dL_addLess_26 rfl hw

def L_addLess_f (E : gE) (l0 : Nat) (l1 : Int32) (l2 : Int32) (l3 : Nat) (σ : gS) : Option (Int32 × gS) := L_addLess E l0 l1 l2 l3 σ
set_option maxRecDepth 100000 in
theorem L_addLess_M (l : Launch) (hst : l.stackTraces = false) (E : gE) (D : va_G) (A : Nat → Prop) {l0 : Nat} {l1 : Int32} {l2 : Int32} {l3 : Nat} {σ : gS} {res : (Int32 × gS)} (hf : L_addLess_f E l0 l1 l2 l3 σ = some res) : gYI l E D A yL_addLess (Cond.codeWith yL_addLess cL_addLess 5 (some FieldType.int) [((0 : Nat), (10 : Nat), (13 : Nat), (19 : Nat)), ((0 : Nat), (10 : Nat), (17 : Nat), (13 : Nat)), ((0 : Nat), (10 : Nat), (21 : Nat), (93 : Nat))]) 9 210 [.ref l0, .int l1, .int l2, .ref l3] σ (.inr res.1, res.2) := by
  refine gg_entHI (own := RL) (nm := "addLess") (ty := FieldType.int) (by decide +kernel) rfl rfl (Nat.le_of_ble_eq_true rfl) rfl ?_
  intro p e R s m args below meth c Q ls hC hw hQ hTab hl
  replace hQ := hQ _ _ rfl
  have hl : lv_has ls 5 [(0, .ref l0), (1, .int l1), (2, .int l2), (3, .ref l3)] := hl
  exact L_addLess_W hC hQ hTab hst hf hw hl

def L_addEqual (E : gE) (l0 : Nat) (l1 : Int32) (l2 : Int32) (l3 : Nat) (σ : gS) : Option (Int32 × gS) :=
  ob (gcl σ l0 10) fun _ =>
  ob (X12_addEqual_f E l0 l1 l2 σ) fun x1 =>
  gtry x1 (fun k9 σ9 =>
    if k9 = 0 then
      some ((1 : Int32), σ9)
    else
    if k9 = 1 then
      some ((2 : Int32), σ9)
    else
    if k9 = 2 then
      some ((3 : Int32), σ9)
    else
    none) (fun x5 σ4 =>
    ob (gwaJ E σ4 l3 (0 : Int32) x5.toInt64) fun σ6 =>
    some ((0 : Int32), σ6))
set_option maxHeartbeats 4000000 in
set_option maxRecDepth 100000 in
theorem L_addEqual_W {σ : gS} {l0 : Nat} {l1 : Int32} {l2 : Int32} {l3 : Nat} {res : (Int32 × gS)} {ls : Array Slot} (hC : gC E D A p R s m args meth c cL_addEqual 5 RL "addEqual" 9 210) (hQ : gQI E D A p l e R s m args below meth c Q cL_addEqual FieldType.int res) (hTab : c.exceptionTable.toList = tableOf [((0 : Nat), (10 : Nat), (13 : Nat), (19 : Nat)), ((0 : Nat), (10 : Nat), (17 : Nat), (13 : Nat)), ((0 : Nat), (10 : Nat), (21 : Nat), (93 : Nat))]) (hst : l.stackTraces = false) (hf : L_addEqual E l0 l1 l2 l3 σ = some res) (hw : gW E D A s σ H locs) (hl : lv_has ls 5 [(0, .ref l0), (1, .int l1), (2, .int l2), (3, .ref l3)]) : W p l e R s m args below meth c H locs cells slots Q (F0 m 0 ls []) := by
  have hC0 := hC
  obtain ⟨hx, hb, hml, hown, hts, -⟩ := hC0
  unfold L_addEqual at hf
  refine lv_aload_n hx hb dL_addEqual_0 rfl (lv_at hl 3 rfl) ?_
  refine lv_iconst (v := 0) hx hb dL_addEqual_1 (by decide) ?_
  refine lv_aload_n hx hb dL_addEqual_2 rfl (lv_at hl 0 rfl) ?_
  refine lv_iload_n hx hb dL_addEqual_3 rfl (lv_at hl 1 rfl) ?_
  refine lv_iload_n hx hb dL_addEqual_4 rfl (lv_at hl 2 rfl) ?_
  obtain ⟨_, h3, hf⟩ := ob_some hf
  obtain ⟨x1, h2, hf⟩ := ob_some hf
  refine gg_yVI (As := [.int l1, .int l2]) hC hw (X12_addEqual_M l hst E D A h2) h3 rfl g_ml_L_131 hd_X12_addEqual (Nat.le_of_ble_eq_true rfl) (Nat.le_of_ble_eq_true rfl) hl.1 rfl (Nat.le_of_ble_eq_true rfl) dL_addEqual_5 (fun k9 σ9 he => ?_) (fun x5 σ4 he H locs cells slots hw => ?_)
  · subst he
    replace hf := gtry_inl.symm.trans hf
    by_cases c8 : k9 = 0
    · replace hf := (if_pos c8).symm.trans hf
      subst c8
      intro H locs cells slots q9 ce hw hce hv hcl
      refine gg_catch (k := 0) hC hTab [] (⟨0, 10, 13, 19⟩ : ExceptionTableEntry) [⟨0, 10, 17, 13⟩, ⟨0, 10, 21, 93⟩] rfl (fun z hz => nomatch hz) (by decide) (by decide) cl_L_19 (by decide) hce hv hcl ?_
      refine lv_astore (lv' := [(4, .ref q9), (0, .ref l0), (1, .int l1), (2, .int l2), (3, .ref l3)]) hx hb dL_addEqual_13 hl (by decide) rfl (fun ls hl => ?_)
      refine lv_iconst (v := 1) hx hb dL_addEqual_15 (by decide) ?_
      cases hf
      exact hQ _ _ _ _ _ _ dL_addEqual_16 rfl hw
    · replace hf := (if_neg c8).symm.trans hf
      by_cases c9 : k9 = 1
      · replace hf := (if_pos c9).symm.trans hf
        subst c9
        intro H locs cells slots q9 ce hw hce hv hcl
        refine gg_catch (k := 1) hC hTab [⟨0, 10, 13, 19⟩] (⟨0, 10, 17, 13⟩ : ExceptionTableEntry) [⟨0, 10, 21, 93⟩] rfl (by intro z hz; simp only [List.mem_cons, List.not_mem_nil, or_false] at hz; rcases hz with rfl <;> first | exact Or.inr ⟨by decide, _, cl_L_19, by decide⟩) (by decide) (by decide) cl_L_13 (by decide) hce hv hcl ?_
        refine lv_astore (lv' := [(4, .ref q9), (0, .ref l0), (1, .int l1), (2, .int l2), (3, .ref l3)]) hx hb dL_addEqual_17 hl (by decide) rfl (fun ls hl => ?_)
        refine lv_iconst (v := 2) hx hb dL_addEqual_19 (by decide) ?_
        cases hf
        exact hQ _ _ _ _ _ _ dL_addEqual_20 rfl hw
      · replace hf := (if_neg c9).symm.trans hf
        by_cases c10 : k9 = 2
        · replace hf := (if_pos c10).symm.trans hf
          subst c10
          intro H locs cells slots q9 ce hw hce hv hcl
          refine gg_catch (k := 2) hC hTab [⟨0, 10, 13, 19⟩, ⟨0, 10, 17, 13⟩] (⟨0, 10, 21, 93⟩ : ExceptionTableEntry) [] rfl (by intro z hz; simp only [List.mem_cons, List.not_mem_nil, or_false] at hz; rcases hz with rfl | rfl <;> first | exact Or.inr ⟨by decide, _, cl_L_19, by decide⟩ | exact Or.inr ⟨by decide, _, cl_L_13, by decide⟩) (by decide) (by decide) cl_L_93 (by decide) hce hv hcl ?_
          refine lv_astore (lv' := [(4, .ref q9), (0, .ref l0), (1, .int l1), (2, .int l2), (3, .ref l3)]) hx hb dL_addEqual_21 hl (by decide) rfl (fun ls hl => ?_)
          refine lv_iconst (v := 3) hx hb dL_addEqual_23 (by decide) ?_
          cases hf
          exact hQ _ _ _ _ _ _ dL_addEqual_24 rfl hw
        · replace hf := (if_neg c10).symm.trans hf
          cases hf
  · subst he
    replace hf := gtry_inr.symm.trans hf
    refine lv_i2l (v := x5.toInt64) hx hb dL_addEqual_8 rfl ?_
    obtain ⟨σ6, h7, hf⟩ := ob_some hf
    refine gg_astJ hC hw h7 dL_addEqual_9 (fun H locs hw => ?_)
    refine lv_goto (tgt := 25) hx hb dL_addEqual_10 (by decide) ?_
    refine lv_iconst (v := 0) hx hb dL_addEqual_25 (by decide) ?_
    cases hf
    exact hQ _ _ _ _ _ _ dL_addEqual_26 rfl hw

def L_addEqual_f (E : gE) (l0 : Nat) (l1 : Int32) (l2 : Int32) (l3 : Nat) (σ : gS) : Option (Int32 × gS) := L_addEqual E l0 l1 l2 l3 σ
set_option maxRecDepth 100000 in
theorem L_addEqual_M (l : Launch) (hst : l.stackTraces = false) (E : gE) (D : va_G) (A : Nat → Prop) {l0 : Nat} {l1 : Int32} {l2 : Int32} {l3 : Nat} {σ : gS} {res : (Int32 × gS)} (hf : L_addEqual_f E l0 l1 l2 l3 σ = some res) : gYI l E D A yL_addEqual (Cond.codeWith yL_addEqual cL_addEqual 5 (some FieldType.int) [((0 : Nat), (10 : Nat), (13 : Nat), (19 : Nat)), ((0 : Nat), (10 : Nat), (17 : Nat), (13 : Nat)), ((0 : Nat), (10 : Nat), (21 : Nat), (93 : Nat))]) 9 210 [.ref l0, .int l1, .int l2, .ref l3] σ (.inr res.1, res.2) := by
  refine gg_entHI (own := RL) (nm := "addEqual") (ty := FieldType.int) (by decide +kernel) rfl rfl (Nat.le_of_ble_eq_true rfl) rfl ?_
  intro p e R s m args below meth c Q ls hC hw hQ hTab hl
  replace hQ := hQ _ _ rfl
  have hl : lv_has ls 5 [(0, .ref l0), (1, .int l1), (2, .int l2), (3, .ref l3)] := hl
  exact L_addEqual_W hC hQ hTab hst hf hw hl

end MN1
