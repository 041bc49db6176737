/-! decompiled: X13_saveSnapshot, X13_restoreSnapshot, X13_appendText, X13_errorOffset, X13_byteAt, X13_isLetter, X13_isDigit, X13_scan, X13_startText, X13_finish, X13_check, X13_advance, X13_isSymbol, X13_expect, X13_value_, X13_look, X13_readNumber, X13_errorCode, X13_isFaulty, X13_isLength, X13_isIntegerHere, X13_readInteger, X13_readRow, X13_refuseRow, X13_addRow, X13_addFirst, X13_countUsed, X13_staleCount, X13_bitWidthCompacted, X13_doCompact, X13_compact -/
section MM5
variable {p : Program} {l : Launch} {e : Env} {R : Room} {s : State} {m : MethodId} {args : Array Value} {below : List Frame} {meth : Method} {c : Code} {H : Heap} {locs : List Loc} {cells slots : Nat} {Q : State → Prop} {E : gE} {D : va_G} {A : Nat → Prop}
def X13_saveSnapshot (E : gE) (l0 : Nat) (σ : gS) : Option gS :=
  ob (gpf E σ l0 11 10 (.int (0 : Int32))) fun σ1 =>
  ob (gfR σ1 l0 11 0) fun x3 =>
  ob (gfR σ1 l0 11 3) fun x5 =>
  ob (X13_copy_f E x3 (0 : Int32) x5 (0 : Int32) σ1) fun x7 =>
  ob (gz (1 : Int32)) fun _ =>
  ob (gpf E x7 l0 11 13 (.int (1 : Int32))) fun σ9 =>
  some σ9
set_option maxHeartbeats 4000000 in
set_option maxRecDepth 100000 in
theorem X13_saveSnapshot_W {σ : gS} {l0 : Nat} {σz : gS} {ls : Array Slot} (hC : gC E D A p R s m args meth c cX13_saveSnapshot 1 RX13 "saveSnapshot" 4 103) (hQ : gQV E D A p l e R s m args below meth c Q cX13_saveSnapshot σz) (hf : X13_saveSnapshot E l0 σ = some σz) (hw : gW E D A s σ H locs) (hl : lv_has ls 1 [(0, .ref l0)]) : W p l e R s m args below meth c H locs cells slots Q (F0 m 0 ls []) := by
  have hC0 := hC
  obtain ⟨hx, hb, hml, hown, hts, -⟩ := hC0
  unfold X13_saveSnapshot at hf
  refine lv_aload_n hx hb dX13_saveSnapshot_0 rfl (lv_at hl 0 rfl) ?_
  refine lv_iconst (v := 0) hx hb dX13_saveSnapshot_1 (by decide) ?_
  obtain ⟨σ1, h2, hf⟩ := ob_some hf
  refine p_fl_X13_85 hC hw h2 rfl rfl dX13_saveSnapshot_2 (fun H locs hw => ?_)
  refine lv_aload_n hx hb dX13_saveSnapshot_5 rfl (lv_at hl 0 rfl) ?_
  obtain ⟨x3, h4, hf⟩ := ob_some hf
  refine rR_fl_X13_9 hC hw h4 dX13_saveSnapshot_6 ?_
  refine lv_iconst (v := 0) hx hb dX13_saveSnapshot_9 (by decide) ?_
  refine lv_aload_n hx hb dX13_saveSnapshot_10 rfl (lv_at hl 0 rfl) ?_
  obtain ⟨x5, h6, hf⟩ := ob_some hf
  refine rR_fl_X13_19 hC hw h6 dX13_saveSnapshot_11 ?_
  refine lv_iconst (v := 0) hx hb dX13_saveSnapshot_14 (by decide) ?_
  obtain ⟨x7, h8, hf⟩ := ob_some hf
  refine gg_cSV (As := [.ref x3, .int (0 : Int32), .ref x5, .int (0 : Int32)]) hC hw (X13_copy_M l E D A h8) g_ml_X13_243 hd_X13_copy.2 (Nat.le_of_ble_eq_true rfl) (Nat.le_of_ble_eq_true rfl) hl.1 rfl (Nat.le_of_ble_eq_true rfl) dX13_saveSnapshot_15 (fun H locs cells slots hw => ?_)
  refine lv_aload_n hx hb dX13_saveSnapshot_18 rfl (lv_at hl 0 rfl) ?_
  refine lv_iconst (v := 1) hx hb dX13_saveSnapshot_19 (by decide) ?_
  obtain ⟨_, h11, hf⟩ := ob_some hf
  obtain ⟨σ9, h10, hf⟩ := ob_some hf
  refine p_fl_X13_290 hC hw h10 (gz_some h11) (gz_fits h11) dX13_saveSnapshot_20 (fun H locs hw => ?_)
  cases hf
  exact hQ _ _ _ _ _ _ dX13_saveSnapshot_23 hw

def X13_saveSnapshot_f (E : gE) (l0 : Nat) (σ : gS) : Option gS := X13_saveSnapshot E l0 σ
set_option maxRecDepth 100000 in
theorem X13_saveSnapshot_M (l : Launch) (E : gE) (D : va_G) (A : Nat → Prop) {l0 : Nat} {σ : gS} {σz : gS} (hf : X13_saveSnapshot_f E l0 σ = some σz) : gCV l E D A yX13_saveSnapshot cX13_saveSnapshot 1 4 103 none [.ref l0] σ σz := by
  refine gg_entV (own := RX13) (nm := "saveSnapshot") (by decide +kernel) rfl rfl (Nat.le_of_ble_eq_true rfl) rfl ?_
  intro p e R s m args below meth c Q ls hC hw hQ hl
  have hl : lv_has ls 1 [(0, .ref l0)] := hl
  exact X13_saveSnapshot_W hC hQ hf hw hl

def X13_restoreSnapshot (E : gE) (l0 : Nat) (σ : gS) : Option (Int32 × gS) :=
  ob (gfI σ l0 11 13) fun x1 =>
  ob (gcl σ l0 11) fun _ =>
  ob (X13_lacks_f E l0 x1 σ) fun x3 =>
  if x3.1 = 0 then
    ob (gfR x3.2 l0 11 3) fun x6 =>
    ob (gfR x3.2 l0 11 0) fun x8 =>
    ob (X13_copy_f E x6 (0 : Int32) x8 (0 : Int32) x3.2) fun x10 =>
    ob (gpf E x10 l0 11 9 (.int (0 : Int32))) fun σ12 =>
    ob (gfR σ12 l0 11 8) fun x14 =>
    ob (graI E 0 σ12 x14 (1 : Int32)) fun x16 =>
    some (x16, σ12)
  else
    some ((0 : Int32), x3.2)
set_option maxHeartbeats 4000000 in
set_option maxRecDepth 100000 in
theorem X13_restoreSnapshot_W {σ : gS} {l0 : Nat} {res : (Int32 × gS)} {ls : Array Slot} (hC : gC E D A p R s m args meth c cX13_restoreSnapshot 1 RX13 "restoreSnapshot" 4 103) (hQ : gQI E D A p l e R s m args below meth c Q cX13_restoreSnapshot FieldType.int res) (hf : X13_restoreSnapshot E l0 σ = some res) (hw : gW E D A s σ H locs) (hl : lv_has ls 1 [(0, .ref l0)]) : W p l e R s m args below meth c H locs cells slots Q (F0 m 0 ls []) := by
  have hC0 := hC
  obtain ⟨hx, hb, hml, hown, hts, -⟩ := hC0
  unfold X13_restoreSnapshot at hf
  refine lv_aload_n hx hb dX13_restoreSnapshot_0 rfl (lv_at hl 0 rfl) ?_
  refine lv_aload_n hx hb dX13_restoreSnapshot_1 rfl (lv_at hl 0 rfl) ?_
  obtain ⟨x1, h2, hf⟩ := ob_some hf
  refine rI_fl_X13_290 hC hw h2 dX13_restoreSnapshot_2 ?_
  obtain ⟨_, h5, hf⟩ := ob_some hf
  obtain ⟨x3, h4, hf⟩ := ob_some hf
  refine gg_cVI (As := [.int x1]) hC hw (X13_lacks_M l E D A h4) h5 rfl g_ml_X13_88 hd_X13_lacks (Nat.le_of_ble_eq_true rfl) (Nat.le_of_ble_eq_true rfl) hl.1 rfl (Nat.le_of_ble_eq_true rfl) dX13_restoreSnapshot_5 (fun H locs cells slots hw => ?_)
  refine lv_if_eq (tgt := 13) hx hb dX13_restoreSnapshot_8 (by decide) (fun c18 => ?_) (fun c18 => ?_)
  · replace hf := (if_pos c18).symm.trans hf
    refine lv_aload_n hx hb dX13_restoreSnapshot_13 rfl (lv_at hl 0 rfl) ?_
    obtain ⟨x6, h7, hf⟩ := ob_some hf
    refine rR_fl_X13_19 hC hw h7 dX13_restoreSnapshot_14 ?_
    refine lv_iconst (v := 0) hx hb dX13_restoreSnapshot_17 (by decide) ?_
    refine lv_aload_n hx hb dX13_restoreSnapshot_18 rfl (lv_at hl 0 rfl) ?_
    obtain ⟨x8, h9, hf⟩ := ob_some hf
    refine rR_fl_X13_9 hC hw h9 dX13_restoreSnapshot_19 ?_
    refine lv_iconst (v := 0) hx hb dX13_restoreSnapshot_22 (by decide) ?_
    obtain ⟨x10, h11, hf⟩ := ob_some hf
    refine gg_cSV (As := [.ref x6, .int (0 : Int32), .ref x8, .int (0 : Int32)]) hC hw (X13_copy_M l E D A h11) g_ml_X13_243 hd_X13_copy.2 (Nat.le_of_ble_eq_true rfl) (Nat.le_of_ble_eq_true rfl) hl.1 rfl (Nat.le_of_ble_eq_true rfl) dX13_restoreSnapshot_23 (fun H locs cells slots hw => ?_)
    refine lv_aload_n hx hb dX13_restoreSnapshot_26 rfl (lv_at hl 0 rfl) ?_
    refine lv_iconst (v := 0) hx hb dX13_restoreSnapshot_27 (by decide) ?_
    obtain ⟨σ12, h13, hf⟩ := ob_some hf
    refine p_fl_X13_247 hC hw h13 rfl rfl dX13_restoreSnapshot_28 (fun H locs hw => ?_)
    refine lv_aload_n hx hb dX13_restoreSnapshot_31 rfl (lv_at hl 0 rfl) ?_
    obtain ⟨x14, h15, hf⟩ := ob_some hf
    refine rR_fl_X13_35 hC hw h15 dX13_restoreSnapshot_32 ?_
    refine lv_iconst (v := 1) hx hb dX13_restoreSnapshot_35 (by decide) ?_
    obtain ⟨x16, h17, hf⟩ := ob_some hf
    refine gg_aldI hC hw h17 dX13_restoreSnapshot_36 ?_
    cases hf
    exact hQ _ _ _ _ _ _ dX13_restoreSnapshot_37 rfl hw
  · replace hf := (if_neg c18).symm.trans hf
    refine lv_iconst (v := 0) hx hb dX13_restoreSnapshot_11 (by decide) ?_
    cases hf
    exact hQ _ _ _ _ _ _ dX13_restoreSnapshot_12 rfl hw

def X13_restoreSnapshot_f (E : gE) (l0 : Nat) (σ : gS) : Option (Int32 × gS) := X13_restoreSnapshot E l0 σ
set_option maxRecDepth 100000 in
theorem X13_restoreSnapshot_M (l : Launch) (E : gE) (D : va_G) (A : Nat → Prop) {l0 : Nat} {σ : gS} {res : (Int32 × gS)} (hf : X13_restoreSnapshot_f E l0 σ = some res) : gCI l E D A yX13_restoreSnapshot cX13_restoreSnapshot 1 4 103 (some FieldType.int) [.ref l0] σ res := by
  refine gg_entI (own := RX13) (nm := "restoreSnapshot") (ty := FieldType.int) (by decide +kernel) rfl rfl (Nat.le_of_ble_eq_true rfl) rfl ?_
  intro p e R s m args below meth c Q ls hC hw hQ hl
  have hl : lv_has ls 1 [(0, .ref l0)] := hl
  exact X13_restoreSnapshot_W hC hQ hf hw hl

def X13_appendText_76 (E : gE) (r_23 : Nat → Int32 → Int32 → Int32 → Int32 → Int32 → Int32 → gS → Option (Int32 × gS)) (l0 : Nat) (l1 : Int32) (l2 : Int32) (l3 : Int32) (l4 : Int32) (l5 : Int32) (l6 : Int32) (s0 : Int32) (σ : gS) : Option (Int32 × gS) :=
  ob (gfR σ l0 11 16) fun x1 =>
  ob (gfI σ l0 11 17) fun x3 =>
  ob (gwaI E σ x1 x3 ((s0 >>> (((24 : Int32) - ((8 : Int32) * (l6 - l6 / (4 : Int32) * (4 : Int32)))) &&& 31)) &&& (255 : Int32))) fun σ5 =>
  ob (gfI σ5 l0 11 17) fun x7 =>
  ob (gpf E σ5 l0 11 17 (.int (x7 + (1 : Int32)))) fun σ9 =>
  r_23 l0 l1 l2 l3 l4 l5 (l6 + 1) σ9
set_option maxHeartbeats 4000000 in
set_option maxRecDepth 100000 in
theorem X13_appendText_76_W {σ : gS} {l0 : Nat} {l1 : Int32} {l2 : Int32} {l3 : Int32} {l4 : Int32} {l5 : Int32} {l6 : Int32} {s0 : Int32} {res : (Int32 × gS)} {ls : Array Slot} (hC : gC E D A p R s m args meth c cX13_appendText 8 RX13 "appendText" 0 0) (hQ : gQI E D A p l e R s m args below meth c Q cX13_appendText FieldType.int res) {r_23 : Nat → Int32 → Int32 → Int32 → Int32 → Int32 → Int32 → gS → Option (Int32 × gS)} (h_23 : ∀ {l0 : Nat} {l1 : Int32} {l2 : Int32} {l3 : Int32} {l4 : Int32} {l5 : Int32} {l6 : Int32} {σ : gS} {H : Heap} {locs : List Loc} {cells slots : Nat} {ls : Array Slot}, r_23 l0 l1 l2 l3 l4 l5 l6 σ = some res → gW E D A s σ H locs → lv_has ls 8 [(0, .ref l0), (1, .int l1), (2, .int l2), (3, .int l3), (4, .int l4), (5, .int l5), (6, .int l6)] → W p l e R s m args below meth c H locs cells slots Q (F0 m 23 ls [])) (hf : X13_appendText_76 E r_23 l0 l1 l2 l3 l4 l5 l6 s0 σ = some res) (hw : gW E D A s σ H locs) (hl : lv_has ls 8 [(0, .ref l0), (1, .int l1), (2, .int l2), (3, .int l3), (4, .int l4), (5, .int l5), (6, .int l6)]) : W p l e R s m args below meth c H locs cells slots Q (F0 m 76 ls [.int s0]) := by
  have hC0 := hC
  obtain ⟨hx, hb, hml, hown, hts, -⟩ := hC0
  unfold X13_appendText_76 at hf
  refine lv_istore (lv' := [(7, .int s0), (0, .ref l0), (1, .int l1), (2, .int l2), (3, .int l3), (4, .int l4), (5, .int l5), (6, .int l6)]) hx hb dX13_appendText_76 hl (by decide) rfl (fun ls hl => ?_)
  refine lv_aload_n hx hb dX13_appendText_78 rfl (lv_at hl 1 rfl) ?_
  obtain ⟨x1, h2, hf⟩ := ob_some hf
  refine rR_fl_X13_41 hC hw h2 dX13_appendText_79 ?_
  refine lv_aload_n hx hb dX13_appendText_82 rfl (lv_at hl 1 rfl) ?_
  obtain ⟨x3, h4, hf⟩ := ob_some hf
  refine rI_fl_X13_294 hC hw h4 dX13_appendText_83 ?_
  refine lv_iload hx hb dX13_appendText_86 (lv_at hl 0 rfl) ?_
  refine lv_bipush (v := 24) hx hb dX13_appendText_88 (by decide) ?_
  refine lv_bipush (v := 8) hx hb dX13_appendText_90 (by decide) ?_
  refine lv_iload hx hb dX13_appendText_92 (lv_at hl 7 rfl) ?_
  refine lv_iconst (v := 4) hx hb dX13_appendText_94 (by decide) ?_
  refine lv_irem hx hb dX13_appendText_95 (by decide) ?_
  refine lv_imul hx hb dX13_appendText_96 ?_
  refine lv_isub hx hb dX13_appendText_97 ?_
  refine lv_ishr hx hb dX13_appendText_98 ?_
  refine lv_sipush (v := 255) hx hb dX13_appendText_99 (by decide) ?_
  refine lv_iand hx hb dX13_appendText_102 ?_
  obtain ⟨σ5, h6, hf⟩ := ob_some hf
  refine gg_astI hC hw h6 dX13_appendText_103 (fun H locs hw => ?_)
  refine lv_aload_n hx hb dX13_appendText_104 rfl (lv_at hl 1 rfl) ?_
  refine lv_dup hx hb dX13_appendText_105 rfl ?_
  obtain ⟨x7, h8, hf⟩ := ob_some hf
  refine rI_fl_X13_294 hC hw h8 dX13_appendText_106 ?_
  refine lv_iconst (v := 1) hx hb dX13_appendText_109 (by decide) ?_
  refine lv_iadd hx hb dX13_appendText_110 ?_
  obtain ⟨σ9, h10, hf⟩ := ob_some hf
  refine p_fl_X13_294 hC hw h10 rfl rfl dX13_appendText_111 (fun H locs hw => ?_)
  refine lv_iinc (v := (l6 + 1)) (lv' := [(6, .int (l6 + 1)), (7, .int s0), (0, .ref l0), (1, .int l1), (2, .int l2), (3, .int l3), (4, .int l4), (5, .int l5)]) hx hb dX13_appendText_114 hl (k := 7) rfl rfl (by decide) rfl (fun ls hl => ?_)
  refine lv_goto (tgt := 23) hx hb dX13_appendText_117 (by decide) ?_
  exact h_23 hf hw (lv_sub hl [2, 3, 4, 5, 6, 7, 0] rfl)

def X13_appendText_23_s (E : gE) (r_23 : Nat → Int32 → Int32 → Int32 → Int32 → Int32 → Int32 → gS → Option (Int32 × gS)) (l0 : Nat) (l1 : Int32) (l2 : Int32) (l3 : Int32) (l4 : Int32) (l5 : Int32) (l6 : Int32) (σ : gS) : Option (Int32 × gS) :=
  if (20 : Int32) ≤ l6 then
    ob (gfI σ l0 11 17) fun x11 =>
    some (x11, σ)
  else
    if (4 : Int32) ≤ l6 then
      if (8 : Int32) ≤ l6 then
        if (12 : Int32) ≤ l6 then
          if (16 : Int32) ≤ l6 then
            X13_appendText_76 E r_23 l0 l1 l2 l3 l4 l5 l6 l5 σ
          else
            X13_appendText_76 E r_23 l0 l1 l2 l3 l4 l5 l6 l4 σ
        else
          X13_appendText_76 E r_23 l0 l1 l2 l3 l4 l5 l6 l3 σ
      else
        X13_appendText_76 E r_23 l0 l1 l2 l3 l4 l5 l6 l2 σ
    else
      X13_appendText_76 E r_23 l0 l1 l2 l3 l4 l5 l6 l1 σ
set_option maxHeartbeats 4000000 in
set_option maxRecDepth 100000 in
theorem X13_appendText_23_s_W {σ : gS} {l0 : Nat} {l1 : Int32} {l2 : Int32} {l3 : Int32} {l4 : Int32} {l5 : Int32} {l6 : Int32} {res : (Int32 × gS)} {ls : Array Slot} (hC : gC E D A p R s m args meth c cX13_appendText 8 RX13 "appendText" 0 0) (hQ : gQI E D A p l e R s m args below meth c Q cX13_appendText FieldType.int res) {r_23 : Nat → Int32 → Int32 → Int32 → Int32 → Int32 → Int32 → gS → Option (Int32 × gS)} (h_23 : ∀ {l0 : Nat} {l1 : Int32} {l2 : Int32} {l3 : Int32} {l4 : Int32} {l5 : Int32} {l6 : Int32} {σ : gS} {H : Heap} {locs : List Loc} {cells slots : Nat} {ls : Array Slot}, r_23 l0 l1 l2 l3 l4 l5 l6 σ = some res → gW E D A s σ H locs → lv_has ls 8 [(0, .ref l0), (1, .int l1), (2, .int l2), (3, .int l3), (4, .int l4), (5, .int l5), (6, .int l6)] → W p l e R s m args below meth c H locs cells slots Q (F0 m 23 ls [])) (hf : X13_appendText_23_s E r_23 l0 l1 l2 l3 l4 l5 l6 σ = some res) (hw : gW E D A s σ H locs) (hl : lv_has ls 8 [(0, .ref l0), (1, .int l1), (2, .int l2), (3, .int l3), (4, .int l4), (5, .int l5), (6, .int l6)]) : W p l e R s m args below meth c H locs cells slots Q (F0 m 23 ls []) := by
  have hC0 := hC
  obtain ⟨hx, hb, hml, hown, hts, -⟩ := hC0
  unfold X13_appendText_23_s at hf
  refine lv_iload hx hb dX13_appendText_23 (lv_at hl 6 rfl) ?_
  refine lv_bipush (v := 20) hx hb dX13_appendText_25 (by decide) ?_
  refine lv_icmp_ge (tgt := 120) hx hb dX13_appendText_27 (by decide) (fun c17 => ?_) (fun c17 => ?_)
  · replace hf := (if_pos c17).symm.trans hf
    refine lv_aload_n hx hb dX13_appendText_120 rfl (lv_at hl 0 rfl) ?_
    obtain ⟨x11, h12, hf⟩ := ob_some hf
    refine rI_fl_X13_294 hC hw h12 dX13_appendText_121 ?_
    cases hf
    exact hQ _ _ _ _ _ _ dX13_appendText_124 rfl hw
  · replace hf := (if_neg c17).symm.trans hf
    refine lv_iload hx hb dX13_appendText_30 (lv_at hl 6 rfl) ?_
    refine lv_iconst (v := 4) hx hb dX13_appendText_32 (by decide) ?_
    refine lv_icmp_ge (tgt := 40) hx hb dX13_appendText_33 (by decide) (fun c16 => ?_) (fun c16 => ?_)
    · replace hf := (if_pos c16).symm.trans hf
      refine lv_iload hx hb dX13_appendText_40 (lv_at hl 6 rfl) ?_
      refine lv_bipush (v := 8) hx hb dX13_appendText_42 (by decide) ?_
      refine lv_icmp_ge (tgt := 51) hx hb dX13_appendText_44 (by decide) (fun c15 => ?_) (fun c15 => ?_)
      · replace hf := (if_pos c15).symm.trans hf
        refine lv_iload hx hb dX13_appendText_51 (lv_at hl 6 rfl) ?_
        refine lv_bipush (v := 12) hx hb dX13_appendText_53 (by decide) ?_
        refine lv_icmp_ge (tgt := 62) hx hb dX13_appendText_55 (by decide) (fun c14 => ?_) (fun c14 => ?_)
        · replace hf := (if_pos c14).symm.trans hf
          refine lv_iload hx hb dX13_appendText_62 (lv_at hl 6 rfl) ?_
          refine lv_bipush (v := 16) hx hb dX13_appendText_64 (by decide) ?_
          refine lv_icmp_ge (tgt := 74) hx hb dX13_appendText_66 (by decide) (fun c13 => ?_) (fun c13 => ?_)
          · replace hf := (if_pos c13).symm.trans hf
            refine lv_iload hx hb dX13_appendText_74 (lv_at hl 5 rfl) ?_
            exact X13_appendText_76_W hC hQ h_23 hf hw (lv_sub hl [0, 1, 2, 3, 4, 5, 6] rfl)
          · replace hf := (if_neg c13).symm.trans hf
            refine lv_iload hx hb dX13_appendText_69 (lv_at hl 4 rfl) ?_
            refine lv_goto (tgt := 76) hx hb dX13_appendText_71 (by decide) ?_
            exact X13_appendText_76_W hC hQ h_23 hf hw (lv_sub hl [0, 1, 2, 3, 4, 5, 6] rfl)
        · replace hf := (if_neg c14).symm.trans hf
          refine lv_iload_n hx hb dX13_appendText_58 rfl (lv_at hl 3 rfl) ?_
          refine lv_goto (tgt := 76) hx hb dX13_appendText_59 (by decide) ?_
          exact X13_appendText_76_W hC hQ h_23 hf hw (lv_sub hl [0, 1, 2, 3, 4, 5, 6] rfl)
      · replace hf := (if_neg c15).symm.trans hf
        refine lv_iload_n hx hb dX13_appendText_47 rfl (lv_at hl 2 rfl) ?_
        refine lv_goto (tgt := 76) hx hb dX13_appendText_48 (by decide) ?_
        exact X13_appendText_76_W hC hQ h_23 hf hw (lv_sub hl [0, 1, 2, 3, 4, 5, 6] rfl)
    · replace hf := (if_neg c16).symm.trans hf
      refine lv_iload_n hx hb dX13_appendText_36 rfl (lv_at hl 1 rfl) ?_
      refine lv_goto (tgt := 76) hx hb dX13_appendText_37 (by decide) ?_
      exact X13_appendText_76_W hC hQ h_23 hf hw (lv_sub hl [0, 1, 2, 3, 4, 5, 6] rfl)
def X13_appendText_23 (E : gE) : Nat → Nat → Int32 → Int32 → Int32 → Int32 → Int32 → Int32 → gS → Option (Int32 × gS)
  | 0 => fun _ _ _ _ _ _ _ _ => none
  | n + 1 => X13_appendText_23_s E (X13_appendText_23 E n)
theorem X13_appendText_23_W {res : (Int32 × gS)} (hC : gC E D A p R s m args meth c cX13_appendText 8 RX13 "appendText" 0 0) (hQ : gQI E D A p l e R s m args below meth c Q cX13_appendText FieldType.int res) : ∀ (n : Nat), ∀ {l0 : Nat} {l1 : Int32} {l2 : Int32} {l3 : Int32} {l4 : Int32} {l5 : Int32} {l6 : Int32} {σ : gS} {H : Heap} {locs : List Loc} {cells slots : Nat} {ls : Array Slot}, X13_appendText_23 E n l0 l1 l2 l3 l4 l5 l6 σ = some res → gW E D A s σ H locs → lv_has ls 8 [(0, .ref l0), (1, .int l1), (2, .int l2), (3, .int l3), (4, .int l4), (5, .int l5), (6, .int l6)] → W p l e R s m args below meth c H locs cells slots Q (F0 m 23 ls []) := by
  intro n
  induction n with
  | zero =>
    intros
    rename_i hf _ _
    exact absurd hf (fun h => by cases (show (none : Option (Int32 × gS)) = some res from h))
  | succ n ih =>
    intros
    rename_i hf hw hl
    exact X13_appendText_23_s_W hC hQ ih hf hw hl

def X13_appendText (E : gE) (l0 : Nat) (l1 : Int32) (l2 : Int32) (l3 : Int32) (l4 : Int32) (l5 : Int32) (σ : gS) : Option (Int32 × gS) :=
  ob (gpf E σ l0 11 10 (.int (0 : Int32))) fun σ18 =>
  ob (gfI σ18 l0 11 17) fun x20 =>
  if (x20 + (20 : Int32)) ≤ (700 : Int32) then
    X13_appendText_23 E (gN E) l0 l1 l2 l3 l4 l5 (0 : Int32) σ18
  else
    some ((-1 : Int32), σ18)
set_option maxHeartbeats 4000000 in
set_option maxRecDepth 100000 in
theorem X13_appendText_W {σ : gS} {l0 : Nat} {l1 : Int32} {l2 : Int32} {l3 : Int32} {l4 : Int32} {l5 : Int32} {res : (Int32 × gS)} {ls : Array Slot} (hC : gC E D A p R s m args meth c cX13_appendText 8 RX13 "appendText" 0 0) (hQ : gQI E D A p l e R s m args below meth c Q cX13_appendText FieldType.int res) (hf : X13_appendText E l0 l1 l2 l3 l4 l5 σ = some res) (hw : gW E D A s σ H locs) (hl : lv_has ls 8 [(0, .ref l0), (1, .int l1), (2, .int l2), (3, .int l3), (4, .int l4), (5, .int l5)]) : W p l e R s m args below meth c H locs cells slots Q (F0 m 0 ls []) := by
  have hC0 := hC
  obtain ⟨hx, hb, hml, hown, hts, -⟩ := hC0
  unfold X13_appendText at hf
  refine lv_aload_n hx hb dX13_appendText_0 rfl (lv_at hl 0 rfl) ?_
  refine lv_iconst (v := 0) hx hb dX13_appendText_1 (by decide) ?_
  obtain ⟨σ18, h19, hf⟩ := ob_some hf
  refine p_fl_X13_85 hC hw h19 rfl rfl dX13_appendText_2 (fun H locs hw => ?_)
  refine lv_aload_n hx hb dX13_appendText_5 rfl (lv_at hl 0 rfl) ?_
  obtain ⟨x20, h21, hf⟩ := ob_some hf
  refine rI_fl_X13_294 hC hw h21 dX13_appendText_6 ?_
  refine lv_bipush (v := 20) hx hb dX13_appendText_9 (by decide) ?_
  refine lv_iadd hx hb dX13_appendText_11 ?_
  refine lv_sipush (v := 700) hx hb dX13_appendText_12 (by decide) ?_
  refine lv_icmp_le (tgt := 20) hx hb dX13_appendText_15 (by decide) (fun c22 => ?_) (fun c22 => ?_)
  · replace hf := (if_pos c22).symm.trans hf
    refine lv_iconst (v := 0) hx hb dX13_appendText_20 (by decide) ?_
    refine lv_istore (lv' := [(6, .int (0 : Int32)), (0, .ref l0), (1, .int l1), (2, .int l2), (3, .int l3), (4, .int l4), (5, .int l5)]) hx hb dX13_appendText_21 hl (by decide) rfl (fun ls hl => ?_)
    exact X13_appendText_23_W hC hQ (gN E) hf hw (lv_sub hl [1, 2, 3, 4, 5, 6, 0] rfl)
  · replace hf := (if_neg c22).symm.trans hf
    refine lv_iconst (v := -1) hx hb dX13_appendText_18 (by decide) ?_
    cases hf
    exact hQ _ _ _ _ _ _ dX13_appendText_19 rfl hw

def X13_appendText_f (E : gE) (l0 : Nat) (l1 : Int32) (l2 : Int32) (l3 : Int32) (l4 : Int32) (l5 : Int32) (σ : gS) : Option (Int32 × gS) := X13_appendText E l0 l1 l2 l3 l4 l5 σ
set_option maxRecDepth 100000 in
theorem X13_appendText_M (l : Launch) (E : gE) (D : va_G) (A : Nat → Prop) {l0 : Nat} {l1 : Int32} {l2 : Int32} {l3 : Int32} {l4 : Int32} {l5 : Int32} {σ : gS} {res : (Int32 × gS)} (hf : X13_appendText_f E l0 l1 l2 l3 l4 l5 σ = some res) : gCI l E D A yX13_appendText cX13_appendText 8 0 0 (some FieldType.int) [.ref l0, .int l1, .int l2, .int l3, .int l4, .int l5] σ res := by
  refine gg_entI (own := RX13) (nm := "appendText") (ty := FieldType.int) (by decide +kernel) rfl rfl (Nat.le_of_ble_eq_true rfl) rfl ?_
  intro p e R s m args below meth c Q ls hC hw hQ hl
  have hl : lv_has ls 8 [(0, .ref l0), (1, .int l1), (2, .int l2), (3, .int l3), (4, .int l4), (5, .int l5)] := hl
  exact X13_appendText_W hC hQ hf hw hl

def X13_errorOffset (E : gE) (l0 : Nat) (σ : gS) : Option (Int32 × gS) :=
  ob (gpf E σ l0 11 10 (.int (0 : Int32))) fun σ1 =>
  ob (gfI σ1 l0 11 24) fun x3 =>
  some (x3, σ1)
set_option maxHeartbeats 4000000 in
set_option maxRecDepth 100000 in
theorem X13_errorOffset_W {σ : gS} {l0 : Nat} {res : (Int32 × gS)} {ls : Array Slot} (hC : gC E D A p R s m args meth c cX13_errorOffset 1 RX13 "errorOffset" 0 0) (hQ : gQI E D A p l e R s m args below meth c Q cX13_errorOffset FieldType.int res) (hf : X13_errorOffset E l0 σ = some res) (hw : gW E D A s σ H locs) (hl : lv_has ls 1 [(0, .ref l0)]) : W p l e R s m args below meth c H locs cells slots Q (F0 m 0 ls []) := by
  have hC0 := hC
  obtain ⟨hx, hb, hml, hown, hts, -⟩ := hC0
  unfold X13_errorOffset at hf
  refine lv_aload_n hx hb dX13_errorOffset_0 rfl (lv_at hl 0 rfl) ?_
  refine lv_iconst (v := 0) hx hb dX13_errorOffset_1 (by decide) ?_
  obtain ⟨σ1, h2, hf⟩ := ob_some hf
  refine p_fl_X13_85 hC hw h2 rfl rfl dX13_errorOffset_2 (fun H locs hw => ?_)
  refine lv_aload_n hx hb dX13_errorOffset_5 rfl (lv_at hl 0 rfl) ?_
  obtain ⟨x3, h4, hf⟩ := ob_some hf
  refine rI_fl_X13_44 hC hw h4 dX13_errorOffset_6 ?_
  cases hf
  exact hQ _ _ _ _ _ _ dX13_errorOffset_9 rfl hw

def X13_errorOffset_f (E : gE) (l0 : Nat) (σ : gS) : Option (Int32 × gS) := X13_errorOffset E l0 σ
set_option maxRecDepth 100000 in
theorem X13_errorOffset_M (l : Launch) (E : gE) (D : va_G) (A : Nat → Prop) {l0 : Nat} {σ : gS} {res : (Int32 × gS)} (hf : X13_errorOffset_f E l0 σ = some res) : gCI l E D A yX13_errorOffset cX13_errorOffset 1 0 0 (some FieldType.int) [.ref l0] σ res := by
  refine gg_entI (own := RX13) (nm := "errorOffset") (ty := FieldType.int) (by decide +kernel) rfl rfl (Nat.le_of_ble_eq_true rfl) rfl ?_
  intro p e R s m args below meth c Q ls hC hw hQ hl
  have hl : lv_has ls 1 [(0, .ref l0)] := hl
  exact X13_errorOffset_W hC hQ hf hw hl

def X13_byteAt (E : gE) (σ : gS) (l0 : Nat) (l1 : Int32) : Option Int32 :=
  ob (gfI σ l0 11 18) fun x1 =>
  if x1 ≤ l1 then
    some (-1 : Int32)
  else
    ob (gfR σ l0 11 16) fun x3 =>
    ob (graI E 0 σ x3 l1) fun x5 =>
    some x5
set_option maxHeartbeats 4000000 in
set_option maxRecDepth 100000 in
theorem X13_byteAt_W {σ : gS} {l0 : Nat} {l1 : Int32} {res : Int32} {ls : Array Slot} (hC : gC E D A p R s m args meth c cX13_byteAt 2 RX13 "byteAt" 0 0) (hQ : gQI E D A p l e R s m args below meth c Q cX13_byteAt FieldType.int (res, σ)) (hf : X13_byteAt E σ l0 l1 = some res) (hw : gW E D A s σ H locs) (hl : lv_has ls 2 [(0, .ref l0), (1, .int l1)]) : W p l e R s m args below meth c H locs cells slots Q (F0 m 0 ls []) := by
  have hC0 := hC
  obtain ⟨hx, hb, hml, hown, hts, -⟩ := hC0
  unfold X13_byteAt at hf
  refine lv_iload_n hx hb dX13_byteAt_0 rfl (lv_at hl 1 rfl) ?_
  refine lv_aload_n hx hb dX13_byteAt_1 rfl (lv_at hl 0 rfl) ?_
  obtain ⟨x1, h2, hf⟩ := ob_some hf
  refine rI_fl_X13_297 hC hw h2 dX13_byteAt_2 ?_
  refine lv_icmp_ge (tgt := 17) hx hb dX13_byteAt_5 (by decide) (fun c7 => ?_) (fun c7 => ?_)
  · replace hf := (if_pos c7).symm.trans hf
    refine lv_iconst (v := -1) hx hb dX13_byteAt_17 (by decide) ?_
    cases hf
    exact hQ _ _ _ _ _ _ dX13_byteAt_18 rfl hw
  · replace hf := (if_neg c7).symm.trans hf
    refine lv_aload_n hx hb dX13_byteAt_8 rfl (lv_at hl 0 rfl) ?_
    obtain ⟨x3, h4, hf⟩ := ob_some hf
    refine rR_fl_X13_41 hC hw h4 dX13_byteAt_9 ?_
    refine lv_iload_n hx hb dX13_byteAt_12 rfl (lv_at hl 1 rfl) ?_
    obtain ⟨x5, h6, hf⟩ := ob_some hf
    refine gg_aldI hC hw h6 dX13_byteAt_13 ?_
    refine lv_goto (tgt := 18) hx hb dX13_byteAt_14 (by decide) ?_
    cases hf
    exact hQ _ _ _ _ _ _ dX13_byteAt_18 rfl hw

def X13_byteAt_f (E : gE) (σ : gS) (l0 : Nat) (l1 : Int32) : Option Int32 := X13_byteAt E σ l0 l1
set_option maxRecDepth 100000 in
theorem X13_byteAt_M (l : Launch) (E : gE) (D : va_G) (A : Nat → Prop) {l0 : Nat} {l1 : Int32} {σ : gS} {res : Int32} (hf : X13_byteAt_f E σ l0 l1 = some res) : gCI l E D A yX13_byteAt cX13_byteAt 2 0 0 (some FieldType.int) [.ref l0, .int l1] σ (res, σ) := by
  refine gg_entI (own := RX13) (nm := "byteAt") (ty := FieldType.int) (by decide +kernel) rfl rfl (Nat.le_of_ble_eq_true rfl) rfl ?_
  intro p e R s m args below meth c Q ls hC hw hQ hl
  have hl : lv_has ls 2 [(0, .ref l0), (1, .int l1)] := hl
  exact X13_byteAt_W hC hQ hf hw hl

def X13_isLetter_24 (E : gE) (σ : gS) : Option Int32 :=
  some (0 : Int32)
set_option maxHeartbeats 4000000 in
set_option maxRecDepth 100000 in
theorem X13_isLetter_24_W {σ : gS} {res : Int32} {ls : Array Slot} (hC : gC E D A p R s m args meth c cX13_isLetter 2 RX13 "isLetter" 1 21) (hQ : gQI E D A p l e R s m args below meth c Q cX13_isLetter FieldType.boolean (res, σ)) (hf : X13_isLetter_24 E σ = some res) (hw : gW E D A s σ H locs) (hl : lv_has ls 2 []) : W p l e R s m args below meth c H locs cells slots Q (F0 m 24 ls []) := by
  have hC0 := hC
  obtain ⟨hx, hb, hml, hown, hts, -⟩ := hC0
  unfold X13_isLetter_24 at hf
  refine lv_iconst (v := 0) hx hb dX13_isLetter_24 (by decide) ?_
  cases hf
  exact hQ _ _ _ _ _ _ dX13_isLetter_25 gz0 hw

def X13_isLetter (E : gE) (σ : gS) (l0 : Nat) (l1 : Int32) : Option Int32 :=
  ob (gcl σ l0 11) fun _ =>
  ob (X13_byteAt_f E σ l0 l1) fun x1 =>
  if x1 < (97 : Int32) then
    X13_isLetter_24 E σ
  else
    ob (gcl σ l0 11) fun _ =>
    ob (X13_byteAt_f E σ l0 l1) fun x4 =>
    if (122 : Int32) < x4 then
      X13_isLetter_24 E σ
    else
      some (1 : Int32)
set_option maxHeartbeats 4000000 in
set_option maxRecDepth 100000 in
theorem X13_isLetter_W {σ : gS} {l0 : Nat} {l1 : Int32} {res : Int32} {ls : Array Slot} (hC : gC E D A p R s m args meth c cX13_isLetter 2 RX13 "isLetter" 1 21) (hQ : gQI E D A p l e R s m args below meth c Q cX13_isLetter FieldType.boolean (res, σ)) (hf : X13_isLetter E σ l0 l1 = some res) (hw : gW E D A s σ H locs) (hl : lv_has ls 2 [(0, .ref l0), (1, .int l1)]) : W p l e R s m args below meth c H locs cells slots Q (F0 m 0 ls []) := by
  have hC0 := hC
  obtain ⟨hx, hb, hml, hown, hts, -⟩ := hC0
  unfold X13_isLetter at hf
  refine lv_aload_n hx hb dX13_isLetter_0 rfl (lv_at hl 0 rfl) ?_
  refine lv_iload_n hx hb dX13_isLetter_1 rfl (lv_at hl 1 rfl) ?_
  obtain ⟨_, h3, hf⟩ := ob_some hf
  obtain ⟨x1, h2, hf⟩ := ob_some hf
  refine gg_cVI (As := [.int l1]) hC hw (X13_byteAt_M l E D A h2) h3 rfl g_ml_X13_300 hd_X13_byteAt (Nat.le_of_ble_eq_true rfl) (Nat.le_of_ble_eq_true rfl) hl.1 rfl (Nat.le_of_ble_eq_true rfl) dX13_isLetter_2 (fun H locs cells slots hw => ?_)
  refine lv_bipush (v := 97) hx hb dX13_isLetter_5 (by decide) ?_
  refine lv_icmp_lt (tgt := 24) hx hb dX13_isLetter_7 (by decide) (fun c8 => ?_) (fun c8 => ?_)
  · replace hf := (if_pos c8).symm.trans hf
    exact X13_isLetter_24_W hC hQ hf hw (lv_sub hl [] rfl)
  · replace hf := (if_neg c8).symm.trans hf
    refine lv_aload_n hx hb dX13_isLetter_10 rfl (lv_at hl 0 rfl) ?_
    refine lv_iload_n hx hb dX13_isLetter_11 rfl (lv_at hl 1 rfl) ?_
    obtain ⟨_, h6, hf⟩ := ob_some hf
    obtain ⟨x4, h5, hf⟩ := ob_some hf
    refine gg_cVI (As := [.int l1]) hC hw (X13_byteAt_M l E D A h5) h6 rfl g_ml_X13_300 hd_X13_byteAt (Nat.le_of_ble_eq_true rfl) (Nat.le_of_ble_eq_true rfl) hl.1 rfl (Nat.le_of_ble_eq_true rfl) dX13_isLetter_12 (fun H locs cells slots hw => ?_)
    refine lv_bipush (v := 122) hx hb dX13_isLetter_15 (by decide) ?_
    refine lv_icmp_gt (tgt := 24) hx hb dX13_isLetter_17 (by decide) (fun c7 => ?_) (fun c7 => ?_)
    · replace hf := (if_pos c7).symm.trans hf
      exact X13_isLetter_24_W hC hQ hf hw (lv_sub hl [] rfl)
    · replace hf := (if_neg c7).symm.trans hf
      refine lv_iconst (v := 1) hx hb dX13_isLetter_20 (by decide) ?_
      refine lv_goto (tgt := 25) hx hb dX13_isLetter_21 (by decide) ?_
      cases hf
      exact hQ _ _ _ _ _ _ dX13_isLetter_25 gz1 hw

def X13_isLetter_f (E : gE) (σ : gS) (l0 : Nat) (l1 : Int32) : Option Int32 := X13_isLetter E σ l0 l1
set_option maxRecDepth 100000 in
theorem X13_isLetter_M (l : Launch) (E : gE) (D : va_G) (A : Nat → Prop) {l0 : Nat} {l1 : Int32} {σ : gS} {res : Int32} (hf : X13_isLetter_f E σ l0 l1 = some res) : gCI l E D A yX13_isLetter cX13_isLetter 2 1 21 (some FieldType.boolean) [.ref l0, .int l1] σ (res, σ) := by
  refine gg_entI (own := RX13) (nm := "isLetter") (ty := FieldType.boolean) (by decide +kernel) rfl rfl (Nat.le_of_ble_eq_true rfl) rfl ?_
  intro p e R s m args below meth c Q ls hC hw hQ hl
  have hl : lv_has ls 2 [(0, .ref l0), (1, .int l1)] := hl
  exact X13_isLetter_W hC hQ hf hw hl

def X13_isDigit_24 (E : gE) (σ : gS) : Option Int32 :=
  some (0 : Int32)
set_option maxHeartbeats 4000000 in
set_option maxRecDepth 100000 in
theorem X13_isDigit_24_W {σ : gS} {res : Int32} {ls : Array Slot} (hC : gC E D A p R s m args meth c cX13_isDigit 2 RX13 "isDigit" 1 21) (hQ : gQI E D A p l e R s m args below meth c Q cX13_isDigit FieldType.boolean (res, σ)) (hf : X13_isDigit_24 E σ = some res) (hw : gW E D A s σ H locs) (hl : lv_has ls 2 []) : W p l e R s m args below meth c H locs cells slots Q (F0 m 24 ls []) := by
  have hC0 := hC
  obtain ⟨hx, hb, hml, hown, hts, -⟩ := hC0
  unfold X13_isDigit_24 at hf
  refine lv_iconst (v := 0) hx hb dX13_isDigit_24 (by decide) ?_
  cases hf
  exact hQ _ _ _ _ _ _ dX13_isDigit_25 gz0 hw

def X13_isDigit (E : gE) (σ : gS) (l0 : Nat) (l1 : Int32) : Option Int32 :=
  ob (gcl σ l0 11) fun _ =>
  ob (X13_byteAt_f E σ l0 l1) fun x1 =>
  if x1 < (48 : Int32) then
    X13_isDigit_24 E σ
  else
    ob (gcl σ l0 11) fun _ =>
    ob (X13_byteAt_f E σ l0 l1) fun x4 =>
    if (57 : Int32) < x4 then
      X13_isDigit_24 E σ
    else
      some (1 : Int32)
set_option maxHeartbeats 4000000 in
set_option maxRecDepth 100000 in
theorem X13_isDigit_W {σ : gS} {l0 : Nat} {l1 : Int32} {res : Int32} {ls : Array Slot} (hC : gC E D A p R s m args meth c cX13_isDigit 2 RX13 "isDigit" 1 21) (hQ : gQI E D A p l e R s m args below meth c Q cX13_isDigit FieldType.boolean (res, σ)) (hf : X13_isDigit E σ l0 l1 = some res) (hw : gW E D A s σ H locs) (hl : lv_has ls 2 [(0, .ref l0), (1, .int l1)]) : W p l e R s m args below meth c H locs cells slots Q (F0 m 0 ls []) := by
  have hC0 := hC
  obtain ⟨hx, hb, hml, hown, hts, -⟩ := hC0
  unfold X13_isDigit at hf
  refine lv_aload_n hx hb dX13_isDigit_0 rfl (lv_at hl 0 rfl) ?_
  refine lv_iload_n hx hb dX13_isDigit_1 rfl (lv_at hl 1 rfl) ?_
  obtain ⟨_, h3, hf⟩ := ob_some hf
  obtain ⟨x1, h2, hf⟩ := ob_some hf
  refine gg_cVI (As := [.int l1]) hC hw (X13_byteAt_M l E D A h2) h3 rfl g_ml_X13_300 hd_X13_byteAt (Nat.le_of_ble_eq_true rfl) (Nat.le_of_ble_eq_true rfl) hl.1 rfl (Nat.le_of_ble_eq_true rfl) dX13_isDigit_2 (fun H locs cells slots hw => ?_)
  refine lv_bipush (v := 48) hx hb dX13_isDigit_5 (by decide) ?_
  refine lv_icmp_lt (tgt := 24) hx hb dX13_isDigit_7 (by decide) (fun c8 => ?_) (fun c8 => ?_)
  · replace hf := (if_pos c8).symm.trans hf
    exact X13_isDigit_24_W hC hQ hf hw (lv_sub hl [] rfl)
  · replace hf := (if_neg c8).symm.trans hf
    refine lv_aload_n hx hb dX13_isDigit_10 rfl (lv_at hl 0 rfl) ?_
    refine lv_iload_n hx hb dX13_isDigit_11 rfl (lv_at hl 1 rfl) ?_
    obtain ⟨_, h6, hf⟩ := ob_some hf
    obtain ⟨x4, h5, hf⟩ := ob_some hf
    refine gg_cVI (As := [.int l1]) hC hw (X13_byteAt_M l E D A h5) h6 rfl g_ml_X13_300 hd_X13_byteAt (Nat.le_of_ble_eq_true rfl) (Nat.le_of_ble_eq_true rfl) hl.1 rfl (Nat.le_of_ble_eq_true rfl) dX13_isDigit_12 (fun H locs cells slots hw => ?_)
    refine lv_bipush (v := 57) hx hb dX13_isDigit_15 (by decide) ?_
    refine lv_icmp_gt (tgt := 24) hx hb dX13_isDigit_17 (by decide) (fun c7 => ?_) (fun c7 => ?_)
    · replace hf := (if_pos c7).symm.trans hf
      exact X13_isDigit_24_W hC hQ hf hw (lv_sub hl [] rfl)
    · replace hf := (if_neg c7).symm.trans hf
      refine lv_iconst (v := 1) hx hb dX13_isDigit_20 (by decide) ?_
      refine lv_goto (tgt := 25) hx hb dX13_isDigit_21 (by decide) ?_
      cases hf
      exact hQ _ _ _ _ _ _ dX13_isDigit_25 gz1 hw

def X13_isDigit_f (E : gE) (σ : gS) (l0 : Nat) (l1 : Int32) : Option Int32 := X13_isDigit E σ l0 l1
set_option maxRecDepth 100000 in
theorem X13_isDigit_M (l : Launch) (E : gE) (D : va_G) (A : Nat → Prop) {l0 : Nat} {l1 : Int32} {σ : gS} {res : Int32} (hf : X13_isDigit_f E σ l0 l1 = some res) : gCI l E D A yX13_isDigit cX13_isDigit 2 1 21 (some FieldType.boolean) [.ref l0, .int l1] σ (res, σ) := by
  refine gg_entI (own := RX13) (nm := "isDigit") (ty := FieldType.boolean) (by decide +kernel) rfl rfl (Nat.le_of_ble_eq_true rfl) rfl ?_
  intro p e R s m args below meth c Q ls hC hw hQ hl
  have hl : lv_has ls 2 [(0, .ref l0), (1, .int l1)] := hl
  exact X13_isDigit_W hC hQ hf hw hl

def X13_scan_26 (E : gE) (r_0 : Nat → gS → Option gS) (l0 : Nat) (σ : gS) : Option gS :=
  ob (gfI σ l0 11 19) fun x1 =>
  ob (gpf E σ l0 11 19 (.int (x1 + (1 : Int32)))) fun σ3 =>
  r_0 l0 σ3
set_option maxHeartbeats 4000000 in
set_option maxRecDepth 100000 in
theorem X13_scan_26_W {σ : gS} {l0 : Nat} {σz : gS} {ls : Array Slot} (hC : gC E D A p R s m args meth c cX13_scan 1 RX13 "scan" 2 42) (hQ : gQV E D A p l e R s m args below meth c Q cX13_scan σz) {r_0 : Nat → gS → Option gS} (h_0 : ∀ {l0 : Nat} {σ : gS} {H : Heap} {locs : List Loc} {cells slots : Nat} {ls : Array Slot}, r_0 l0 σ = some σz → gW E D A s σ H locs → lv_has ls 1 [(0, .ref l0)] → W p l e R s m args below meth c H locs cells slots Q (F0 m 0 ls [])) (hf : X13_scan_26 E r_0 l0 σ = some σz) (hw : gW E D A s σ H locs) (hl : lv_has ls 1 [(0, .ref l0)]) : W p l e R s m args below meth c H locs cells slots Q (F0 m 26 ls []) := by
  have hC0 := hC
  obtain ⟨hx, hb, hml, hown, hts, -⟩ := hC0
  unfold X13_scan_26 at hf
  refine lv_aload_n hx hb dX13_scan_26 rfl (lv_at hl 0 rfl) ?_
  refine lv_dup hx hb dX13_scan_27 rfl ?_
  obtain ⟨x1, h2, hf⟩ := ob_some hf
  refine rI_fl_X13_303 hC hw h2 dX13_scan_28 ?_
  refine lv_iconst (v := 1) hx hb dX13_scan_31 (by decide) ?_
  refine lv_iadd hx hb dX13_scan_32 ?_
  obtain ⟨σ3, h4, hf⟩ := ob_some hf
  refine p_fl_X13_303 hC hw h4 rfl rfl dX13_scan_33 (fun H locs hw => ?_)
  refine lv_goto (tgt := 0) hx hb dX13_scan_36 (by decide) ?_
  exact h_0 hf hw (lv_sub hl [0] rfl)

def X13_scan_77_s (E : gE) (r_77 : Nat → gS → Option gS) (l0 : Nat) (σ : gS) : Option gS :=
  ob (gfI σ l0 11 19) fun x5 =>
  ob (gcl σ l0 11) fun _ =>
  ob (X13_isLetter_f E σ l0 x5) fun x7 =>
  if x7 = 0 then
    ob (gpf E σ l0 11 21 (.int (1 : Int32))) fun σ10 =>
    some σ10
  else
    ob (gfI σ l0 11 19) fun x12 =>
    ob (gpf E σ l0 11 19 (.int (x12 + (1 : Int32)))) fun σ14 =>
    r_77 l0 σ14
set_option maxHeartbeats 4000000 in
set_option maxRecDepth 100000 in
theorem X13_scan_77_s_W {σ : gS} {l0 : Nat} {σz : gS} {ls : Array Slot} (hC : gC E D A p R s m args meth c cX13_scan 1 RX13 "scan" 2 42) (hQ : gQV E D A p l e R s m args below meth c Q cX13_scan σz) {r_77 : Nat → gS → Option gS} (h_77 : ∀ {l0 : Nat} {σ : gS} {H : Heap} {locs : List Loc} {cells slots : Nat} {ls : Array Slot}, r_77 l0 σ = some σz → gW E D A s σ H locs → lv_has ls 1 [(0, .ref l0)] → W p l e R s m args below meth c H locs cells slots Q (F0 m 77 ls [])) (hf : X13_scan_77_s E r_77 l0 σ = some σz) (hw : gW E D A s σ H locs) (hl : lv_has ls 1 [(0, .ref l0)]) : W p l e R s m args below meth c H locs cells slots Q (F0 m 77 ls []) := by
  have hC0 := hC
  obtain ⟨hx, hb, hml, hown, hts, -⟩ := hC0
  unfold X13_scan_77_s at hf
  refine lv_aload_n hx hb dX13_scan_77 rfl (lv_at hl 0 rfl) ?_
  refine lv_aload_n hx hb dX13_scan_78 rfl (lv_at hl 0 rfl) ?_
  obtain ⟨x5, h6, hf⟩ := ob_some hf
  refine rI_fl_X13_303 hC hw h6 dX13_scan_79 ?_
  obtain ⟨_, h9, hf⟩ := ob_some hf
  obtain ⟨x7, h8, hf⟩ := ob_some hf
  refine gg_cVI (As := [.int x5]) hC hw (X13_isLetter_M l E D A h8) h9 rfl g_ml_X13_312 hd_X13_isLetter (Nat.le_of_ble_eq_true rfl) (Nat.le_of_ble_eq_true rfl) hl.1 rfl (Nat.le_of_ble_eq_true rfl) dX13_scan_82 (fun H locs cells slots hw => ?_)
  refine lv_if_eq (tgt := 101) hx hb dX13_scan_85 (by decide) (fun c16 => ?_) (fun c16 => ?_)
  · replace hf := (if_pos c16).symm.trans hf
    refine lv_aload_n hx hb dX13_scan_101 rfl (lv_at hl 0 rfl) ?_
    refine lv_iconst (v := 1) hx hb dX13_scan_102 (by decide) ?_
    obtain ⟨σ10, h11, hf⟩ := ob_some hf
    refine p_fl_X13_309 hC hw h11 rfl rfl dX13_scan_103 (fun H locs hw => ?_)
    refine lv_goto (tgt := 167) hx hb dX13_scan_106 (by decide) ?_
    cases hf
    exact hQ _ _ _ _ _ _ dX13_scan_167 hw
  · replace hf := (if_neg c16).symm.trans hf
    refine lv_aload_n hx hb dX13_scan_88 rfl (lv_at hl 0 rfl) ?_
    refine lv_dup hx hb dX13_scan_89 rfl ?_
    obtain ⟨x12, h13, hf⟩ := ob_some hf
    refine rI_fl_X13_303 hC hw h13 dX13_scan_90 ?_
    refine lv_iconst (v := 1) hx hb dX13_scan_93 (by decide) ?_
    refine lv_iadd hx hb dX13_scan_94 ?_
    obtain ⟨σ14, h15, hf⟩ := ob_some hf
    refine p_fl_X13_303 hC hw h15 rfl rfl dX13_scan_95 (fun H locs hw => ?_)
    refine lv_goto (tgt := 77) hx hb dX13_scan_98 (by decide) ?_
    exact h_77 hf hw (lv_sub hl [0] rfl)
def X13_scan_77 (E : gE) : Nat → Nat → gS → Option gS
  | 0 => fun _ _ => none
  | n + 1 => X13_scan_77_s E (X13_scan_77 E n)
theorem X13_scan_77_W {σz : gS} (hC : gC E D A p R s m args meth c cX13_scan 1 RX13 "scan" 2 42) (hQ : gQV E D A p l e R s m args below meth c Q cX13_scan σz) : ∀ (n : Nat), ∀ {l0 : Nat} {σ : gS} {H : Heap} {locs : List Loc} {cells slots : Nat} {ls : Array Slot}, X13_scan_77 E n l0 σ = some σz → gW E D A s σ H locs → lv_has ls 1 [(0, .ref l0)] → W p l e R s m args below meth c H locs cells slots Q (F0 m 77 ls []) := by
  intro n
  induction n with
  | zero =>
    intros
    rename_i hf _ _
    exact absurd hf (fun h => by cases (show (none : Option gS) = some σz from h))
  | succ n ih =>
    intros
    rename_i hf hw hl
    exact X13_scan_77_s_W hC hQ ih hf hw hl

def X13_scan_120_s (E : gE) (r_120 : Nat → gS → Option gS) (l0 : Nat) (σ : gS) : Option gS :=
  ob (gfI σ l0 11 19) fun x17 =>
  ob (gcl σ l0 11) fun _ =>
  ob (X13_isDigit_f E σ l0 x17) fun x19 =>
  if x19 = 0 then
    ob (gpf E σ l0 11 21 (.int (2 : Int32))) fun σ22 =>
    some σ22
  else
    ob (gfI σ l0 11 19) fun x24 =>
    ob (gpf E σ l0 11 19 (.int (x24 + (1 : Int32)))) fun σ26 =>
    r_120 l0 σ26
set_option maxHeartbeats 4000000 in
set_option maxRecDepth 100000 in
theorem X13_scan_120_s_W {σ : gS} {l0 : Nat} {σz : gS} {ls : Array Slot} (hC : gC E D A p R s m args meth c cX13_scan 1 RX13 "scan" 2 42) (hQ : gQV E D A p l e R s m args below meth c Q cX13_scan σz) {r_120 : Nat → gS → Option gS} (h_120 : ∀ {l0 : Nat} {σ : gS} {H : Heap} {locs : List Loc} {cells slots : Nat} {ls : Array Slot}, r_120 l0 σ = some σz → gW E D A s σ H locs → lv_has ls 1 [(0, .ref l0)] → W p l e R s m args below meth c H locs cells slots Q (F0 m 120 ls [])) (hf : X13_scan_120_s E r_120 l0 σ = some σz) (hw : gW E D A s σ H locs) (hl : lv_has ls 1 [(0, .ref l0)]) : W p l e R s m args below meth c H locs cells slots Q (F0 m 120 ls []) := by
  have hC0 := hC
  obtain ⟨hx, hb, hml, hown, hts, -⟩ := hC0
  unfold X13_scan_120_s at hf
  refine lv_aload_n hx hb dX13_scan_120 rfl (lv_at hl 0 rfl) ?_
  refine lv_aload_n hx hb dX13_scan_121 rfl (lv_at hl 0 rfl) ?_
  obtain ⟨x17, h18, hf⟩ := ob_some hf
  refine rI_fl_X13_303 hC hw h18 dX13_scan_122 ?_
  obtain ⟨_, h21, hf⟩ := ob_some hf
  obtain ⟨x19, h20, hf⟩ := ob_some hf
  refine gg_cVI (As := [.int x17]) hC hw (X13_isDigit_M l E D A h20) h21 rfl g_ml_X13_315 hd_X13_isDigit (Nat.le_of_ble_eq_true rfl) (Nat.le_of_ble_eq_true rfl) hl.1 rfl (Nat.le_of_ble_eq_true rfl) dX13_scan_125 (fun H locs cells slots hw => ?_)
  refine lv_if_eq (tgt := 144) hx hb dX13_scan_128 (by decide) (fun c28 => ?_) (fun c28 => ?_)
  · replace hf := (if_pos c28).symm.trans hf
    refine lv_aload_n hx hb dX13_scan_144 rfl (lv_at hl 0 rfl) ?_
    refine lv_iconst (v := 2) hx hb dX13_scan_145 (by decide) ?_
    obtain ⟨σ22, h23, hf⟩ := ob_some hf
    refine p_fl_X13_309 hC hw h23 rfl rfl dX13_scan_146 (fun H locs hw => ?_)
    refine lv_goto (tgt := 167) hx hb dX13_scan_149 (by decide) ?_
    cases hf
    exact hQ _ _ _ _ _ _ dX13_scan_167 hw
  · replace hf := (if_neg c28).symm.trans hf
    refine lv_aload_n hx hb dX13_scan_131 rfl (lv_at hl 0 rfl) ?_
    refine lv_dup hx hb dX13_scan_132 rfl ?_
    obtain ⟨x24, h25, hf⟩ := ob_some hf
    refine rI_fl_X13_303 hC hw h25 dX13_scan_133 ?_
    refine lv_iconst (v := 1) hx hb dX13_scan_136 (by decide) ?_
    refine lv_iadd hx hb dX13_scan_137 ?_
    obtain ⟨σ26, h27, hf⟩ := ob_some hf
    refine p_fl_X13_303 hC hw h27 rfl rfl dX13_scan_138 (fun H locs hw => ?_)
    refine lv_goto (tgt := 120) hx hb dX13_scan_141 (by decide) ?_
    exact h_120 hf hw (lv_sub hl [0] rfl)
def X13_scan_120 (E : gE) : Nat → Nat → gS → Option gS
  | 0 => fun _ _ => none
  | n + 1 => X13_scan_120_s E (X13_scan_120 E n)
theorem X13_scan_120_W {σz : gS} (hC : gC E D A p R s m args meth c cX13_scan 1 RX13 "scan" 2 42) (hQ : gQV E D A p l e R s m args below meth c Q cX13_scan σz) : ∀ (n : Nat), ∀ {l0 : Nat} {σ : gS} {H : Heap} {locs : List Loc} {cells slots : Nat} {ls : Array Slot}, X13_scan_120 E n l0 σ = some σz → gW E D A s σ H locs → lv_has ls 1 [(0, .ref l0)] → W p l e R s m args below meth c H locs cells slots Q (F0 m 120 ls []) := by
  intro n
  induction n with
  | zero =>
    intros
    rename_i hf _ _
    exact absurd hf (fun h => by cases (show (none : Option gS) = some σz from h))
  | succ n ih =>
    intros
    rename_i hf hw hl
    exact X13_scan_120_s_W hC hQ ih hf hw hl

def X13_scan_0_s (E : gE) (r_0 : Nat → gS → Option gS) (l0 : Nat) (σ : gS) : Option gS :=
  ob (gfI σ l0 11 19) fun x29 =>
  ob (gcl σ l0 11) fun _ =>
  ob (X13_byteAt_f E σ l0 x29) fun x31 =>
  if x31 = (32 : Int32) then
    X13_scan_26 E r_0 l0 σ
  else
    ob (gfI σ l0 11 19) fun x34 =>
    ob (gcl σ l0 11) fun _ =>
    ob (X13_byteAt_f E σ l0 x34) fun x36 =>
    if x36 = (10 : Int32) then
      X13_scan_26 E r_0 l0 σ
    else
      ob (gfI σ l0 11 19) fun x39 =>
      ob (gpf E σ l0 11 20 (.int x39)) fun σ41 =>
      ob (gfI σ41 l0 11 19) fun x43 =>
      ob (gfI σ41 l0 11 18) fun x45 =>
      if x43 < x45 then
        ob (gfI σ41 l0 11 19) fun x47 =>
        ob (gcl σ41 l0 11) fun _ =>
        ob (X13_isLetter_f E σ41 l0 x47) fun x49 =>
        if x49 = 0 then
          ob (gfI σ41 l0 11 19) fun x52 =>
          ob (gcl σ41 l0 11) fun _ =>
          ob (X13_isDigit_f E σ41 l0 x52) fun x54 =>
          if x54 = 0 then
            ob (gfI σ41 l0 11 19) fun x57 =>
            ob (gpf E σ41 l0 11 19 (.int (x57 + (1 : Int32)))) fun σ59 =>
            ob (gpf E σ59 l0 11 21 (.int (3 : Int32))) fun σ61 =>
            some σ61
          else
            X13_scan_120 E (gN E) l0 σ41
        else
          X13_scan_77 E (gN E) l0 σ41
      else
        ob (gpf E σ41 l0 11 21 (.int (0 : Int32))) fun σ65 =>
        some σ65
set_option maxHeartbeats 4000000 in
set_option maxRecDepth 100000 in
theorem X13_scan_0_s_W {σ : gS} {l0 : Nat} {σz : gS} {ls : Array Slot} (hC : gC E D A p R s m args meth c cX13_scan 1 RX13 "scan" 2 42) (hQ : gQV E D A p l e R s m args below meth c Q cX13_scan σz) {r_0 : Nat → gS → Option gS} (h_0 : ∀ {l0 : Nat} {σ : gS} {H : Heap} {locs : List Loc} {cells slots : Nat} {ls : Array Slot}, r_0 l0 σ = some σz → gW E D A s σ H locs → lv_has ls 1 [(0, .ref l0)] → W p l e R s m args below meth c H locs cells slots Q (F0 m 0 ls [])) (hf : X13_scan_0_s E r_0 l0 σ = some σz) (hw : gW E D A s σ H locs) (hl : lv_has ls 1 [(0, .ref l0)]) : W p l e R s m args below meth c H locs cells slots Q (F0 m 0 ls []) := by
  have hC0 := hC
  obtain ⟨hx, hb, hml, hown, hts, -⟩ := hC0
  unfold X13_scan_0_s at hf
  refine lv_aload_n hx hb dX13_scan_0 rfl (lv_at hl 0 rfl) ?_
  refine lv_aload_n hx hb dX13_scan_1 rfl (lv_at hl 0 rfl) ?_
  obtain ⟨x29, h30, hf⟩ := ob_some hf
  refine rI_fl_X13_303 hC hw h30 dX13_scan_2 ?_
  obtain ⟨_, h33, hf⟩ := ob_some hf
  obtain ⟨x31, h32, hf⟩ := ob_some hf
  refine gg_cVI (As := [.int x29]) hC hw (X13_byteAt_M l E D A h32) h33 rfl g_ml_X13_300 hd_X13_byteAt (Nat.le_of_ble_eq_true rfl) (Nat.le_of_ble_eq_true rfl) hl.1 rfl (Nat.le_of_ble_eq_true rfl) dX13_scan_5 (fun H locs cells slots hw => ?_)
  refine lv_bipush (v := 32) hx hb dX13_scan_8 (by decide) ?_
  refine lv_icmp_eq (tgt := 26) hx hb dX13_scan_10 (by decide) (fun c69 => ?_) (fun c69 => ?_)
  · replace hf := (if_pos c69).symm.trans hf
    exact X13_scan_26_W hC hQ h_0 hf hw (lv_sub hl [0] rfl)
  · replace hf := (if_neg c69).symm.trans hf
    refine lv_aload_n hx hb dX13_scan_13 rfl (lv_at hl 0 rfl) ?_
    refine lv_aload_n hx hb dX13_scan_14 rfl (lv_at hl 0 rfl) ?_
    obtain ⟨x34, h35, hf⟩ := ob_some hf
    refine rI_fl_X13_303 hC hw h35 dX13_scan_15 ?_
    obtain ⟨_, h38, hf⟩ := ob_some hf
    obtain ⟨x36, h37, hf⟩ := ob_some hf
    refine gg_cVI (As := [.int x34]) hC hw (X13_byteAt_M l E D A h37) h38 rfl g_ml_X13_300 hd_X13_byteAt (Nat.le_of_ble_eq_true rfl) (Nat.le_of_ble_eq_true rfl) hl.1 rfl (Nat.le_of_ble_eq_true rfl) dX13_scan_18 (fun H locs cells slots hw => ?_)
    refine lv_bipush (v := 10) hx hb dX13_scan_21 (by decide) ?_
    refine lv_icmp_ne (tgt := 39) hx hb dX13_scan_23 (by decide) (fun c68 => ?_) (fun c68 => ?_)
    · replace hf := (if_neg c68).symm.trans hf
      refine lv_aload_n hx hb dX13_scan_39 rfl (lv_at hl 0 rfl) ?_
      refine lv_aload_n hx hb dX13_scan_40 rfl (lv_at hl 0 rfl) ?_
      obtain ⟨x39, h40, hf⟩ := ob_some hf
      refine rI_fl_X13_303 hC hw h40 dX13_scan_41 ?_
      obtain ⟨σ41, h42, hf⟩ := ob_some hf
      refine p_fl_X13_306 hC hw h42 rfl rfl dX13_scan_44 (fun H locs hw => ?_)
      refine lv_aload_n hx hb dX13_scan_47 rfl (lv_at hl 0 rfl) ?_
      obtain ⟨x43, h44, hf⟩ := ob_some hf
      refine rI_fl_X13_303 hC hw h44 dX13_scan_48 ?_
      refine lv_aload_n hx hb dX13_scan_51 rfl (lv_at hl 0 rfl) ?_
      obtain ⟨x45, h46, hf⟩ := ob_some hf
      refine rI_fl_X13_297 hC hw h46 dX13_scan_52 ?_
      refine lv_icmp_lt (tgt := 66) hx hb dX13_scan_55 (by decide) (fun c67 => ?_) (fun c67 => ?_)
      · replace hf := (if_pos c67).symm.trans hf
        refine lv_aload_n hx hb dX13_scan_66 rfl (lv_at hl 0 rfl) ?_
        refine lv_aload_n hx hb dX13_scan_67 rfl (lv_at hl 0 rfl) ?_
        obtain ⟨x47, h48, hf⟩ := ob_some hf
        refine rI_fl_X13_303 hC hw h48 dX13_scan_68 ?_
        obtain ⟨_, h51, hf⟩ := ob_some hf
        obtain ⟨x49, h50, hf⟩ := ob_some hf
        refine gg_cVI (As := [.int x47]) hC hw (X13_isLetter_M l E D A h50) h51 rfl g_ml_X13_312 hd_X13_isLetter (Nat.le_of_ble_eq_true rfl) (Nat.le_of_ble_eq_true rfl) hl.1 rfl (Nat.le_of_ble_eq_true rfl) dX13_scan_71 (fun H locs cells slots hw => ?_)
        refine lv_if_eq (tgt := 109) hx hb dX13_scan_74 (by decide) (fun c64 => ?_) (fun c64 => ?_)
        · replace hf := (if_pos c64).symm.trans hf
          refine lv_aload_n hx hb dX13_scan_109 rfl (lv_at hl 0 rfl) ?_
          refine lv_aload_n hx hb dX13_scan_110 rfl (lv_at hl 0 rfl) ?_
          obtain ⟨x52, h53, hf⟩ := ob_some hf
          refine rI_fl_X13_303 hC hw h53 dX13_scan_111 ?_
          obtain ⟨_, h56, hf⟩ := ob_some hf
          obtain ⟨x54, h55, hf⟩ := ob_some hf
          refine gg_cVI (As := [.int x52]) hC hw (X13_isDigit_M l E D A h55) h56 rfl g_ml_X13_315 hd_X13_isDigit (Nat.le_of_ble_eq_true rfl) (Nat.le_of_ble_eq_true rfl) hl.1 rfl (Nat.le_of_ble_eq_true rfl) dX13_scan_114 (fun H locs cells slots hw => ?_)
          refine lv_if_eq (tgt := 152) hx hb dX13_scan_117 (by decide) (fun c63 => ?_) (fun c63 => ?_)
          · replace hf := (if_pos c63).symm.trans hf
            refine lv_aload_n hx hb dX13_scan_152 rfl (lv_at hl 0 rfl) ?_
            refine lv_dup hx hb dX13_scan_153 rfl ?_
            obtain ⟨x57, h58, hf⟩ := ob_some hf
            refine rI_fl_X13_303 hC hw h58 dX13_scan_154 ?_
            refine lv_iconst (v := 1) hx hb dX13_scan_157 (by decide) ?_
            refine lv_iadd hx hb dX13_scan_158 ?_
            obtain ⟨σ59, h60, hf⟩ := ob_some hf
            refine p_fl_X13_303 hC hw h60 rfl rfl dX13_scan_159 (fun H locs hw => ?_)
            refine lv_aload_n hx hb dX13_scan_162 rfl (lv_at hl 0 rfl) ?_
            refine lv_iconst (v := 3) hx hb dX13_scan_163 (by decide) ?_
            obtain ⟨σ61, h62, hf⟩ := ob_some hf
            refine p_fl_X13_309 hC hw h62 rfl rfl dX13_scan_164 (fun H locs hw => ?_)
            cases hf
            exact hQ _ _ _ _ _ _ dX13_scan_167 hw
          · replace hf := (if_neg c63).symm.trans hf
            exact X13_scan_120_W hC hQ (gN E) hf hw (lv_sub hl [0] rfl)
        · replace hf := (if_neg c64).symm.trans hf
          exact X13_scan_77_W hC hQ (gN E) hf hw (lv_sub hl [0] rfl)
      · replace hf := (if_neg c67).symm.trans hf
        refine lv_aload_n hx hb dX13_scan_58 rfl (lv_at hl 0 rfl) ?_
        refine lv_iconst (v := 0) hx hb dX13_scan_59 (by decide) ?_
        obtain ⟨σ65, h66, hf⟩ := ob_some hf
        refine p_fl_X13_309 hC hw h66 rfl rfl dX13_scan_60 (fun H locs hw => ?_)
        refine lv_goto (tgt := 167) hx hb dX13_scan_63 (by decide) ?_
        cases hf
        exact hQ _ _ _ _ _ _ dX13_scan_167 hw
    · replace hf := (if_pos c68).symm.trans hf
      exact X13_scan_26_W hC hQ h_0 hf hw (lv_sub hl [0] rfl)
def X13_scan_0 (E : gE) : Nat → Nat → gS → Option gS
  | 0 => fun _ _ => none
  | n + 1 => X13_scan_0_s E (X13_scan_0 E n)
theorem X13_scan_0_W {σz : gS} (hC : gC E D A p R s m args meth c cX13_scan 1 RX13 "scan" 2 42) (hQ : gQV E D A p l e R s m args below meth c Q cX13_scan σz) : ∀ (n : Nat), ∀ {l0 : Nat} {σ : gS} {H : Heap} {locs : List Loc} {cells slots : Nat} {ls : Array Slot}, X13_scan_0 E n l0 σ = some σz → gW E D A s σ H locs → lv_has ls 1 [(0, .ref l0)] → W p l e R s m args below meth c H locs cells slots Q (F0 m 0 ls []) := by
  intro n
  induction n with
  | zero =>
    intros
    rename_i hf _ _
    exact absurd hf (fun h => by cases (show (none : Option gS) = some σz from h))
  | succ n ih =>
    intros
    rename_i hf hw hl
    exact X13_scan_0_s_W hC hQ ih hf hw hl

def X13_scan_f (E : gE) (l0 : Nat) (σ : gS) : Option gS := X13_scan_0 E (gN E) l0 σ
set_option maxRecDepth 100000 in
theorem X13_scan_M (l : Launch) (E : gE) (D : va_G) (A : Nat → Prop) {l0 : Nat} {σ : gS} {σz : gS} (hf : X13_scan_f E l0 σ = some σz) : gCV l E D A yX13_scan cX13_scan 1 2 42 none [.ref l0] σ σz := by
  refine gg_entV (own := RX13) (nm := "scan") (by decide +kernel) rfl rfl (Nat.le_of_ble_eq_true rfl) rfl ?_
  intro p e R s m args below meth c Q ls hC hw hQ hl
  have hl : lv_has ls 1 [(0, .ref l0)] := hl
  exact X13_scan_0_W hC hQ (gN E) hf hw hl

def X13_startText (E : gE) (l0 : Nat) (l1 : Int32) (σ : gS) : Option gS :=
  ob (gpf E σ l0 11 18 (.int l1)) fun σ1 =>
  ob (gpf E σ1 l0 11 19 (.int (0 : Int32))) fun σ3 =>
  ob (gpf E σ3 l0 11 22 (.int (0 : Int32))) fun σ5 =>
  ob (gpf E σ5 l0 11 25 (.int (0 : Int32))) fun σ7 =>
  ob (gcl σ7 l0 11) fun _ =>
  ob (X13_scan_f E l0 σ7) fun x9 =>
  some x9
set_option maxHeartbeats 4000000 in
set_option maxRecDepth 100000 in
theorem X13_startText_W {σ : gS} {l0 : Nat} {l1 : Int32} {σz : gS} {ls : Array Slot} (hC : gC E D A p R s m args meth c cX13_startText 2 RX13 "startText" 3 62) (hQ : gQV E D A p l e R s m args below meth c Q cX13_startText σz) (hf : X13_startText E l0 l1 σ = some σz) (hw : gW E D A s σ H locs) (hl : lv_has ls 2 [(0, .ref l0), (1, .int l1)]) : W p l e R s m args below meth c H locs cells slots Q (F0 m 0 ls []) := by
  have hC0 := hC
  obtain ⟨hx, hb, hml, hown, hts, -⟩ := hC0
  unfold X13_startText at hf
  refine lv_aload_n hx hb dX13_startText_0 rfl (lv_at hl 0 rfl) ?_
  refine lv_iload_n hx hb dX13_startText_1 rfl (lv_at hl 1 rfl) ?_
  obtain ⟨σ1, h2, hf⟩ := ob_some hf
  refine p_fl_X13_297 hC hw h2 rfl rfl dX13_startText_2 (fun H locs hw => ?_)
  refine lv_aload_n hx hb dX13_startText_5 rfl (lv_at hl 0 rfl) ?_
  refine lv_iconst (v := 0) hx hb dX13_startText_6 (by decide) ?_
  obtain ⟨σ3, h4, hf⟩ := ob_some hf
  refine p_fl_X13_303 hC hw h4 rfl rfl dX13_startText_7 (fun H locs hw => ?_)
  refine lv_aload_n hx hb dX13_startText_10 rfl (lv_at hl 0 rfl) ?_
  refine lv_iconst (v := 0) hx hb dX13_startText_11 (by decide) ?_
  obtain ⟨σ5, h6, hf⟩ := ob_some hf
  refine p_fl_X13_318 hC hw h6 rfl rfl dX13_startText_12 (fun H locs hw => ?_)
  refine lv_aload_n hx hb dX13_startText_15 rfl (lv_at hl 0 rfl) ?_
  refine lv_iconst (v := 0) hx hb dX13_startText_16 (by decide) ?_
  obtain ⟨σ7, h8, hf⟩ := ob_some hf
  refine p_fl_X13_321 hC hw h8 rfl rfl dX13_startText_17 (fun H locs hw => ?_)
  refine lv_aload_n hx hb dX13_startText_20 rfl (lv_at hl 0 rfl) ?_
  obtain ⟨_, h11, hf⟩ := ob_some hf
  obtain ⟨x9, h10, hf⟩ := ob_some hf
  refine gg_cVV (As := []) hC hw (X13_scan_M l E D A h10) h11 rfl g_ml_X13_324 hd_X13_scan (Nat.le_of_ble_eq_true rfl) (Nat.le_of_ble_eq_true rfl) hl.1 rfl (Nat.le_of_ble_eq_true rfl) dX13_startText_21 (fun H locs cells slots hw => ?_)
  cases hf
  exact hQ _ _ _ _ _ _ dX13_startText_24 hw

def X13_startText_f (E : gE) (l0 : Nat) (l1 : Int32) (σ : gS) : Option gS := X13_startText E l0 l1 σ
set_option maxRecDepth 100000 in
theorem X13_startText_M (l : Launch) (E : gE) (D : va_G) (A : Nat → Prop) {l0 : Nat} {l1 : Int32} {σ : gS} {σz : gS} (hf : X13_startText_f E l0 l1 σ = some σz) : gCV l E D A yX13_startText cX13_startText 2 3 62 none [.ref l0, .int l1] σ σz := by
  refine gg_entV (own := RX13) (nm := "startText") (by decide +kernel) rfl rfl (Nat.le_of_ble_eq_true rfl) rfl ?_
  intro p e R s m args below meth c Q ls hC hw hQ hl
  have hl : lv_has ls 2 [(0, .ref l0), (1, .int l1)] := hl
  exact X13_startText_W hC hQ hf hw hl

def X13_finish_21 (E : gE) (l0 : Nat) (s0 : Int32) (s1 : Nat) (σ : gS) : Option (Int32 × gS) :=
  ob (gpf E σ s1 11 24 (.int s0)) fun σ1 =>
  ob (gfI σ1 l0 11 22) fun x3 =>
  some (x3, σ1)
set_option maxHeartbeats 4000000 in
set_option maxRecDepth 100000 in
theorem X13_finish_21_W {σ : gS} {l0 : Nat} {s0 : Int32} {s1 : Nat} {res : (Int32 × gS)} {ls : Array Slot} (hC : gC E D A p R s m args meth c cX13_finish 1 RX13 "finish" 0 0) (hQ : gQI E D A p l e R s m args below meth c Q cX13_finish FieldType.int res) (hf : X13_finish_21 E l0 s0 s1 σ = some res) (hw : gW E D A s σ H locs) (hl : lv_has ls 1 [(0, .ref l0)]) : W p l e R s m args below meth c H locs cells slots Q (F0 m 21 ls [.int s0, .ref s1]) := by
  have hC0 := hC
  obtain ⟨hx, hb, hml, hown, hts, -⟩ := hC0
  unfold X13_finish_21 at hf
  obtain ⟨σ1, h2, hf⟩ := ob_some hf
  refine p_fl_X13_44 hC hw h2 rfl rfl dX13_finish_21 (fun H locs hw => ?_)
  refine lv_aload_n hx hb dX13_finish_24 rfl (lv_at hl 0 rfl) ?_
  obtain ⟨x3, h4, hf⟩ := ob_some hf
  refine rI_fl_X13_318 hC hw h4 dX13_finish_25 ?_
  cases hf
  exact hQ _ _ _ _ _ _ dX13_finish_28 rfl hw

def X13_finish (E : gE) (l0 : Nat) (σ : gS) : Option (Int32 × gS) :=
  ob (gpf E σ l0 11 17 (.int (0 : Int32))) fun σ5 =>
  ob (gfI σ5 l0 11 22) fun x7 =>
  if x7 = 0 then
    X13_finish_21 E l0 (-1 : Int32) l0 σ5
  else
    ob (gfI σ5 l0 11 23) fun x9 =>
    X13_finish_21 E l0 x9 l0 σ5
set_option maxHeartbeats 4000000 in
set_option maxRecDepth 100000 in
theorem X13_finish_W {σ : gS} {l0 : Nat} {res : (Int32 × gS)} {ls : Array Slot} (hC : gC E D A p R s m args meth c cX13_finish 1 RX13 "finish" 0 0) (hQ : gQI E D A p l e R s m args below meth c Q cX13_finish FieldType.int res) (hf : X13_finish E l0 σ = some res) (hw : gW E D A s σ H locs) (hl : lv_has ls 1 [(0, .ref l0)]) : W p l e R s m args below meth c H locs cells slots Q (F0 m 0 ls []) := by
  have hC0 := hC
  obtain ⟨hx, hb, hml, hown, hts, -⟩ := hC0
  unfold X13_finish at hf
  refine lv_aload_n hx hb dX13_finish_0 rfl (lv_at hl 0 rfl) ?_
  refine lv_iconst (v := 0) hx hb dX13_finish_1 (by decide) ?_
  obtain ⟨σ5, h6, hf⟩ := ob_some hf
  refine p_fl_X13_294 hC hw h6 rfl rfl dX13_finish_2 (fun H locs hw => ?_)
  refine lv_aload_n hx hb dX13_finish_5 rfl (lv_at hl 0 rfl) ?_
  refine lv_aload_n hx hb dX13_finish_6 rfl (lv_at hl 0 rfl) ?_
  obtain ⟨x7, h8, hf⟩ := ob_some hf
  refine rI_fl_X13_318 hC hw h8 dX13_finish_7 ?_
  refine lv_if_ne (tgt := 17) hx hb dX13_finish_10 (by decide) (fun c11 => ?_) (fun c11 => ?_)
  · replace hf := (if_neg c11).symm.trans hf
    refine lv_aload_n hx hb dX13_finish_17 rfl (lv_at hl 0 rfl) ?_
    obtain ⟨x9, h10, hf⟩ := ob_some hf
    refine rI_fl_X13_327 hC hw h10 dX13_finish_18 ?_
    exact X13_finish_21_W hC hQ hf hw (lv_sub hl [0] rfl)
  · replace hf := (if_pos c11).symm.trans hf
    refine lv_iconst (v := -1) hx hb dX13_finish_13 (by decide) ?_
    refine lv_goto (tgt := 21) hx hb dX13_finish_14 (by decide) ?_
    exact X13_finish_21_W hC hQ hf hw (lv_sub hl [0] rfl)

def X13_finish_f (E : gE) (l0 : Nat) (σ : gS) : Option (Int32 × gS) := X13_finish E l0 σ
set_option maxRecDepth 100000 in
theorem X13_finish_M (l : Launch) (E : gE) (D : va_G) (A : Nat → Prop) {l0 : Nat} {σ : gS} {res : (Int32 × gS)} (hf : X13_finish_f E l0 σ = some res) : gCI l E D A yX13_finish cX13_finish 1 0 0 (some FieldType.int) [.ref l0] σ res := by
  refine gg_entI (own := RX13) (nm := "finish") (ty := FieldType.int) (by decide +kernel) rfl rfl (Nat.le_of_ble_eq_true rfl) rfl ?_
  intro p e R s m args below meth c Q ls hC hw hQ hl
  have hl : lv_has ls 1 [(0, .ref l0)] := hl
  exact X13_finish_W hC hQ hf hw hl

def X13_check (E : gE) (l0 : Nat) (l1 : Int32) (l2 : Int32) (σ : gS) : Option gS :=
  if l1 = 0 then
    ob (gfI σ l0 11 22) fun x1 =>
    if x1 = 0 then
      ob (gpf E σ l0 11 22 (.int l2)) fun σ3 =>
      ob (gfI σ3 l0 11 20) fun x5 =>
      ob (gpf E σ3 l0 11 23 (.int x5)) fun σ7 =>
      some σ7
    else
      some σ
  else
    some σ
set_option maxHeartbeats 4000000 in
set_option maxRecDepth 100000 in
theorem X13_check_W {σ : gS} {l0 : Nat} {l1 : Int32} {l2 : Int32} {σz : gS} {ls : Array Slot} (hC : gC E D A p R s m args meth c cX13_check 3 RX13 "check" 0 0) (hQ : gQV E D A p l e R s m args below meth c Q cX13_check σz) (hf : X13_check E l0 l1 l2 σ = some σz) (hw : gW E D A s σ H locs) (hl : lv_has ls 3 [(0, .ref l0), (1, .int l1), (2, .int l2)]) : W p l e R s m args below meth c H locs cells slots Q (F0 m 0 ls []) := by
  have hC0 := hC
  obtain ⟨hx, hb, hml, hown, hts, -⟩ := hC0
  unfold X13_check at hf
  refine lv_iload_n hx hb dX13_check_0 rfl (lv_at hl 1 rfl) ?_
  refine lv_if_ne (tgt := 24) hx hb dX13_check_1 (by decide) (fun c10 => ?_) (fun c10 => ?_)
  · replace hf := (if_neg c10).symm.trans hf
    cases hf
    exact hQ _ _ _ _ _ _ dX13_check_24 hw
  · replace hf := (if_pos c10).symm.trans hf
    refine lv_aload_n hx hb dX13_check_4 rfl (lv_at hl 0 rfl) ?_
    obtain ⟨x1, h2, hf⟩ := ob_some hf
    refine rI_fl_X13_318 hC hw h2 dX13_check_5 ?_
    refine lv_if_ne (tgt := 24) hx hb dX13_check_8 (by decide) (fun c9 => ?_) (fun c9 => ?_)
    · replace hf := (if_neg c9).symm.trans hf
      cases hf
      exact hQ _ _ _ _ _ _ dX13_check_24 hw
    · replace hf := (if_pos c9).symm.trans hf
      refine lv_aload_n hx hb dX13_check_11 rfl (lv_at hl 0 rfl) ?_
      refine lv_iload_n hx hb dX13_check_12 rfl (lv_at hl 2 rfl) ?_
      obtain ⟨σ3, h4, hf⟩ := ob_some hf
      refine p_fl_X13_318 hC hw h4 rfl rfl dX13_check_13 (fun H locs hw => ?_)
      refine lv_aload_n hx hb dX13_check_16 rfl (lv_at hl 0 rfl) ?_
      refine lv_aload_n hx hb dX13_check_17 rfl (lv_at hl 0 rfl) ?_
      obtain ⟨x5, h6, hf⟩ := ob_some hf
      refine rI_fl_X13_306 hC hw h6 dX13_check_18 ?_
      obtain ⟨σ7, h8, hf⟩ := ob_some hf
      refine p_fl_X13_327 hC hw h8 rfl rfl dX13_check_21 (fun H locs hw => ?_)
      cases hf
      exact hQ _ _ _ _ _ _ dX13_check_24 hw

def X13_check_f (E : gE) (l0 : Nat) (l1 : Int32) (l2 : Int32) (σ : gS) : Option gS := X13_check E l0 l1 l2 σ
set_option maxRecDepth 100000 in
theorem X13_check_M (l : Launch) (E : gE) (D : va_G) (A : Nat → Prop) {l0 : Nat} {l1 : Int32} {l2 : Int32} {σ : gS} {σz : gS} (hf : X13_check_f E l0 l1 l2 σ = some σz) : gCV l E D A yX13_check cX13_check 3 0 0 none [.ref l0, .int l1, .int l2] σ σz := by
  refine gg_entV (own := RX13) (nm := "check") (by decide +kernel) rfl rfl (Nat.le_of_ble_eq_true rfl) rfl ?_
  intro p e R s m args below meth c Q ls hC hw hQ hl
  have hl : lv_has ls 3 [(0, .ref l0), (1, .int l1), (2, .int l2)] := hl
  exact X13_check_W hC hQ hf hw hl

def X13_advance (E : gE) (l0 : Nat) (σ : gS) : Option gS :=
  ob (gfI σ l0 11 22) fun x1 =>
  if x1 = 0 then
    ob (gcl σ l0 11) fun _ =>
    ob (X13_scan_f E l0 σ) fun x3 =>
    some x3
  else
    some σ
set_option maxHeartbeats 4000000 in
set_option maxRecDepth 100000 in
theorem X13_advance_W {σ : gS} {l0 : Nat} {σz : gS} {ls : Array Slot} (hC : gC E D A p R s m args meth c cX13_advance 1 RX13 "advance" 3 62) (hQ : gQV E D A p l e R s m args below meth c Q cX13_advance σz) (hf : X13_advance E l0 σ = some σz) (hw : gW E D A s σ H locs) (hl : lv_has ls 1 [(0, .ref l0)]) : W p l e R s m args below meth c H locs cells slots Q (F0 m 0 ls []) := by
  have hC0 := hC
  obtain ⟨hx, hb, hml, hown, hts, -⟩ := hC0
  unfold X13_advance at hf
  refine lv_aload_n hx hb dX13_advance_0 rfl (lv_at hl 0 rfl) ?_
  obtain ⟨x1, h2, hf⟩ := ob_some hf
  refine rI_fl_X13_318 hC hw h2 dX13_advance_1 ?_
  refine lv_if_ne (tgt := 11) hx hb dX13_advance_4 (by decide) (fun c6 => ?_) (fun c6 => ?_)
  · replace hf := (if_neg c6).symm.trans hf
    cases hf
    exact hQ _ _ _ _ _ _ dX13_advance_11 hw
  · replace hf := (if_pos c6).symm.trans hf
    refine lv_aload_n hx hb dX13_advance_7 rfl (lv_at hl 0 rfl) ?_
    obtain ⟨_, h5, hf⟩ := ob_some hf
    obtain ⟨x3, h4, hf⟩ := ob_some hf
    refine gg_cVV (As := []) hC hw (X13_scan_M l E D A h4) h5 rfl g_ml_X13_324 hd_X13_scan (Nat.le_of_ble_eq_true rfl) (Nat.le_of_ble_eq_true rfl) hl.1 rfl (Nat.le_of_ble_eq_true rfl) dX13_advance_8 (fun H locs cells slots hw => ?_)
    cases hf
    exact hQ _ _ _ _ _ _ dX13_advance_11 hw

def X13_advance_f (E : gE) (l0 : Nat) (σ : gS) : Option gS := X13_advance E l0 σ
set_option maxRecDepth 100000 in
theorem X13_advance_M (l : Launch) (E : gE) (D : va_G) (A : Nat → Prop) {l0 : Nat} {σ : gS} {σz : gS} (hf : X13_advance_f E l0 σ = some σz) : gCV l E D A yX13_advance cX13_advance 1 3 62 none [.ref l0] σ σz := by
  refine gg_entV (own := RX13) (nm := "advance") (by decide +kernel) rfl rfl (Nat.le_of_ble_eq_true rfl) rfl ?_
  intro p e R s m args below meth c Q ls hC hw hQ hl
  have hl : lv_has ls 1 [(0, .ref l0)] := hl
  exact X13_advance_W hC hQ hf hw hl

def X13_isSymbol_32 (E : gE) (σ : gS) : Option Int32 :=
  some (0 : Int32)
set_option maxHeartbeats 4000000 in
set_option maxRecDepth 100000 in
theorem X13_isSymbol_32_W {σ : gS} {res : Int32} {ls : Array Slot} (hC : gC E D A p R s m args meth c cX13_isSymbol 2 RX13 "isSymbol" 0 0) (hQ : gQI E D A p l e R s m args below meth c Q cX13_isSymbol FieldType.boolean (res, σ)) (hf : X13_isSymbol_32 E σ = some res) (hw : gW E D A s σ H locs) (hl : lv_has ls 2 []) : W p l e R s m args below meth c H locs cells slots Q (F0 m 32 ls []) := by
  have hC0 := hC
  obtain ⟨hx, hb, hml, hown, hts, -⟩ := hC0
  unfold X13_isSymbol_32 at hf
  refine lv_iconst (v := 0) hx hb dX13_isSymbol_32 (by decide) ?_
  cases hf
  exact hQ _ _ _ _ _ _ dX13_isSymbol_33 gz0 hw

def X13_isSymbol (E : gE) (σ : gS) (l0 : Nat) (l1 : Int32) : Option Int32 :=
  ob (gfI σ l0 11 22) fun x1 =>
  if x1 = 0 then
    ob (gfI σ l0 11 21) fun x3 =>
    if x3 = (3 : Int32) then
      ob (gfR σ l0 11 16) fun x5 =>
      ob (gfI σ l0 11 20) fun x7 =>
      ob (graI E 0 σ x5 x7) fun x9 =>
      if x9 = l1 then
        some (1 : Int32)
      else
        X13_isSymbol_32 E σ
    else
      X13_isSymbol_32 E σ
  else
    X13_isSymbol_32 E σ
set_option maxHeartbeats 4000000 in
set_option maxRecDepth 100000 in
theorem X13_isSymbol_W {σ : gS} {l0 : Nat} {l1 : Int32} {res : Int32} {ls : Array Slot} (hC : gC E D A p R s m args meth c cX13_isSymbol 2 RX13 "isSymbol" 0 0) (hQ : gQI E D A p l e R s m args below meth c Q cX13_isSymbol FieldType.boolean (res, σ)) (hf : X13_isSymbol E σ l0 l1 = some res) (hw : gW E D A s σ H locs) (hl : lv_has ls 2 [(0, .ref l0), (1, .int l1)]) : W p l e R s m args below meth c H locs cells slots Q (F0 m 0 ls []) := by
  have hC0 := hC
  obtain ⟨hx, hb, hml, hown, hts, -⟩ := hC0
  unfold X13_isSymbol at hf
  refine lv_aload_n hx hb dX13_isSymbol_0 rfl (lv_at hl 0 rfl) ?_
  obtain ⟨x1, h2, hf⟩ := ob_some hf
  refine rI_fl_X13_318 hC hw h2 dX13_isSymbol_1 ?_
  refine lv_if_ne (tgt := 32) hx hb dX13_isSymbol_4 (by decide) (fun c13 => ?_) (fun c13 => ?_)
  · replace hf := (if_neg c13).symm.trans hf
    exact X13_isSymbol_32_W hC hQ hf hw (lv_sub hl [] rfl)
  · replace hf := (if_pos c13).symm.trans hf
    refine lv_aload_n hx hb dX13_isSymbol_7 rfl (lv_at hl 0 rfl) ?_
    obtain ⟨x3, h4, hf⟩ := ob_some hf
    refine rI_fl_X13_309 hC hw h4 dX13_isSymbol_8 ?_
    refine lv_iconst (v := 3) hx hb dX13_isSymbol_11 (by decide) ?_
    refine lv_icmp_ne (tgt := 32) hx hb dX13_isSymbol_12 (by decide) (fun c12 => ?_) (fun c12 => ?_)
    · replace hf := (if_neg c12).symm.trans hf
      exact X13_isSymbol_32_W hC hQ hf hw (lv_sub hl [] rfl)
    · replace hf := (if_pos c12).symm.trans hf
      refine lv_aload_n hx hb dX13_isSymbol_15 rfl (lv_at hl 0 rfl) ?_
      obtain ⟨x5, h6, hf⟩ := ob_some hf
      refine rR_fl_X13_41 hC hw h6 dX13_isSymbol_16 ?_
      refine lv_aload_n hx hb dX13_isSymbol_19 rfl (lv_at hl 0 rfl) ?_
      obtain ⟨x7, h8, hf⟩ := ob_some hf
      refine rI_fl_X13_306 hC hw h8 dX13_isSymbol_20 ?_
      obtain ⟨x9, h10, hf⟩ := ob_some hf
      refine gg_aldI hC hw h10 dX13_isSymbol_23 ?_
      refine lv_iload_n hx hb dX13_isSymbol_24 rfl (lv_at hl 1 rfl) ?_
      refine lv_icmp_ne (tgt := 32) hx hb dX13_isSymbol_25 (by decide) (fun c11 => ?_) (fun c11 => ?_)
      · replace hf := (if_neg c11).symm.trans hf
        exact X13_isSymbol_32_W hC hQ hf hw (lv_sub hl [] rfl)
      · replace hf := (if_pos c11).symm.trans hf
        refine lv_iconst (v := 1) hx hb dX13_isSymbol_28 (by decide) ?_
        refine lv_goto (tgt := 33) hx hb dX13_isSymbol_29 (by decide) ?_
        cases hf
        exact hQ _ _ _ _ _ _ dX13_isSymbol_33 gz1 hw

def X13_isSymbol_f (E : gE) (σ : gS) (l0 : Nat) (l1 : Int32) : Option Int32 := X13_isSymbol E σ l0 l1
set_option maxRecDepth 100000 in
theorem X13_isSymbol_M (l : Launch) (E : gE) (D : va_G) (A : Nat → Prop) {l0 : Nat} {l1 : Int32} {σ : gS} {res : Int32} (hf : X13_isSymbol_f E σ l0 l1 = some res) : gCI l E D A yX13_isSymbol cX13_isSymbol 2 0 0 (some FieldType.boolean) [.ref l0, .int l1] σ (res, σ) := by
  refine gg_entI (own := RX13) (nm := "isSymbol") (ty := FieldType.boolean) (by decide +kernel) rfl rfl (Nat.le_of_ble_eq_true rfl) rfl ?_
  intro p e R s m args below meth c Q ls hC hw hQ hl
  have hl : lv_has ls 2 [(0, .ref l0), (1, .int l1)] := hl
  exact X13_isSymbol_W hC hQ hf hw hl

def X13_expect (E : gE) (l0 : Nat) (l1 : Int32) (σ : gS) : Option gS :=
  ob (gcl σ l0 11) fun _ =>
  ob (X13_isSymbol_f E σ l0 l1) fun x1 =>
  ob (gcl σ l0 11) fun _ =>
  ob (X13_check_f E l0 x1 (1 : Int32) σ) fun x4 =>
  ob (gcl x4 l0 11) fun _ =>
  ob (X13_advance_f E l0 x4) fun x7 =>
  some x7
set_option maxHeartbeats 4000000 in
set_option maxRecDepth 100000 in
theorem X13_expect_W {σ : gS} {l0 : Nat} {l1 : Int32} {σz : gS} {ls : Array Slot} (hC : gC E D A p R s m args meth c cX13_expect 2 RX13 "expect" 4 82) (hQ : gQV E D A p l e R s m args below meth c Q cX13_expect σz) (hf : X13_expect E l0 l1 σ = some σz) (hw : gW E D A s σ H locs) (hl : lv_has ls 2 [(0, .ref l0), (1, .int l1)]) : W p l e R s m args below meth c H locs cells slots Q (F0 m 0 ls []) := by
  have hC0 := hC
  obtain ⟨hx, hb, hml, hown, hts, -⟩ := hC0
  unfold X13_expect at hf
  refine lv_aload_n hx hb dX13_expect_0 rfl (lv_at hl 0 rfl) ?_
  refine lv_aload_n hx hb dX13_expect_1 rfl (lv_at hl 0 rfl) ?_
  refine lv_iload_n hx hb dX13_expect_2 rfl (lv_at hl 1 rfl) ?_
  obtain ⟨_, h3, hf⟩ := ob_some hf
  obtain ⟨x1, h2, hf⟩ := ob_some hf
  refine gg_cVI (As := [.int l1]) hC hw (X13_isSymbol_M l E D A h2) h3 rfl g_ml_X13_341 hd_X13_isSymbol (Nat.le_of_ble_eq_true rfl) (Nat.le_of_ble_eq_true rfl) hl.1 rfl (Nat.le_of_ble_eq_true rfl) dX13_expect_3 (fun H locs cells slots hw => ?_)
  refine lv_iconst (v := 1) hx hb dX13_expect_6 (by decide) ?_
  obtain ⟨_, h6, hf⟩ := ob_some hf
  obtain ⟨x4, h5, hf⟩ := ob_some hf
  refine gg_cVV (As := [.int x1, .int (1 : Int32)]) hC hw (X13_check_M l E D A h5) h6 rfl g_ml_X13_344 hd_X13_check (Nat.le_of_ble_eq_true rfl) (Nat.le_of_ble_eq_true rfl) hl.1 rfl (Nat.le_of_ble_eq_true rfl) dX13_expect_7 (fun H locs cells slots hw => ?_)
  refine lv_aload_n hx hb dX13_expect_10 rfl (lv_at hl 0 rfl) ?_
  obtain ⟨_, h9, hf⟩ := ob_some hf
  obtain ⟨x7, h8, hf⟩ := ob_some hf
  refine gg_cVV (As := []) hC hw (X13_advance_M l E D A h8) h9 rfl g_ml_X13_348 hd_X13_advance (Nat.le_of_ble_eq_true rfl) (Nat.le_of_ble_eq_true rfl) hl.1 rfl (Nat.le_of_ble_eq_true rfl) dX13_expect_11 (fun H locs cells slots hw => ?_)
  cases hf
  exact hQ _ _ _ _ _ _ dX13_expect_14 hw

def X13_expect_f (E : gE) (l0 : Nat) (l1 : Int32) (σ : gS) : Option gS := X13_expect E l0 l1 σ
set_option maxRecDepth 100000 in
theorem X13_expect_M (l : Launch) (E : gE) (D : va_G) (A : Nat → Prop) {l0 : Nat} {l1 : Int32} {σ : gS} {σz : gS} (hf : X13_expect_f E l0 l1 σ = some σz) : gCV l E D A yX13_expect cX13_expect 2 4 82 none [.ref l0, .int l1] σ σz := by
  refine gg_entV (own := RX13) (nm := "expect") (by decide +kernel) rfl rfl (Nat.le_of_ble_eq_true rfl) rfl ?_
  intro p e R s m args below meth c Q ls hC hw hQ hl
  have hl : lv_has ls 2 [(0, .ref l0), (1, .int l1)] := hl
  exact X13_expect_W hC hQ hf hw hl

def X13_value__48 (E : gE) (σ : gS) (r_7 : Nat → Int32 → Int32 → Option Int32) (l0 : Nat) (l2 : Int32) (s0 : Int32) : Option Int32 :=
  r_7 l0 s0 (l2 + 1)
set_option maxHeartbeats 4000000 in
set_option maxRecDepth 100000 in
theorem X13_value__48_W {σ : gS} {l0 : Nat} {l2 : Int32} {s0 : Int32} {res : Int32} {ls : Array Slot} (hC : gC E D A p R s m args meth c cX13_value_ 3 RX13 "value" 0 0) (hQ : gQI E D A p l e R s m args below meth c Q cX13_value_ FieldType.int (res, σ)) {r_7 : Nat → Int32 → Int32 → Option Int32} (h_7 : ∀ {l0 : Nat} {l1 : Int32} {l2 : Int32} {H : Heap} {locs : List Loc} {cells slots : Nat} {ls : Array Slot}, r_7 l0 l1 l2 = some res → gW E D A s σ H locs → lv_has ls 3 [(0, .ref l0), (1, .int l1), (2, .int l2)] → W p l e R s m args below meth c H locs cells slots Q (F0 m 7 ls [])) (hf : X13_value__48 E σ r_7 l0 l2 s0 = some res) (hw : gW E D A s σ H locs) (hl : lv_has ls 3 [(0, .ref l0), (2, .int l2)]) : W p l e R s m args below meth c H locs cells slots Q (F0 m 48 ls [.int s0]) := by
  have hC0 := hC
  obtain ⟨hx, hb, hml, hown, hts, -⟩ := hC0
  unfold X13_value__48 at hf
  refine lv_istore_n (lv' := [(1, .int s0), (0, .ref l0), (2, .int l2)]) hx hb dX13_value__48 rfl hl (by decide) rfl (fun ls hl => ?_)
  refine lv_iinc (v := (l2 + 1)) (lv' := [(2, .int (l2 + 1)), (1, .int s0), (0, .ref l0)]) hx hb dX13_value__49 hl (k := 2) rfl rfl (by decide) rfl (fun ls hl => ?_)
  refine lv_goto (tgt := 7) hx hb dX13_value__52 (by decide) ?_
  exact h_7 hf hw (lv_sub hl [2, 1, 0] rfl)

def X13_value__55 (E : gE) (σ : gS) (l1 : Int32) : Option Int32 :=
  some l1
set_option maxHeartbeats 4000000 in
set_option maxRecDepth 100000 in
theorem X13_value__55_W {σ : gS} {l1 : Int32} {res : Int32} {ls : Array Slot} (hC : gC E D A p R s m args meth c cX13_value_ 3 RX13 "value" 0 0) (hQ : gQI E D A p l e R s m args below meth c Q cX13_value_ FieldType.int (res, σ)) (hf : X13_value__55 E σ l1 = some res) (hw : gW E D A s σ H locs) (hl : lv_has ls 3 [(1, .int l1)]) : W p l e R s m args below meth c H locs cells slots Q (F0 m 55 ls []) := by
  have hC0 := hC
  obtain ⟨hx, hb, hml, hown, hts, -⟩ := hC0
  unfold X13_value__55 at hf
  refine lv_iload_n hx hb dX13_value__55 rfl (lv_at hl 0 rfl) ?_
  cases hf
  exact hQ _ _ _ _ _ _ dX13_value__56 rfl hw

def X13_value__7_s (E : gE) (σ : gS) (r_7 : Nat → Int32 → Int32 → Option Int32) (l0 : Nat) (l1 : Int32) (l2 : Int32) : Option Int32 :=
  ob (gfI σ l0 11 19) fun x1 =>
  if x1 ≤ l2 then
    X13_value__55 E σ l1
  else
    ob (gfI σ l0 11 21) fun x3 =>
    if x3 = (2 : Int32) then
      if l1 ≤ (9999999 : Int32) then
        ob (gfR σ l0 11 16) fun x5 =>
        ob (graI E 0 σ x5 l2) fun x7 =>
        X13_value__48 E σ r_7 l0 l2 ((((10 : Int32) * l1) + x7) - (48 : Int32))
      else
        X13_value__48 E σ r_7 l0 l2 l1
    else
      X13_value__55 E σ l1
set_option maxHeartbeats 4000000 in
set_option maxRecDepth 100000 in
theorem X13_value__7_s_W {σ : gS} {l0 : Nat} {l1 : Int32} {l2 : Int32} {res : Int32} {ls : Array Slot} (hC : gC E D A p R s m args meth c cX13_value_ 3 RX13 "value" 0 0) (hQ : gQI E D A p l e R s m args below meth c Q cX13_value_ FieldType.int (res, σ)) {r_7 : Nat → Int32 → Int32 → Option Int32} (h_7 : ∀ {l0 : Nat} {l1 : Int32} {l2 : Int32} {H : Heap} {locs : List Loc} {cells slots : Nat} {ls : Array Slot}, r_7 l0 l1 l2 = some res → gW E D A s σ H locs → lv_has ls 3 [(0, .ref l0), (1, .int l1), (2, .int l2)] → W p l e R s m args below meth c H locs cells slots Q (F0 m 7 ls [])) (hf : X13_value__7_s E σ r_7 l0 l1 l2 = some res) (hw : gW E D A s σ H locs) (hl : lv_has ls 3 [(0, .ref l0), (1, .int l1), (2, .int l2)]) : W p l e R s m args below meth c H locs cells slots Q (F0 m 7 ls []) := by
  have hC0 := hC
  obtain ⟨hx, hb, hml, hown, hts, -⟩ := hC0
  unfold X13_value__7_s at hf
  refine lv_iload_n hx hb dX13_value__7 rfl (lv_at hl 2 rfl) ?_
  refine lv_aload_n hx hb dX13_value__8 rfl (lv_at hl 0 rfl) ?_
  obtain ⟨x1, h2, hf⟩ := ob_some hf
  refine rI_fl_X13_303 hC hw h2 dX13_value__9 ?_
  refine lv_icmp_ge (tgt := 55) hx hb dX13_value__12 (by decide) (fun c11 => ?_) (fun c11 => ?_)
  · replace hf := (if_pos c11).symm.trans hf
    exact X13_value__55_W hC hQ hf hw (lv_sub hl [1] rfl)
  · replace hf := (if_neg c11).symm.trans hf
    refine lv_aload_n hx hb dX13_value__15 rfl (lv_at hl 0 rfl) ?_
    obtain ⟨x3, h4, hf⟩ := ob_some hf
    refine rI_fl_X13_309 hC hw h4 dX13_value__16 ?_
    refine lv_iconst (v := 2) hx hb dX13_value__19 (by decide) ?_
    refine lv_icmp_ne (tgt := 55) hx hb dX13_value__20 (by decide) (fun c10 => ?_) (fun c10 => ?_)
    · replace hf := (if_neg c10).symm.trans hf
      exact X13_value__55_W hC hQ hf hw (lv_sub hl [1] rfl)
    · replace hf := (if_pos c10).symm.trans hf
      refine lv_iload_n hx hb dX13_value__23 rfl (lv_at hl 1 rfl) ?_
      refine lv_ldcw (v := 9999999) hx hb hown (hts _ kc_X13_351) dX13_value__24 ?_
      refine lv_icmp_le (tgt := 34) hx hb dX13_value__27 (by decide) (fun c9 => ?_) (fun c9 => ?_)
      · replace hf := (if_pos c9).symm.trans hf
        refine lv_bipush (v := 10) hx hb dX13_value__34 (by decide) ?_
        refine lv_iload_n hx hb dX13_value__36 rfl (lv_at hl 1 rfl) ?_
        refine lv_imul hx hb dX13_value__37 ?_
        refine lv_aload_n hx hb dX13_value__38 rfl (lv_at hl 0 rfl) ?_
        obtain ⟨x5, h6, hf⟩ := ob_some hf
        refine rR_fl_X13_41 hC hw h6 dX13_value__39 ?_
        refine lv_iload_n hx hb dX13_value__42 rfl (lv_at hl 2 rfl) ?_
        obtain ⟨x7, h8, hf⟩ := ob_some hf
        refine gg_aldI hC hw h8 dX13_value__43 ?_
        refine lv_iadd hx hb dX13_value__44 ?_
        refine lv_bipush (v := 48) hx hb dX13_value__45 (by decide) ?_
        refine lv_isub hx hb dX13_value__47 ?_
        exact X13_value__48_W hC hQ h_7 hf hw (lv_sub hl [0, 2] rfl)
      · replace hf := (if_neg c9).symm.trans hf
        refine lv_iload_n hx hb dX13_value__30 rfl (lv_at hl 1 rfl) ?_
        refine lv_goto (tgt := 48) hx hb dX13_value__31 (by decide) ?_
        exact X13_value__48_W hC hQ h_7 hf hw (lv_sub hl [0, 2] rfl)
def X13_value__7 (E : gE) (σ : gS) : Nat → Nat → Int32 → Int32 → Option Int32
  | 0 => fun _ _ _ => none
  | n + 1 => X13_value__7_s E σ (X13_value__7 E σ n)
theorem X13_value__7_W {σ : gS} {res : Int32} (hC : gC E D A p R s m args meth c cX13_value_ 3 RX13 "value" 0 0) (hQ : gQI E D A p l e R s m args below meth c Q cX13_value_ FieldType.int (res, σ)) : ∀ (n : Nat), ∀ {l0 : Nat} {l1 : Int32} {l2 : Int32} {H : Heap} {locs : List Loc} {cells slots : Nat} {ls : Array Slot}, X13_value__7 E σ n l0 l1 l2 = some res → gW E D A s σ H locs → lv_has ls 3 [(0, .ref l0), (1, .int l1), (2, .int l2)] → W p l e R s m args below meth c H locs cells slots Q (F0 m 7 ls []) := by
  intro n
  induction n with
  | zero =>
    intros
    rename_i hf _ _
    exact absurd hf (fun h => by cases (show (none : Option Int32) = some res from h))
  | succ n ih =>
    intros
    rename_i hf hw hl
    exact X13_value__7_s_W hC hQ ih hf hw hl

def X13_value_ (E : gE) (σ : gS) (l0 : Nat) : Option Int32 :=
  ob (gfI σ l0 11 20) fun x12 =>
  X13_value__7 E σ (gN E) l0 (0 : Int32) x12
set_option maxHeartbeats 4000000 in
set_option maxRecDepth 100000 in
theorem X13_value__W {σ : gS} {l0 : Nat} {res : Int32} {ls : Array Slot} (hC : gC E D A p R s m args meth c cX13_value_ 3 RX13 "value" 0 0) (hQ : gQI E D A p l e R s m args below meth c Q cX13_value_ FieldType.int (res, σ)) (hf : X13_value_ E σ l0 = some res) (hw : gW E D A s σ H locs) (hl : lv_has ls 3 [(0, .ref l0)]) : W p l e R s m args below meth c H locs cells slots Q (F0 m 0 ls []) := by
  have hC0 := hC
  obtain ⟨hx, hb, hml, hown, hts, -⟩ := hC0
  unfold X13_value_ at hf
  refine lv_iconst (v := 0) hx hb dX13_value__0 (by decide) ?_
  refine lv_istore_n (lv' := [(1, .int (0 : Int32)), (0, .ref l0)]) hx hb dX13_value__1 rfl hl (by decide) rfl (fun ls hl => ?_)
  refine lv_aload_n hx hb dX13_value__2 rfl (lv_at hl 1 rfl) ?_
  obtain ⟨x12, h13, hf⟩ := ob_some hf
  refine rI_fl_X13_306 hC hw h13 dX13_value__3 ?_
  refine lv_istore_n (lv' := [(2, .int x12), (1, .int (0 : Int32)), (0, .ref l0)]) hx hb dX13_value__6 rfl hl (by decide) rfl (fun ls hl => ?_)
  exact X13_value__7_W hC hQ (gN E) hf hw (lv_sub hl [2, 1, 0] rfl)

def X13_value__f (E : gE) (σ : gS) (l0 : Nat) : Option Int32 := X13_value_ E σ l0
set_option maxRecDepth 100000 in
theorem X13_value__M (l : Launch) (E : gE) (D : va_G) (A : Nat → Prop) {l0 : Nat} {σ : gS} {res : Int32} (hf : X13_value__f E σ l0 = some res) : gCI l E D A yX13_value_ cX13_value_ 3 0 0 (some FieldType.int) [.ref l0] σ (res, σ) := by
  refine gg_entI (own := RX13) (nm := "value") (ty := FieldType.int) (by decide +kernel) rfl rfl (Nat.le_of_ble_eq_true rfl) rfl ?_
  intro p e R s m args below meth c Q ls hC hw hQ hl
  have hl : lv_has ls 3 [(0, .ref l0)] := hl
  exact X13_value__W hC hQ hf hw hl

def X13_look_14 (E : gE) (l0 : Nat) (l1 : Int32) (l2 : Int32) (s0 : Int32) (s1 : Nat) (σ : gS) : Option (Int32 × gS) :=
  ob (gcl σ s1 11) fun _ =>
  ob (X13_check_f E s1 s0 (1 : Int32) σ) fun x1 =>
  ob (gcl x1 l0 11) fun _ =>
  ob (X13_value__f E x1 l0) fun x4 =>
  ob (X13_inRange_f E x1 x4 l1 l2) fun x7 =>
  ob (gcl x1 l0 11) fun _ =>
  ob (X13_check_f E l0 x7 (2 : Int32) x1) fun x9 =>
  ob (gfI x9 l0 11 22) fun x12 =>
  if x12 = 0 then
    some (x4, x9)
  else
    some (l1, x9)
set_option maxHeartbeats 4000000 in
set_option maxRecDepth 100000 in
theorem X13_look_14_W {σ : gS} {l0 : Nat} {l1 : Int32} {l2 : Int32} {s0 : Int32} {s1 : Nat} {res : (Int32 × gS)} {ls : Array Slot} (hC : gC E D A p R s m args meth c cX13_look 4 RX13 "look" 1 22) (hQ : gQI E D A p l e R s m args below meth c Q cX13_look FieldType.int res) (hf : X13_look_14 E l0 l1 l2 s0 s1 σ = some res) (hw : gW E D A s σ H locs) (hl : lv_has ls 4 [(0, .ref l0), (1, .int l1), (2, .int l2)]) : W p l e R s m args below meth c H locs cells slots Q (F0 m 14 ls [.int s0, .ref s1]) := by
  have hC0 := hC
  obtain ⟨hx, hb, hml, hown, hts, -⟩ := hC0
  unfold X13_look_14 at hf
  refine lv_iconst (v := 1) hx hb dX13_look_14 (by decide) ?_
  obtain ⟨_, h3, hf⟩ := ob_some hf
  obtain ⟨x1, h2, hf⟩ := ob_some hf
  refine gg_cVV (As := [.int s0, .int (1 : Int32)]) hC hw (X13_check_M l E D A h2) h3 rfl g_ml_X13_344 hd_X13_check (Nat.le_of_ble_eq_true rfl) (Nat.le_of_ble_eq_true rfl) hl.1 rfl (Nat.le_of_ble_eq_true rfl) dX13_look_15 (fun H locs cells slots hw => ?_)
  refine lv_aload_n hx hb dX13_look_18 rfl (lv_at hl 0 rfl) ?_
  obtain ⟨_, h6, hf⟩ := ob_some hf
  obtain ⟨x4, h5, hf⟩ := ob_some hf
  refine gg_cVI (As := []) hC hw (X13_value__M l E D A h5) h6 rfl g_ml_X13_352 hd_X13_value_ (Nat.le_of_ble_eq_true rfl) (Nat.le_of_ble_eq_true rfl) hl.1 rfl (Nat.le_of_ble_eq_true rfl) dX13_look_19 (fun H locs cells slots hw => ?_)
  refine lv_istore_n (lv' := [(3, .int x4), (0, .ref l0), (1, .int l1), (2, .int l2)]) hx hb dX13_look_22 rfl hl (by decide) rfl (fun ls hl => ?_)
  refine lv_aload_n hx hb dX13_look_23 rfl (lv_at hl 1 rfl) ?_
  refine lv_iload_n hx hb dX13_look_24 rfl (lv_at hl 0 rfl) ?_
  refine lv_iload_n hx hb dX13_look_25 rfl (lv_at hl 2 rfl) ?_
  refine lv_iload_n hx hb dX13_look_26 rfl (lv_at hl 3 rfl) ?_
  obtain ⟨x7, h8, hf⟩ := ob_some hf
  refine gg_cSI (As := [.int x4, .int l1, .int l2]) hC hw (X13_inRange_M l E D A h8) g_ml_X13_92 hd_X13_inRange.2 (Nat.le_of_ble_eq_true rfl) (Nat.le_of_ble_eq_true rfl) hl.1 rfl (Nat.le_of_ble_eq_true rfl) dX13_look_27 (fun H locs cells slots hw => ?_)
  refine lv_iconst (v := 2) hx hb dX13_look_30 (by decide) ?_
  obtain ⟨_, h11, hf⟩ := ob_some hf
  obtain ⟨x9, h10, hf⟩ := ob_some hf
  refine gg_cVV (As := [.int x7, .int (2 : Int32)]) hC hw (X13_check_M l E D A h10) h11 rfl g_ml_X13_344 hd_X13_check (Nat.le_of_ble_eq_true rfl) (Nat.le_of_ble_eq_true rfl) hl.1 rfl (Nat.le_of_ble_eq_true rfl) dX13_look_31 (fun H locs cells slots hw => ?_)
  refine lv_aload_n hx hb dX13_look_34 rfl (lv_at hl 1 rfl) ?_
  obtain ⟨x12, h13, hf⟩ := ob_some hf
  refine rI_fl_X13_318 hC hw h13 dX13_look_35 ?_
  refine lv_if_ne (tgt := 45) hx hb dX13_look_38 (by decide) (fun c14 => ?_) (fun c14 => ?_)
  · replace hf := (if_neg c14).symm.trans hf
    refine lv_iload_n hx hb dX13_look_45 rfl (lv_at hl 2 rfl) ?_
    cases hf
    exact hQ _ _ _ _ _ _ dX13_look_46 rfl hw
  · replace hf := (if_pos c14).symm.trans hf
    refine lv_iload_n hx hb dX13_look_41 rfl (lv_at hl 0 rfl) ?_
    refine lv_goto (tgt := 46) hx hb dX13_look_42 (by decide) ?_
    cases hf
    exact hQ _ _ _ _ _ _ dX13_look_46 rfl hw

def X13_look (E : gE) (l0 : Nat) (l1 : Int32) (l2 : Int32) (σ : gS) : Option (Int32 × gS) :=
  ob (gfI σ l0 11 21) fun x15 =>
  if x15 = (2 : Int32) then
    X13_look_14 E l0 l1 l2 (1 : Int32) l0 σ
  else
    X13_look_14 E l0 l1 l2 (0 : Int32) l0 σ
set_option maxHeartbeats 4000000 in
set_option maxRecDepth 100000 in
theorem X13_look_W {σ : gS} {l0 : Nat} {l1 : Int32} {l2 : Int32} {res : (Int32 × gS)} {ls : Array Slot} (hC : gC E D A p R s m args meth c cX13_look 4 RX13 "look" 1 22) (hQ : gQI E D A p l e R s m args below meth c Q cX13_look FieldType.int res) (hf : X13_look E l0 l1 l2 σ = some res) (hw : gW E D A s σ H locs) (hl : lv_has ls 4 [(0, .ref l0), (1, .int l1), (2, .int l2)]) : W p l e R s m args below meth c H locs cells slots Q (F0 m 0 ls []) := by
  have hC0 := hC
  obtain ⟨hx, hb, hml, hown, hts, -⟩ := hC0
  unfold X13_look at hf
  refine lv_aload_n hx hb dX13_look_0 rfl (lv_at hl 0 rfl) ?_
  refine lv_aload_n hx hb dX13_look_1 rfl (lv_at hl 0 rfl) ?_
  obtain ⟨x15, h16, hf⟩ := ob_some hf
  refine rI_fl_X13_309 hC hw h16 dX13_look_2 ?_
  refine lv_iconst (v := 2) hx hb dX13_look_5 (by decide) ?_
  refine lv_icmp_ne (tgt := 13) hx hb dX13_look_6 (by decide) (fun c17 => ?_) (fun c17 => ?_)
  · replace hf := (if_neg c17).symm.trans hf
    refine lv_iconst (v := 0) hx hb dX13_look_13 (by decide) ?_
    exact X13_look_14_W hC hQ hf hw (lv_sub hl [0, 1, 2] rfl)
  · replace hf := (if_pos c17).symm.trans hf
    refine lv_iconst (v := 1) hx hb dX13_look_9 (by decide) ?_
    refine lv_goto (tgt := 14) hx hb dX13_look_10 (by decide) ?_
    exact X13_look_14_W hC hQ hf hw (lv_sub hl [0, 1, 2] rfl)

def X13_look_f (E : gE) (l0 : Nat) (l1 : Int32) (l2 : Int32) (σ : gS) : Option (Int32 × gS) := X13_look E l0 l1 l2 σ
set_option maxRecDepth 100000 in
theorem X13_look_M (l : Launch) (E : gE) (D : va_G) (A : Nat → Prop) {l0 : Nat} {l1 : Int32} {l2 : Int32} {σ : gS} {res : (Int32 × gS)} (hf : X13_look_f E l0 l1 l2 σ = some res) : gCI l E D A yX13_look cX13_look 4 1 22 (some FieldType.int) [.ref l0, .int l1, .int l2] σ res := by
  refine gg_entI (own := RX13) (nm := "look") (ty := FieldType.int) (by decide +kernel) rfl rfl (Nat.le_of_ble_eq_true rfl) rfl ?_
  intro p e R s m args below meth c Q ls hC hw hQ hl
  have hl : lv_has ls 4 [(0, .ref l0), (1, .int l1), (2, .int l2)] := hl
  exact X13_look_W hC hQ hf hw hl

def X13_readNumber (E : gE) (l0 : Nat) (l1 : Int32) (l2 : Int32) (σ : gS) : Option (Int32 × gS) :=
  ob (gcl σ l0 11) fun _ =>
  ob (X13_look_f E l0 l1 l2 σ) fun x1 =>
  ob (gcl x1.2 l0 11) fun _ =>
  ob (X13_advance_f E l0 x1.2) fun x4 =>
  some (x1.1, x4)
set_option maxHeartbeats 4000000 in
set_option maxRecDepth 100000 in
theorem X13_readNumber_W {σ : gS} {l0 : Nat} {l1 : Int32} {l2 : Int32} {res : (Int32 × gS)} {ls : Array Slot} (hC : gC E D A p R s m args meth c cX13_readNumber 4 RX13 "readNumber" 4 82) (hQ : gQI E D A p l e R s m args below meth c Q cX13_readNumber FieldType.int res) (hf : X13_readNumber E l0 l1 l2 σ = some res) (hw : gW E D A s σ H locs) (hl : lv_has ls 4 [(0, .ref l0), (1, .int l1), (2, .int l2)]) : W p l e R s m args below meth c H locs cells slots Q (F0 m 0 ls []) := by
  have hC0 := hC
  obtain ⟨hx, hb, hml, hown, hts, -⟩ := hC0
  unfold X13_readNumber at hf
  refine lv_aload_n hx hb dX13_readNumber_0 rfl (lv_at hl 0 rfl) ?_
  refine lv_iload_n hx hb dX13_readNumber_1 rfl (lv_at hl 1 rfl) ?_
  refine lv_iload_n hx hb dX13_readNumber_2 rfl (lv_at hl 2 rfl) ?_
  obtain ⟨_, h3, hf⟩ := ob_some hf
  obtain ⟨x1, h2, hf⟩ := ob_some hf
  refine gg_cVI (As := [.int l1, .int l2]) hC hw (X13_look_M l E D A h2) h3 rfl g_ml_X13_355 hd_X13_look (Nat.le_of_ble_eq_true rfl) (Nat.le_of_ble_eq_true rfl) hl.1 rfl (Nat.le_of_ble_eq_true rfl) dX13_readNumber_3 (fun H locs cells slots hw => ?_)
  refine lv_istore_n (lv' := [(3, .int x1.1), (0, .ref l0), (1, .int l1), (2, .int l2)]) hx hb dX13_readNumber_6 rfl hl (by decide) rfl (fun ls hl => ?_)
  refine lv_aload_n hx hb dX13_readNumber_7 rfl (lv_at hl 1 rfl) ?_
  obtain ⟨_, h6, hf⟩ := ob_some hf
  obtain ⟨x4, h5, hf⟩ := ob_some hf
  refine gg_cVV (As := []) hC hw (X13_advance_M l E D A h5) h6 rfl g_ml_X13_348 hd_X13_advance (Nat.le_of_ble_eq_true rfl) (Nat.le_of_ble_eq_true rfl) hl.1 rfl (Nat.le_of_ble_eq_true rfl) dX13_readNumber_8 (fun H locs cells slots hw => ?_)
  refine lv_iload_n hx hb dX13_readNumber_11 rfl (lv_at hl 0 rfl) ?_
  cases hf
  exact hQ _ _ _ _ _ _ dX13_readNumber_12 rfl hw

def X13_readNumber_f (E : gE) (l0 : Nat) (l1 : Int32) (l2 : Int32) (σ : gS) : Option (Int32 × gS) := X13_readNumber E l0 l1 l2 σ
set_option maxRecDepth 100000 in
theorem X13_readNumber_M (l : Launch) (E : gE) (D : va_G) (A : Nat → Prop) {l0 : Nat} {l1 : Int32} {l2 : Int32} {σ : gS} {res : (Int32 × gS)} (hf : X13_readNumber_f E l0 l1 l2 σ = some res) : gCI l E D A yX13_readNumber cX13_readNumber 4 4 82 (some FieldType.int) [.ref l0, .int l1, .int l2] σ res := by
  refine gg_entI (own := RX13) (nm := "readNumber") (ty := FieldType.int) (by decide +kernel) rfl rfl (Nat.le_of_ble_eq_true rfl) rfl ?_
  intro p e R s m args below meth c Q ls hC hw hQ hl
  have hl : lv_has ls 4 [(0, .ref l0), (1, .int l1), (2, .int l2)] := hl
  exact X13_readNumber_W hC hQ hf hw hl

def X13_errorCode (E : gE) (l0 : Nat) (σ : gS) : Option (Int32 × gS) :=
  ob (gpf E σ l0 11 10 (.int (0 : Int32))) fun σ1 =>
  ob (gfI σ1 l0 11 11) fun x3 =>
  some (x3, σ1)
set_option maxHeartbeats 4000000 in
set_option maxRecDepth 100000 in
theorem X13_errorCode_W {σ : gS} {l0 : Nat} {res : (Int32 × gS)} {ls : Array Slot} (hC : gC E D A p R s m args meth c cX13_errorCode 1 RX13 "errorCode" 0 0) (hQ : gQI E D A p l e R s m args below meth c Q cX13_errorCode FieldType.int res) (hf : X13_errorCode E l0 σ = some res) (hw : gW E D A s σ H locs) (hl : lv_has ls 1 [(0, .ref l0)]) : W p l e R s m args below meth c H locs cells slots Q (F0 m 0 ls []) := by
  have hC0 := hC
  obtain ⟨hx, hb, hml, hown, hts, -⟩ := hC0
  unfold X13_errorCode at hf
  refine lv_aload_n hx hb dX13_errorCode_0 rfl (lv_at hl 0 rfl) ?_
  refine lv_iconst (v := 0) hx hb dX13_errorCode_1 (by decide) ?_
  obtain ⟨σ1, h2, hf⟩ := ob_some hf
  refine p_fl_X13_85 hC hw h2 rfl rfl dX13_errorCode_2 (fun H locs hw => ?_)
  refine lv_aload_n hx hb dX13_errorCode_5 rfl (lv_at hl 0 rfl) ?_
  obtain ⟨x3, h4, hf⟩ := ob_some hf
  refine rI_fl_X13_358 hC hw h4 dX13_errorCode_6 ?_
  cases hf
  exact hQ _ _ _ _ _ _ dX13_errorCode_9 rfl hw

def X13_errorCode_f (E : gE) (l0 : Nat) (σ : gS) : Option (Int32 × gS) := X13_errorCode E l0 σ
set_option maxRecDepth 100000 in
theorem X13_errorCode_M (l : Launch) (E : gE) (D : va_G) (A : Nat → Prop) {l0 : Nat} {σ : gS} {res : (Int32 × gS)} (hf : X13_errorCode_f E l0 σ = some res) : gCI l E D A yX13_errorCode cX13_errorCode 1 0 0 (some FieldType.int) [.ref l0] σ res := by
  refine gg_entI (own := RX13) (nm := "errorCode") (ty := FieldType.int) (by decide +kernel) rfl rfl (Nat.le_of_ble_eq_true rfl) rfl ?_
  intro p e R s m args below meth c Q ls hC hw hQ hl
  have hl : lv_has ls 1 [(0, .ref l0)] := hl
  exact X13_errorCode_W hC hQ hf hw hl

def X13_isFaulty (E : gE) (l0 : Nat) (σ : gS) : Option (Int32 × gS) :=
  ob (gcl σ l0 11) fun _ =>
  ob (X13_finish_f E l0 σ) fun x1 =>
  ob (gpf E x1.2 l0 11 11 (.int x1.1)) fun σ4 =>
  ob (gfI σ4 l0 11 11) fun x6 =>
  if x6 = 0 then
    some ((0 : Int32), σ4)
  else
    some ((1 : Int32), σ4)
set_option maxHeartbeats 4000000 in
set_option maxRecDepth 100000 in
theorem X13_isFaulty_W {σ : gS} {l0 : Nat} {res : (Int32 × gS)} {ls : Array Slot} (hC : gC E D A p R s m args meth c cX13_isFaulty 1 RX13 "isFaulty" 1 20) (hQ : gQI E D A p l e R s m args below meth c Q cX13_isFaulty FieldType.boolean res) (hf : X13_isFaulty E l0 σ = some res) (hw : gW E D A s σ H locs) (hl : lv_has ls 1 [(0, .ref l0)]) : W p l e R s m args below meth c H locs cells slots Q (F0 m 0 ls []) := by
  have hC0 := hC
  obtain ⟨hx, hb, hml, hown, hts, -⟩ := hC0
  unfold X13_isFaulty at hf
  refine lv_aload_n hx hb dX13_isFaulty_0 rfl (lv_at hl 0 rfl) ?_
  refine lv_aload_n hx hb dX13_isFaulty_1 rfl (lv_at hl 0 rfl) ?_
  obtain ⟨_, h3, hf⟩ := ob_some hf
  obtain ⟨x1, h2, hf⟩ := ob_some hf
  refine gg_cVI (As := []) hC hw (X13_finish_M l E D A h2) h3 rfl g_ml_X13_361 hd_X13_finish (Nat.le_of_ble_eq_true rfl) (Nat.le_of_ble_eq_true rfl) hl.1 rfl (Nat.le_of_ble_eq_true rfl) dX13_isFaulty_2 (fun H locs cells slots hw => ?_)
  obtain ⟨σ4, h5, hf⟩ := ob_some hf
  refine p_fl_X13_358 hC hw h5 rfl rfl dX13_isFaulty_5 (fun H locs hw => ?_)
  refine lv_aload_n hx hb dX13_isFaulty_8 rfl (lv_at hl 0 rfl) ?_
  obtain ⟨x6, h7, hf⟩ := ob_some hf
  refine rI_fl_X13_358 hC hw h7 dX13_isFaulty_9 ?_
  refine lv_if_eq (tgt := 19) hx hb dX13_isFaulty_12 (by decide) (fun c8 => ?_) (fun c8 => ?_)
  · replace hf := (if_pos c8).symm.trans hf
    refine lv_iconst (v := 0) hx hb dX13_isFaulty_19 (by decide) ?_
    cases hf
    exact hQ _ _ _ _ _ _ dX13_isFaulty_20 gz0 hw
  · replace hf := (if_neg c8).symm.trans hf
    refine lv_iconst (v := 1) hx hb dX13_isFaulty_15 (by decide) ?_
    refine lv_goto (tgt := 20) hx hb dX13_isFaulty_16 (by decide) ?_
    cases hf
    exact hQ _ _ _ _ _ _ dX13_isFaulty_20 gz1 hw

def X13_isFaulty_f (E : gE) (l0 : Nat) (σ : gS) : Option (Int32 × gS) := X13_isFaulty E l0 σ
set_option maxRecDepth 100000 in
theorem X13_isFaulty_M (l : Launch) (E : gE) (D : va_G) (A : Nat → Prop) {l0 : Nat} {σ : gS} {res : (Int32 × gS)} (hf : X13_isFaulty_f E l0 σ = some res) : gCI l E D A yX13_isFaulty cX13_isFaulty 1 1 20 (some FieldType.boolean) [.ref l0] σ res := by
  refine gg_entI (own := RX13) (nm := "isFaulty") (ty := FieldType.boolean) (by decide +kernel) rfl rfl (Nat.le_of_ble_eq_true rfl) rfl ?_
  intro p e R s m args below meth c Q ls hC hw hQ hl
  have hl : lv_has ls 1 [(0, .ref l0)] := hl
  exact X13_isFaulty_W hC hQ hf hw hl

def X13_isLength (E : gE) (σ : gS) (l0 : Nat) (l1 : Int32) : Option Int32 :=
  ob (gfI σ l0 11 17) fun x1 =>
  ob (X13_inRange_f E σ l1 (0 : Int32) x1) fun x3 =>
  ob (gz x3) fun _ =>
  some x3
set_option maxHeartbeats 4000000 in
set_option maxRecDepth 100000 in
theorem X13_isLength_W {σ : gS} {l0 : Nat} {l1 : Int32} {res : Int32} {ls : Array Slot} (hC : gC E D A p R s m args meth c cX13_isLength 2 RX13 "isLength" 1 22) (hQ : gQI E D A p l e R s m args below meth c Q cX13_isLength FieldType.boolean (res, σ)) (hf : X13_isLength E σ l0 l1 = some res) (hw : gW E D A s σ H locs) (hl : lv_has ls 2 [(0, .ref l0), (1, .int l1)]) : W p l e R s m args below meth c H locs cells slots Q (F0 m 0 ls []) := by
  have hC0 := hC
  obtain ⟨hx, hb, hml, hown, hts, -⟩ := hC0
  unfold X13_isLength at hf
  refine lv_iload_n hx hb dX13_isLength_0 rfl (lv_at hl 1 rfl) ?_
  refine lv_iconst (v := 0) hx hb dX13_isLength_1 (by decide) ?_
  refine lv_aload_n hx hb dX13_isLength_2 rfl (lv_at hl 0 rfl) ?_
  obtain ⟨x1, h2, hf⟩ := ob_some hf
  refine rI_fl_X13_294 hC hw h2 dX13_isLength_3 ?_
  obtain ⟨x3, h4, hf⟩ := ob_some hf
  refine gg_cSI (As := [.int l1, .int (0 : Int32), .int x1]) hC hw (X13_inRange_M l E D A h4) g_ml_X13_92 hd_X13_inRange.2 (Nat.le_of_ble_eq_true rfl) (Nat.le_of_ble_eq_true rfl) hl.1 rfl (Nat.le_of_ble_eq_true rfl) dX13_isLength_6 (fun H locs cells slots hw => ?_)
  obtain ⟨_, h5, hf⟩ := ob_some hf
  cases hf
  exact hQ _ _ _ _ _ _ dX13_isLength_9 (gz_some h5) hw

def X13_isLength_f (E : gE) (σ : gS) (l0 : Nat) (l1 : Int32) : Option Int32 := X13_isLength E σ l0 l1
set_option maxRecDepth 100000 in
theorem X13_isLength_M (l : Launch) (E : gE) (D : va_G) (A : Nat → Prop) {l0 : Nat} {l1 : Int32} {σ : gS} {res : Int32} (hf : X13_isLength_f E σ l0 l1 = some res) : gCI l E D A yX13_isLength cX13_isLength 2 1 22 (some FieldType.boolean) [.ref l0, .int l1] σ (res, σ) := by
  refine gg_entI (own := RX13) (nm := "isLength") (ty := FieldType.boolean) (by decide +kernel) rfl rfl (Nat.le_of_ble_eq_true rfl) rfl ?_
  intro p e R s m args below meth c Q ls hC hw hQ hl
  have hl : lv_has ls 2 [(0, .ref l0), (1, .int l1)] := hl
  exact X13_isLength_W hC hQ hf hw hl

def X13_isIntegerHere_24 (E : gE) (σ : gS) : Option Int32 :=
  some (1 : Int32)
set_option maxHeartbeats 4000000 in
set_option maxRecDepth 100000 in
theorem X13_isIntegerHere_24_W {σ : gS} {res : Int32} {ls : Array Slot} (hC : gC E D A p R s m args meth c cX13_isIntegerHere 1 RX13 "isIntegerHere" 1 21) (hQ : gQI E D A p l e R s m args below meth c Q cX13_isIntegerHere FieldType.boolean (res, σ)) (hf : X13_isIntegerHere_24 E σ = some res) (hw : gW E D A s σ H locs) (hl : lv_has ls 1 []) : W p l e R s m args below meth c H locs cells slots Q (F0 m 24 ls []) := by
  have hC0 := hC
  obtain ⟨hx, hb, hml, hown, hts, -⟩ := hC0
  unfold X13_isIntegerHere_24 at hf
  refine lv_iconst (v := 1) hx hb dX13_isIntegerHere_24 (by decide) ?_
  refine lv_goto (tgt := 29) hx hb dX13_isIntegerHere_25 (by decide) ?_
  cases hf
  exact hQ _ _ _ _ _ _ dX13_isIntegerHere_29 gz1 hw

def X13_isIntegerHere_28 (E : gE) (σ : gS) : Option Int32 :=
  some (0 : Int32)
set_option maxHeartbeats 4000000 in
set_option maxRecDepth 100000 in
theorem X13_isIntegerHere_28_W {σ : gS} {res : Int32} {ls : Array Slot} (hC : gC E D A p R s m args meth c cX13_isIntegerHere 1 RX13 "isIntegerHere" 1 21) (hQ : gQI E D A p l e R s m args below meth c Q cX13_isIntegerHere FieldType.boolean (res, σ)) (hf : X13_isIntegerHere_28 E σ = some res) (hw : gW E D A s σ H locs) (hl : lv_has ls 1 []) : W p l e R s m args below meth c H locs cells slots Q (F0 m 28 ls []) := by
  have hC0 := hC
  obtain ⟨hx, hb, hml, hown, hts, -⟩ := hC0
  unfold X13_isIntegerHere_28 at hf
  refine lv_iconst (v := 0) hx hb dX13_isIntegerHere_28 (by decide) ?_
  cases hf
  exact hQ _ _ _ _ _ _ dX13_isIntegerHere_29 gz0 hw

def X13_isIntegerHere (E : gE) (σ : gS) (l0 : Nat) : Option Int32 :=
  ob (gfI σ l0 11 22) fun x1 =>
  if x1 = 0 then
    ob (gfI σ l0 11 21) fun x3 =>
    if x3 = (2 : Int32) then
      X13_isIntegerHere_24 E σ
    else
      ob (gcl σ l0 11) fun _ =>
      ob (X13_isSymbol_f E σ l0 (45 : Int32)) fun x5 =>
      if x5 = 0 then
        X13_isIntegerHere_28 E σ
      else
        X13_isIntegerHere_24 E σ
  else
    X13_isIntegerHere_28 E σ
set_option maxHeartbeats 4000000 in
set_option maxRecDepth 100000 in
theorem X13_isIntegerHere_W {σ : gS} {l0 : Nat} {res : Int32} {ls : Array Slot} (hC : gC E D A p R s m args meth c cX13_isIntegerHere 1 RX13 "isIntegerHere" 1 21) (hQ : gQI E D A p l e R s m args below meth c Q cX13_isIntegerHere FieldType.boolean (res, σ)) (hf : X13_isIntegerHere E σ l0 = some res) (hw : gW E D A s σ H locs) (hl : lv_has ls 1 [(0, .ref l0)]) : W p l e R s m args below meth c H locs cells slots Q (F0 m 0 ls []) := by
  have hC0 := hC
  obtain ⟨hx, hb, hml, hown, hts, -⟩ := hC0
  unfold X13_isIntegerHere at hf
  refine lv_aload_n hx hb dX13_isIntegerHere_0 rfl (lv_at hl 0 rfl) ?_
  obtain ⟨x1, h2, hf⟩ := ob_some hf
  refine rI_fl_X13_318 hC hw h2 dX13_isIntegerHere_1 ?_
  refine lv_if_ne (tgt := 28) hx hb dX13_isIntegerHere_4 (by decide) (fun c10 => ?_) (fun c10 => ?_)
  · replace hf := (if_neg c10).symm.trans hf
    exact X13_isIntegerHere_28_W hC hQ hf hw (lv_sub hl [] rfl)
  · replace hf := (if_pos c10).symm.trans hf
    refine lv_aload_n hx hb dX13_isIntegerHere_7 rfl (lv_at hl 0 rfl) ?_
    obtain ⟨x3, h4, hf⟩ := ob_some hf
    refine rI_fl_X13_309 hC hw h4 dX13_isIntegerHere_8 ?_
    refine lv_iconst (v := 2) hx hb dX13_isIntegerHere_11 (by decide) ?_
    refine lv_icmp_eq (tgt := 24) hx hb dX13_isIntegerHere_12 (by decide) (fun c9 => ?_) (fun c9 => ?_)
    · replace hf := (if_pos c9).symm.trans hf
      exact X13_isIntegerHere_24_W hC hQ hf hw (lv_sub hl [] rfl)
    · replace hf := (if_neg c9).symm.trans hf
      refine lv_aload_n hx hb dX13_isIntegerHere_15 rfl (lv_at hl 0 rfl) ?_
      refine lv_bipush (v := 45) hx hb dX13_isIntegerHere_16 (by decide) ?_
      obtain ⟨_, h7, hf⟩ := ob_some hf
      obtain ⟨x5, h6, hf⟩ := ob_some hf
      refine gg_cVI (As := [.int (45 : Int32)]) hC hw (X13_isSymbol_M l E D A h6) h7 rfl g_ml_X13_341 hd_X13_isSymbol (Nat.le_of_ble_eq_true rfl) (Nat.le_of_ble_eq_true rfl) hl.1 rfl (Nat.le_of_ble_eq_true rfl) dX13_isIntegerHere_18 (fun H locs cells slots hw => ?_)
      refine lv_if_eq (tgt := 28) hx hb dX13_isIntegerHere_21 (by decide) (fun c8 => ?_) (fun c8 => ?_)
      · replace hf := (if_pos c8).symm.trans hf
        exact X13_isIntegerHere_28_W hC hQ hf hw (lv_sub hl [] rfl)
      · replace hf := (if_neg c8).symm.trans hf
        exact X13_isIntegerHere_24_W hC hQ hf hw (lv_sub hl [] rfl)

def X13_isIntegerHere_f (E : gE) (σ : gS) (l0 : Nat) : Option Int32 := X13_isIntegerHere E σ l0
set_option maxRecDepth 100000 in
theorem X13_isIntegerHere_M (l : Launch) (E : gE) (D : va_G) (A : Nat → Prop) {l0 : Nat} {σ : gS} {res : Int32} (hf : X13_isIntegerHere_f E σ l0 = some res) : gCI l E D A yX13_isIntegerHere cX13_isIntegerHere 1 1 21 (some FieldType.boolean) [.ref l0] σ (res, σ) := by
  refine gg_entI (own := RX13) (nm := "isIntegerHere") (ty := FieldType.boolean) (by decide +kernel) rfl rfl (Nat.le_of_ble_eq_true rfl) rfl ?_
  intro p e R s m args below meth c Q ls hC hw hQ hl
  have hl : lv_has ls 1 [(0, .ref l0)] := hl
  exact X13_isIntegerHere_W hC hQ hf hw hl

def X13_readInteger_15 (E : gE) (l0 : Nat) (l1 : Int32) (σ : gS) : Option (Int32 × gS) :=
  ob (gcl σ l0 11) fun _ =>
  ob (X13_readNumber_f E l0 (0 : Int32) (9999 : Int32) σ) fun x1 =>
  if l1 = 0 then
    some (x1.1, x1.2)
  else
    some ((-x1.1), x1.2)
set_option maxHeartbeats 4000000 in
set_option maxRecDepth 100000 in
theorem X13_readInteger_15_W {σ : gS} {l0 : Nat} {l1 : Int32} {res : (Int32 × gS)} {ls : Array Slot} (hC : gC E D A p R s m args meth c cX13_readInteger 3 RX13 "readInteger" 5 105) (hQ : gQI E D A p l e R s m args below meth c Q cX13_readInteger FieldType.int res) (hf : X13_readInteger_15 E l0 l1 σ = some res) (hw : gW E D A s σ H locs) (hl : lv_has ls 3 [(0, .ref l0), (1, .int l1)]) : W p l e R s m args below meth c H locs cells slots Q (F0 m 15 ls []) := by
  have hC0 := hC
  obtain ⟨hx, hb, hml, hown, hts, -⟩ := hC0
  unfold X13_readInteger_15 at hf
  refine lv_aload_n hx hb dX13_readInteger_15 rfl (lv_at hl 0 rfl) ?_
  refine lv_iconst (v := 0) hx hb dX13_readInteger_16 (by decide) ?_
  refine lv_sipush (v := 9999) hx hb dX13_readInteger_17 (by decide) ?_
  obtain ⟨_, h3, hf⟩ := ob_some hf
  obtain ⟨x1, h2, hf⟩ := ob_some hf
  refine gg_cVI (As := [.int (0 : Int32), .int (9999 : Int32)]) hC hw (X13_readNumber_M l E D A h2) h3 rfl g_ml_X13_364 hd_X13_readNumber (Nat.le_of_ble_eq_true rfl) (Nat.le_of_ble_eq_true rfl) hl.1 rfl (Nat.le_of_ble_eq_true rfl) dX13_readInteger_20 (fun H locs cells slots hw => ?_)
  refine lv_istore_n (lv' := [(2, .int x1.1), (0, .ref l0), (1, .int l1)]) hx hb dX13_readInteger_23 rfl hl (by decide) rfl (fun ls hl => ?_)
  refine lv_iload_n hx hb dX13_readInteger_24 rfl (lv_at hl 2 rfl) ?_
  refine lv_if_eq (tgt := 33) hx hb dX13_readInteger_25 (by decide) (fun c4 => ?_) (fun c4 => ?_)
  · replace hf := (if_pos c4).symm.trans hf
    refine lv_iload_n hx hb dX13_readInteger_33 rfl (lv_at hl 0 rfl) ?_
    cases hf
    exact hQ _ _ _ _ _ _ dX13_readInteger_34 rfl hw
  · replace hf := (if_neg c4).symm.trans hf
    refine lv_iload_n hx hb dX13_readInteger_28 rfl (lv_at hl 0 rfl) ?_
    refine lv_ineg hx hb dX13_readInteger_29 ?_
    refine lv_goto (tgt := 34) hx hb dX13_readInteger_30 (by decide) ?_
    cases hf
    exact hQ _ _ _ _ _ _ dX13_readInteger_34 rfl hw

def X13_readInteger (E : gE) (l0 : Nat) (σ : gS) : Option (Int32 × gS) :=
  ob (gcl σ l0 11) fun _ =>
  ob (X13_isSymbol_f E σ l0 (45 : Int32)) fun x5 =>
  if x5 = 0 then
    X13_readInteger_15 E l0 x5 σ
  else
    ob (gcl σ l0 11) fun _ =>
    ob (X13_advance_f E l0 σ) fun x8 =>
    X13_readInteger_15 E l0 x5 x8
set_option maxHeartbeats 4000000 in
set_option maxRecDepth 100000 in
theorem X13_readInteger_W {σ : gS} {l0 : Nat} {res : (Int32 × gS)} {ls : Array Slot} (hC : gC E D A p R s m args meth c cX13_readInteger 3 RX13 "readInteger" 5 105) (hQ : gQI E D A p l e R s m args below meth c Q cX13_readInteger FieldType.int res) (hf : X13_readInteger E l0 σ = some res) (hw : gW E D A s σ H locs) (hl : lv_has ls 3 [(0, .ref l0)]) : W p l e R s m args below meth c H locs cells slots Q (F0 m 0 ls []) := by
  have hC0 := hC
  obtain ⟨hx, hb, hml, hown, hts, -⟩ := hC0
  unfold X13_readInteger at hf
  refine lv_aload_n hx hb dX13_readInteger_0 rfl (lv_at hl 0 rfl) ?_
  refine lv_bipush (v := 45) hx hb dX13_readInteger_1 (by decide) ?_
  obtain ⟨_, h7, hf⟩ := ob_some hf
  obtain ⟨x5, h6, hf⟩ := ob_some hf
  refine gg_cVI (As := [.int (45 : Int32)]) hC hw (X13_isSymbol_M l E D A h6) h7 rfl g_ml_X13_341 hd_X13_isSymbol (Nat.le_of_ble_eq_true rfl) (Nat.le_of_ble_eq_true rfl) hl.1 rfl (Nat.le_of_ble_eq_true rfl) dX13_readInteger_3 (fun H locs cells slots hw => ?_)
  refine lv_istore_n (lv' := [(1, .int x5), (0, .ref l0)]) hx hb dX13_readInteger_6 rfl hl (by decide) rfl (fun ls hl => ?_)
  refine lv_iload_n hx hb dX13_readInteger_7 rfl (lv_at hl 0 rfl) ?_
  refine lv_if_eq (tgt := 15) hx hb dX13_readInteger_8 (by decide) (fun c11 => ?_) (fun c11 => ?_)
  · replace hf := (if_pos c11).symm.trans hf
    exact X13_readInteger_15_W hC hQ hf hw (lv_sub hl [1, 0] rfl)
  · replace hf := (if_neg c11).symm.trans hf
    refine lv_aload_n hx hb dX13_readInteger_11 rfl (lv_at hl 1 rfl) ?_
    obtain ⟨_, h10, hf⟩ := ob_some hf
    obtain ⟨x8, h9, hf⟩ := ob_some hf
    refine gg_cVV (As := []) hC hw (X13_advance_M l E D A h9) h10 rfl g_ml_X13_348 hd_X13_advance (Nat.le_of_ble_eq_true rfl) (Nat.le_of_ble_eq_true rfl) hl.1 rfl (Nat.le_of_ble_eq_true rfl) dX13_readInteger_12 (fun H locs cells slots hw => ?_)
    exact X13_readInteger_15_W hC hQ hf hw (lv_sub hl [1, 0] rfl)

def X13_readInteger_f (E : gE) (l0 : Nat) (σ : gS) : Option (Int32 × gS) := X13_readInteger E l0 σ
set_option maxRecDepth 100000 in
theorem X13_readInteger_M (l : Launch) (E : gE) (D : va_G) (A : Nat → Prop) {l0 : Nat} {σ : gS} {res : (Int32 × gS)} (hf : X13_readInteger_f E l0 σ = some res) : gCI l E D A yX13_readInteger cX13_readInteger 3 5 105 (some FieldType.int) [.ref l0] σ res := by
  refine gg_entI (own := RX13) (nm := "readInteger") (ty := FieldType.int) (by decide +kernel) rfl rfl (Nat.le_of_ble_eq_true rfl) rfl ?_
  intro p e R s m args below meth c Q ls hC hw hQ hl
  have hl : lv_has ls 3 [(0, .ref l0)] := hl
  exact X13_readInteger_W hC hQ hf hw hl

def X13_readRow_2_s (E : gE) (r_2 : Nat → Int32 → gS → Option gS) (l0 : Nat) (l1 : Int32) (σ : gS) : Option gS :=
  ob (gfR σ l0 11 8) fun x1 =>
  ob (graI E 0 σ x1 (0 : Int32)) fun x3 =>
  if x3 ≤ l1 then
    some σ
  else
    ob (gfR σ l0 11 6) fun x5 =>
    ob (gcl σ l0 11) fun _ =>
    ob (X13_readInteger_f E l0 σ) fun x7 =>
    ob (gwaI E x7.2 x5 l1 x7.1) fun σ10 =>
    r_2 l0 (l1 + 1) σ10
set_option maxHeartbeats 4000000 in
set_option maxRecDepth 100000 in
theorem X13_readRow_2_s_W {σ : gS} {l0 : Nat} {l1 : Int32} {σz : gS} {ls : Array Slot} (hC : gC E D A p R s m args meth c cX13_readRow 2 RX13 "readRow" 6 127) (hQ : gQV E D A p l e R s m args below meth c Q cX13_readRow σz) {r_2 : Nat → Int32 → gS → Option gS} (h_2 : ∀ {l0 : Nat} {l1 : Int32} {σ : gS} {H : Heap} {locs : List Loc} {cells slots : Nat} {ls : Array Slot}, r_2 l0 l1 σ = some σz → gW E D A s σ H locs → lv_has ls 2 [(0, .ref l0), (1, .int l1)] → W p l e R s m args below meth c H locs cells slots Q (F0 m 2 ls [])) (hf : X13_readRow_2_s E r_2 l0 l1 σ = some σz) (hw : gW E D A s σ H locs) (hl : lv_has ls 2 [(0, .ref l0), (1, .int l1)]) : W p l e R s m args below meth c H locs cells slots Q (F0 m 2 ls []) := by
  have hC0 := hC
  obtain ⟨hx, hb, hml, hown, hts, -⟩ := hC0
  unfold X13_readRow_2_s at hf
  refine lv_iload_n hx hb dX13_readRow_2 rfl (lv_at hl 1 rfl) ?_
  refine lv_aload_n hx hb dX13_readRow_3 rfl (lv_at hl 0 rfl) ?_
  obtain ⟨x1, h2, hf⟩ := ob_some hf
  refine rR_fl_X13_35 hC hw h2 dX13_readRow_4 ?_
  refine lv_iconst (v := 0) hx hb dX13_readRow_7 (by decide) ?_
  obtain ⟨x3, h4, hf⟩ := ob_some hf
  refine gg_aldI hC hw h4 dX13_readRow_8 ?_
  refine lv_icmp_ge (tgt := 28) hx hb dX13_readRow_9 (by decide) (fun c12 => ?_) (fun c12 => ?_)
  · replace hf := (if_pos c12).symm.trans hf
    cases hf
    exact hQ _ _ _ _ _ _ dX13_readRow_28 hw
  · replace hf := (if_neg c12).symm.trans hf
    refine lv_aload_n hx hb dX13_readRow_12 rfl (lv_at hl 0 rfl) ?_
    obtain ⟨x5, h6, hf⟩ := ob_some hf
    refine rR_fl_X13_29 hC hw h6 dX13_readRow_13 ?_
    refine lv_iload_n hx hb dX13_readRow_16 rfl (lv_at hl 1 rfl) ?_
    refine lv_aload_n hx hb dX13_readRow_17 rfl (lv_at hl 0 rfl) ?_
    obtain ⟨_, h9, hf⟩ := ob_some hf
    obtain ⟨x7, h8, hf⟩ := ob_some hf
    refine gg_cVI (As := []) hC hw (X13_readInteger_M l E D A h8) h9 rfl g_ml_X13_367 hd_X13_readInteger (Nat.le_of_ble_eq_true rfl) (Nat.le_of_ble_eq_true rfl) hl.1 rfl (Nat.le_of_ble_eq_true rfl) dX13_readRow_18 (fun H locs cells slots hw => ?_)
    obtain ⟨σ10, h11, hf⟩ := ob_some hf
    refine gg_astI hC hw h11 dX13_readRow_21 (fun H locs hw => ?_)
    refine lv_iinc (v := (l1 + 1)) (lv' := [(1, .int (l1 + 1)), (0, .ref l0)]) hx hb dX13_readRow_22 hl (k := 1) rfl rfl (by decide) rfl (fun ls hl => ?_)
    refine lv_goto (tgt := 2) hx hb dX13_readRow_25 (by decide) ?_
    exact h_2 hf hw (lv_sub hl [1, 0] rfl)
def X13_readRow_2 (E : gE) : Nat → Nat → Int32 → gS → Option gS
  | 0 => fun _ _ _ => none
  | n + 1 => X13_readRow_2_s E (X13_readRow_2 E n)
theorem X13_readRow_2_W {σz : gS} (hC : gC E D A p R s m args meth c cX13_readRow 2 RX13 "readRow" 6 127) (hQ : gQV E D A p l e R s m args below meth c Q cX13_readRow σz) : ∀ (n : Nat), ∀ {l0 : Nat} {l1 : Int32} {σ : gS} {H : Heap} {locs : List Loc} {cells slots : Nat} {ls : Array Slot}, X13_readRow_2 E n l0 l1 σ = some σz → gW E D A s σ H locs → lv_has ls 2 [(0, .ref l0), (1, .int l1)] → W p l e R s m args below meth c H locs cells slots Q (F0 m 2 ls []) := by
  intro n
  induction n with
  | zero =>
    intros
    rename_i hf _ _
    exact absurd hf (fun h => by cases (show (none : Option gS) = some σz from h))
  | succ n ih =>
    intros
    rename_i hf hw hl
    exact X13_readRow_2_s_W hC hQ ih hf hw hl

def X13_readRow (E : gE) (l0 : Nat) (σ : gS) : Option gS :=
  X13_readRow_2 E (gN E) l0 (0 : Int32) σ
set_option maxHeartbeats 4000000 in
set_option maxRecDepth 100000 in
theorem X13_readRow_W {σ : gS} {l0 : Nat} {σz : gS} {ls : Array Slot} (hC : gC E D A p R s m args meth c cX13_readRow 2 RX13 "readRow" 6 127) (hQ : gQV E D A p l e R s m args below meth c Q cX13_readRow σz) (hf : X13_readRow E l0 σ = some σz) (hw : gW E D A s σ H locs) (hl : lv_has ls 2 [(0, .ref l0)]) : W p l e R s m args below meth c H locs cells slots Q (F0 m 0 ls []) := by
  have hC0 := hC
  obtain ⟨hx, hb, hml, hown, hts, -⟩ := hC0
  unfold X13_readRow at hf
  refine lv_iconst (v := 0) hx hb dX13_readRow_0 (by decide) ?_
  refine lv_istore_n (lv' := [(1, .int (0 : Int32)), (0, .ref l0)]) hx hb dX13_readRow_1 rfl hl (by decide) rfl (fun ls hl => ?_)
  exact X13_readRow_2_W hC hQ (gN E) hf hw (lv_sub hl [1, 0] rfl)

def X13_readRow_f (E : gE) (l0 : Nat) (σ : gS) : Option gS := X13_readRow E l0 σ
set_option maxRecDepth 100000 in
theorem X13_readRow_M (l : Launch) (E : gE) (D : va_G) (A : Nat → Prop) {l0 : Nat} {σ : gS} {σz : gS} (hf : X13_readRow_f E l0 σ = some σz) : gCV l E D A yX13_readRow cX13_readRow 2 6 127 none [.ref l0] σ σz := by
  refine gg_entV (own := RX13) (nm := "readRow") (by decide +kernel) rfl rfl (Nat.le_of_ble_eq_true rfl) rfl ?_
  intro p e R s m args below meth c Q ls hC hw hQ hl
  have hl : lv_has ls 2 [(0, .ref l0)] := hl
  exact X13_readRow_W hC hQ hf hw hl

def X13_refuseRow_40 (E : gE) (l0 : Nat) (s0 : Int32) (s1 : Nat) (σ : gS) : Option gS :=
  ob (gcl σ s1 11) fun _ =>
  ob (X13_check_f E s1 s0 (2 : Int32) σ) fun x1 =>
  ob (gcl x1 l0 11) fun _ =>
  ob (X13_check_f E l0 (0 : Int32) (3 : Int32) x1) fun x4 =>
  some x4
set_option maxHeartbeats 4000000 in
set_option maxRecDepth 100000 in
theorem X13_refuseRow_40_W {σ : gS} {l0 : Nat} {s0 : Int32} {s1 : Nat} {σz : gS} {ls : Array Slot} (hC : gC E D A p R s m args meth c cX13_refuseRow 1 RX13 "refuseRow" 2 41) (hQ : gQV E D A p l e R s m args below meth c Q cX13_refuseRow σz) (hf : X13_refuseRow_40 E l0 s0 s1 σ = some σz) (hw : gW E D A s σ H locs) (hl : lv_has ls 1 [(0, .ref l0)]) : W p l e R s m args below meth c H locs cells slots Q (F0 m 40 ls [.int s0, .ref s1]) := by
  have hC0 := hC
  obtain ⟨hx, hb, hml, hown, hts, -⟩ := hC0
  unfold X13_refuseRow_40 at hf
  refine lv_iconst (v := 2) hx hb dX13_refuseRow_40 (by decide) ?_
  obtain ⟨_, h3, hf⟩ := ob_some hf
  obtain ⟨x1, h2, hf⟩ := ob_some hf
  refine gg_cVV (As := [.int s0, .int (2 : Int32)]) hC hw (X13_check_M l E D A h2) h3 rfl g_ml_X13_344 hd_X13_check (Nat.le_of_ble_eq_true rfl) (Nat.le_of_ble_eq_true rfl) hl.1 rfl (Nat.le_of_ble_eq_true rfl) dX13_refuseRow_41 (fun H locs cells slots hw => ?_)
  refine lv_aload_n hx hb dX13_refuseRow_44 rfl (lv_at hl 0 rfl) ?_
  refine lv_iconst (v := 0) hx hb dX13_refuseRow_45 (by decide) ?_
  refine lv_iconst (v := 3) hx hb dX13_refuseRow_46 (by decide) ?_
  obtain ⟨_, h6, hf⟩ := ob_some hf
  obtain ⟨x4, h5, hf⟩ := ob_some hf
  refine gg_cVV (As := [.int (0 : Int32), .int (3 : Int32)]) hC hw (X13_check_M l E D A h5) h6 rfl g_ml_X13_344 hd_X13_check (Nat.le_of_ble_eq_true rfl) (Nat.le_of_ble_eq_true rfl) hl.1 rfl (Nat.le_of_ble_eq_true rfl) dX13_refuseRow_47 (fun H locs cells slots hw => ?_)
  cases hf
  exact hQ _ _ _ _ _ _ dX13_refuseRow_50 hw

def X13_refuseRow_35 (E : gE) (l0 : Nat) (s0 : Nat) (σ : gS) : Option gS :=
  X13_refuseRow_40 E l0 (1 : Int32) s0 σ
set_option maxHeartbeats 4000000 in
set_option maxRecDepth 100000 in
theorem X13_refuseRow_35_W {σ : gS} {l0 : Nat} {s0 : Nat} {σz : gS} {ls : Array Slot} (hC : gC E D A p R s m args meth c cX13_refuseRow 1 RX13 "refuseRow" 2 41) (hQ : gQV E D A p l e R s m args below meth c Q cX13_refuseRow σz) (hf : X13_refuseRow_35 E l0 s0 σ = some σz) (hw : gW E D A s σ H locs) (hl : lv_has ls 1 [(0, .ref l0)]) : W p l e R s m args below meth c H locs cells slots Q (F0 m 35 ls [.ref s0]) := by
  have hC0 := hC
  obtain ⟨hx, hb, hml, hown, hts, -⟩ := hC0
  unfold X13_refuseRow_35 at hf
  refine lv_iconst (v := 1) hx hb dX13_refuseRow_35 (by decide) ?_
  refine lv_goto (tgt := 40) hx hb dX13_refuseRow_36 (by decide) ?_
  exact X13_refuseRow_40_W hC hQ hf hw (lv_sub hl [0] rfl)

def X13_refuseRow (E : gE) (l0 : Nat) (σ : gS) : Option gS :=
  ob (gcl σ l0 11) fun _ =>
  ob (X13_isIntegerHere_f E σ l0) fun x7 =>
  ob (gcl σ l0 11) fun _ =>
  ob (X13_check_f E l0 x7 (1 : Int32) σ) fun x10 =>
  ob (gfI x10 l0 11 22) fun x13 =>
  if x13 = 0 then
    ob (gfI x10 l0 11 21) fun x15 =>
    if x15 = (2 : Int32) then
      ob (gcl x10 l0 11) fun _ =>
      ob (X13_value__f E x10 l0) fun x17 =>
      if (9999 : Int32) < x17 then
        X13_refuseRow_40 E l0 (0 : Int32) l0 x10
      else
        X13_refuseRow_35 E l0 l0 x10
    else
      X13_refuseRow_35 E l0 l0 x10
  else
    X13_refuseRow_35 E l0 l0 x10
set_option maxHeartbeats 4000000 in
set_option maxRecDepth 100000 in
theorem X13_refuseRow_W {σ : gS} {l0 : Nat} {σz : gS} {ls : Array Slot} (hC : gC E D A p R s m args meth c cX13_refuseRow 1 RX13 "refuseRow" 2 41) (hQ : gQV E D A p l e R s m args below meth c Q cX13_refuseRow σz) (hf : X13_refuseRow E l0 σ = some σz) (hw : gW E D A s σ H locs) (hl : lv_has ls 1 [(0, .ref l0)]) : W p l e R s m args below meth c H locs cells slots Q (F0 m 0 ls []) := by
  have hC0 := hC
  obtain ⟨hx, hb, hml, hown, hts, -⟩ := hC0
  unfold X13_refuseRow at hf
  refine lv_aload_n hx hb dX13_refuseRow_0 rfl (lv_at hl 0 rfl) ?_
  refine lv_aload_n hx hb dX13_refuseRow_1 rfl (lv_at hl 0 rfl) ?_
  obtain ⟨_, h9, hf⟩ := ob_some hf
  obtain ⟨x7, h8, hf⟩ := ob_some hf
  refine gg_cVI (As := []) hC hw (X13_isIntegerHere_M l E D A h8) h9 rfl g_ml_X13_370 hd_X13_isIntegerHere (Nat.le_of_ble_eq_true rfl) (Nat.le_of_ble_eq_true rfl) hl.1 rfl (Nat.le_of_ble_eq_true rfl) dX13_refuseRow_2 (fun H locs cells slots hw => ?_)
  refine lv_iconst (v := 1) hx hb dX13_refuseRow_5 (by decide) ?_
  obtain ⟨_, h12, hf⟩ := ob_some hf
  obtain ⟨x10, h11, hf⟩ := ob_some hf
  refine gg_cVV (As := [.int x7, .int (1 : Int32)]) hC hw (X13_check_M l E D A h11) h12 rfl g_ml_X13_344 hd_X13_check (Nat.le_of_ble_eq_true rfl) (Nat.le_of_ble_eq_true rfl) hl.1 rfl (Nat.le_of_ble_eq_true rfl) dX13_refuseRow_6 (fun H locs cells slots hw => ?_)
  refine lv_aload_n hx hb dX13_refuseRow_9 rfl (lv_at hl 0 rfl) ?_
  refine lv_aload_n hx hb dX13_refuseRow_10 rfl (lv_at hl 0 rfl) ?_
  obtain ⟨x13, h14, hf⟩ := ob_some hf
  refine rI_fl_X13_318 hC hw h14 dX13_refuseRow_11 ?_
  refine lv_if_ne (tgt := 35) hx hb dX13_refuseRow_14 (by decide) (fun c22 => ?_) (fun c22 => ?_)
  · replace hf := (if_neg c22).symm.trans hf
    exact X13_refuseRow_35_W hC hQ hf hw (lv_sub hl [0] rfl)
  · replace hf := (if_pos c22).symm.trans hf
    refine lv_aload_n hx hb dX13_refuseRow_17 rfl (lv_at hl 0 rfl) ?_
    obtain ⟨x15, h16, hf⟩ := ob_some hf
    refine rI_fl_X13_309 hC hw h16 dX13_refuseRow_18 ?_
    refine lv_iconst (v := 2) hx hb dX13_refuseRow_21 (by decide) ?_
    refine lv_icmp_ne (tgt := 35) hx hb dX13_refuseRow_22 (by decide) (fun c21 => ?_) (fun c21 => ?_)
    · replace hf := (if_neg c21).symm.trans hf
      exact X13_refuseRow_35_W hC hQ hf hw (lv_sub hl [0] rfl)
    · replace hf := (if_pos c21).symm.trans hf
      refine lv_aload_n hx hb dX13_refuseRow_25 rfl (lv_at hl 0 rfl) ?_
      obtain ⟨_, h19, hf⟩ := ob_some hf
      obtain ⟨x17, h18, hf⟩ := ob_some hf
      refine gg_cVI (As := []) hC hw (X13_value__M l E D A h18) h19 rfl g_ml_X13_352 hd_X13_value_ (Nat.le_of_ble_eq_true rfl) (Nat.le_of_ble_eq_true rfl) hl.1 rfl (Nat.le_of_ble_eq_true rfl) dX13_refuseRow_26 (fun H locs cells slots hw => ?_)
      refine lv_sipush (v := 9999) hx hb dX13_refuseRow_29 (by decide) ?_
      refine lv_icmp_gt (tgt := 39) hx hb dX13_refuseRow_32 (by decide) (fun c20 => ?_) (fun c20 => ?_)
      · replace hf := (if_pos c20).symm.trans hf
        refine lv_iconst (v := 0) hx hb dX13_refuseRow_39 (by decide) ?_
        exact X13_refuseRow_40_W hC hQ hf hw (lv_sub hl [0] rfl)
      · replace hf := (if_neg c20).symm.trans hf
        exact X13_refuseRow_35_W hC hQ hf hw (lv_sub hl [0] rfl)

def X13_refuseRow_f (E : gE) (l0 : Nat) (σ : gS) : Option gS := X13_refuseRow E l0 σ
set_option maxRecDepth 100000 in
theorem X13_refuseRow_M (l : Launch) (E : gE) (D : va_G) (A : Nat → Prop) {l0 : Nat} {σ : gS} {σz : gS} (hf : X13_refuseRow_f E l0 σ = some σz) : gCV l E D A yX13_refuseRow cX13_refuseRow 1 2 41 none [.ref l0] σ σz := by
  refine gg_entV (own := RX13) (nm := "refuseRow") (by decide +kernel) rfl rfl (Nat.le_of_ble_eq_true rfl) rfl ?_
  intro p e R s m args below meth c Q ls hC hw hQ hl
  have hl : lv_has ls 1 [(0, .ref l0)] := hl
  exact X13_refuseRow_W hC hQ hf hw hl

def X13_addRow_59 (E : gE) (l0 : Nat) (s0 : Int32) (s1 : Nat) (σ : gS) : Option (Int32 × gS) :=
  ob (gcl σ s1 11) fun _ =>
  ob (X13_check_f E s1 s0 (1 : Int32) σ) fun x1 =>
  ob (gcl x1 l0 11) fun _ =>
  ob (X13_isFaulty_f E l0 x1) fun x4 =>
  if x4.1 = 0 then
    ob (gcl x4.2 l0 11) fun _ =>
    ob (X13_keep_f E l0 x4.2) fun x7 =>
    ob (gcl x7 l0 11) fun _ =>
    ob (X13_doRow_f E l0 x7) fun x10 =>
    ob (gcl x10.2 l0 11) fun _ =>
    ob (X13_ends_f E l0 x10.1 x10.2) fun x13 =>
    some (x13.1, x13.2)
  else
    some ((-1 : Int32), x4.2)
set_option maxHeartbeats 4000000 in
set_option maxRecDepth 100000 in
theorem X13_addRow_59_W {σ : gS} {l0 : Nat} {s0 : Int32} {s1 : Nat} {res : (Int32 × gS)} {ls : Array Slot} (hC : gC E D A p R s m args meth c cX13_addRow 2 RX13 "addRow" 7 148) (hQ : gQI E D A p l e R s m args below meth c Q cX13_addRow FieldType.int res) (hf : X13_addRow_59 E l0 s0 s1 σ = some res) (hw : gW E D A s σ H locs) (hl : lv_has ls 2 [(0, .ref l0)]) : W p l e R s m args below meth c H locs cells slots Q (F0 m 59 ls [.int s0, .ref s1]) := by
  have hC0 := hC
  obtain ⟨hx, hb, hml, hown, hts, -⟩ := hC0
  unfold X13_addRow_59 at hf
  refine lv_iconst (v := 1) hx hb dX13_addRow_59 (by decide) ?_
  obtain ⟨_, h3, hf⟩ := ob_some hf
  obtain ⟨x1, h2, hf⟩ := ob_some hf
  refine gg_cVV (As := [.int s0, .int (1 : Int32)]) hC hw (X13_check_M l E D A h2) h3 rfl g_ml_X13_344 hd_X13_check (Nat.le_of_ble_eq_true rfl) (Nat.le_of_ble_eq_true rfl) hl.1 rfl (Nat.le_of_ble_eq_true rfl) dX13_addRow_60 (fun H locs cells slots hw => ?_)
  refine lv_aload_n hx hb dX13_addRow_63 rfl (lv_at hl 0 rfl) ?_
  obtain ⟨_, h6, hf⟩ := ob_some hf
  obtain ⟨x4, h5, hf⟩ := ob_some hf
  refine gg_cVI (As := []) hC hw (X13_isFaulty_M l E D A h5) h6 rfl g_ml_X13_394 hd_X13_isFaulty (Nat.le_of_ble_eq_true rfl) (Nat.le_of_ble_eq_true rfl) hl.1 rfl (Nat.le_of_ble_eq_true rfl) dX13_addRow_64 (fun H locs cells slots hw => ?_)
  refine lv_if_eq (tgt := 72) hx hb dX13_addRow_67 (by decide) (fun c16 => ?_) (fun c16 => ?_)
  · replace hf := (if_pos c16).symm.trans hf
    refine lv_aload_n hx hb dX13_addRow_72 rfl (lv_at hl 0 rfl) ?_
    obtain ⟨_, h9, hf⟩ := ob_some hf
    obtain ⟨x7, h8, hf⟩ := ob_some hf
    refine gg_cVV (As := []) hC hw (X13_keep_M l E D A h8) h9 rfl g_ml_X13_253 hd_X13_keep (Nat.le_of_ble_eq_true rfl) (Nat.le_of_ble_eq_true rfl) hl.1 rfl (Nat.le_of_ble_eq_true rfl) dX13_addRow_73 (fun H locs cells slots hw => ?_)
    refine lv_aload_n hx hb dX13_addRow_76 rfl (lv_at hl 0 rfl) ?_
    refine lv_aload_n hx hb dX13_addRow_77 rfl (lv_at hl 0 rfl) ?_
    obtain ⟨_, h12, hf⟩ := ob_some hf
    obtain ⟨x10, h11, hf⟩ := ob_some hf
    refine gg_cVI (As := []) hC hw (X13_doRow_M l E D A h11) h12 rfl g_ml_X13_397 hd_X13_doRow (Nat.le_of_ble_eq_true rfl) (Nat.le_of_ble_eq_true rfl) hl.1 rfl (Nat.le_of_ble_eq_true rfl) dX13_addRow_78 (fun H locs cells slots hw => ?_)
    obtain ⟨_, h15, hf⟩ := ob_some hf
    obtain ⟨x13, h14, hf⟩ := ob_some hf
    refine gg_cVI (As := [.int x10.1]) hC hw (X13_ends_M l E D A h14) h15 rfl g_ml_X13_256 hd_X13_ends (Nat.le_of_ble_eq_true rfl) (Nat.le_of_ble_eq_true rfl) hl.1 rfl (Nat.le_of_ble_eq_true rfl) dX13_addRow_81 (fun H locs cells slots hw => ?_)
    cases hf
    exact hQ _ _ _ _ _ _ dX13_addRow_84 rfl hw
  · replace hf := (if_neg c16).symm.trans hf
    refine lv_iconst (v := -1) hx hb dX13_addRow_70 (by decide) ?_
    cases hf
    exact hQ _ _ _ _ _ _ dX13_addRow_71 rfl hw

def X13_addRow_54 (E : gE) (l0 : Nat) (s0 : Nat) (σ : gS) : Option (Int32 × gS) :=
  X13_addRow_59 E l0 (1 : Int32) s0 σ
set_option maxHeartbeats 4000000 in
set_option maxRecDepth 100000 in
theorem X13_addRow_54_W {σ : gS} {l0 : Nat} {s0 : Nat} {res : (Int32 × gS)} {ls : Array Slot} (hC : gC E D A p R s m args meth c cX13_addRow 2 RX13 "addRow" 7 148) (hQ : gQI E D A p l e R s m args below meth c Q cX13_addRow FieldType.int res) (hf : X13_addRow_54 E l0 s0 σ = some res) (hw : gW E D A s σ H locs) (hl : lv_has ls 2 [(0, .ref l0)]) : W p l e R s m args below meth c H locs cells slots Q (F0 m 54 ls [.ref s0]) := by
  have hC0 := hC
  obtain ⟨hx, hb, hml, hown, hts, -⟩ := hC0
  unfold X13_addRow_54 at hf
  refine lv_iconst (v := 1) hx hb dX13_addRow_54 (by decide) ?_
  refine lv_goto (tgt := 59) hx hb dX13_addRow_55 (by decide) ?_
  exact X13_addRow_59_W hC hQ hf hw (lv_sub hl [0] rfl)

def X13_addRow_22 (E : gE) (l0 : Nat) (l1 : Int32) (s0 : Int32) (s1 : Int32) (s2 : Nat) (σ : gS) : Option (Int32 × gS) :=
  ob (gcl σ s2 11) fun _ =>
  ob (X13_lacksBoth_f E s2 s1 s0 σ) fun x17 =>
  if x17.1 = 0 then
    ob (gcl x17.2 l0 11) fun _ =>
    ob (X13_startText_f E l0 l1 x17.2) fun x20 =>
    ob (gcl x20 l0 11) fun _ =>
    ob (X13_readRow_f E l0 x20) fun x23 =>
    ob (gfI x23 l0 11 22) fun x26 =>
    if x26 = 0 then
      ob (gfI x23 l0 11 21) fun x28 =>
      if x28 = 0 then
        X13_addRow_54 E l0 l0 x23
      else
        X13_addRow_59 E l0 (0 : Int32) l0 x23
    else
      X13_addRow_54 E l0 l0 x23
  else
    some ((0 : Int32), x17.2)
set_option maxHeartbeats 4000000 in
set_option maxRecDepth 100000 in
theorem X13_addRow_22_W {σ : gS} {l0 : Nat} {l1 : Int32} {s0 : Int32} {s1 : Int32} {s2 : Nat} {res : (Int32 × gS)} {ls : Array Slot} (hC : gC E D A p R s m args meth c cX13_addRow 2 RX13 "addRow" 7 148) (hQ : gQI E D A p l e R s m args below meth c Q cX13_addRow FieldType.int res) (hf : X13_addRow_22 E l0 l1 s0 s1 s2 σ = some res) (hw : gW E D A s σ H locs) (hl : lv_has ls 2 [(0, .ref l0), (1, .int l1)]) : W p l e R s m args below meth c H locs cells slots Q (F0 m 22 ls [.int s0, .int s1, .ref s2]) := by
  have hC0 := hC
  obtain ⟨hx, hb, hml, hown, hts, -⟩ := hC0
  unfold X13_addRow_22 at hf
  obtain ⟨_, h19, hf⟩ := ob_some hf
  obtain ⟨x17, h18, hf⟩ := ob_some hf
  refine gg_cVI (As := [.int s1, .int s0]) hC hw (X13_lacksBoth_M l E D A h18) h19 rfl g_ml_X13_205 hd_X13_lacksBoth (Nat.le_of_ble_eq_true rfl) (Nat.le_of_ble_eq_true rfl) hl.1 rfl (Nat.le_of_ble_eq_true rfl) dX13_addRow_22 (fun H locs cells slots hw => ?_)
  refine lv_if_eq (tgt := 30) hx hb dX13_addRow_25 (by decide) (fun c32 => ?_) (fun c32 => ?_)
  · replace hf := (if_pos c32).symm.trans hf
    refine lv_aload_n hx hb dX13_addRow_30 rfl (lv_at hl 0 rfl) ?_
    refine lv_iload_n hx hb dX13_addRow_31 rfl (lv_at hl 1 rfl) ?_
    obtain ⟨_, h22, hf⟩ := ob_some hf
    obtain ⟨x20, h21, hf⟩ := ob_some hf
    refine gg_cVV (As := [.int l1]) hC hw (X13_startText_M l E D A h21) h22 rfl g_ml_X13_388 hd_X13_startText (Nat.le_of_ble_eq_true rfl) (Nat.le_of_ble_eq_true rfl) hl.1 rfl (Nat.le_of_ble_eq_true rfl) dX13_addRow_32 (fun H locs cells slots hw => ?_)
    refine lv_aload_n hx hb dX13_addRow_35 rfl (lv_at hl 0 rfl) ?_
    obtain ⟨_, h25, hf⟩ := ob_some hf
    obtain ⟨x23, h24, hf⟩ := ob_some hf
    refine gg_cVV (As := []) hC hw (X13_readRow_M l E D A h24) h25 rfl g_ml_X13_382 hd_X13_readRow (Nat.le_of_ble_eq_true rfl) (Nat.le_of_ble_eq_true rfl) hl.1 rfl (Nat.le_of_ble_eq_true rfl) dX13_addRow_36 (fun H locs cells slots hw => ?_)
    refine lv_aload_n hx hb dX13_addRow_39 rfl (lv_at hl 0 rfl) ?_
    refine lv_aload_n hx hb dX13_addRow_40 rfl (lv_at hl 0 rfl) ?_
    obtain ⟨x26, h27, hf⟩ := ob_some hf
    refine rI_fl_X13_318 hC hw h27 dX13_addRow_41 ?_
    refine lv_if_ne (tgt := 54) hx hb dX13_addRow_44 (by decide) (fun c31 => ?_) (fun c31 => ?_)
    · replace hf := (if_neg c31).symm.trans hf
      exact X13_addRow_54_W hC hQ hf hw (lv_sub hl [0] rfl)
    · replace hf := (if_pos c31).symm.trans hf
      refine lv_aload_n hx hb dX13_addRow_47 rfl (lv_at hl 0 rfl) ?_
      obtain ⟨x28, h29, hf⟩ := ob_some hf
      refine rI_fl_X13_309 hC hw h29 dX13_addRow_48 ?_
      refine lv_if_ne (tgt := 58) hx hb dX13_addRow_51 (by decide) (fun c30 => ?_) (fun c30 => ?_)
      · replace hf := (if_neg c30).symm.trans hf
        refine lv_iconst (v := 0) hx hb dX13_addRow_58 (by decide) ?_
        exact X13_addRow_59_W hC hQ hf hw (lv_sub hl [0] rfl)
      · replace hf := (if_pos c30).symm.trans hf
        exact X13_addRow_54_W hC hQ hf hw (lv_sub hl [0] rfl)
  · replace hf := (if_neg c32).symm.trans hf
    refine lv_iconst (v := 0) hx hb dX13_addRow_28 (by decide) ?_
    cases hf
    exact hQ _ _ _ _ _ _ dX13_addRow_29 rfl hw

def X13_addRow (E : gE) (l0 : Nat) (l1 : Int32) (σ : gS) : Option (Int32 × gS) :=
  ob (gcl σ l0 11) fun _ =>
  ob (X13_isLength_f E σ l0 l1) fun x33 =>
  ob (gfR σ l0 11 8) fun x36 =>
  ob (graI E 0 σ x36 (1 : Int32)) fun x38 =>
  if (60 : Int32) ≤ x38 then
    X13_addRow_22 E l0 l1 (0 : Int32) x33 l0 σ
  else
    X13_addRow_22 E l0 l1 (1 : Int32) x33 l0 σ
set_option maxHeartbeats 4000000 in
set_option maxRecDepth 100000 in
theorem X13_addRow_W {σ : gS} {l0 : Nat} {l1 : Int32} {res : (Int32 × gS)} {ls : Array Slot} (hC : gC E D A p R s m args meth c cX13_addRow 2 RX13 "addRow" 7 148) (hQ : gQI E D A p l e R s m args below meth c Q cX13_addRow FieldType.int res) (hf : X13_addRow E l0 l1 σ = some res) (hw : gW E D A s σ H locs) (hl : lv_has ls 2 [(0, .ref l0), (1, .int l1)]) : W p l e R s m args below meth c H locs cells slots Q (F0 m 0 ls []) := by
  have hC0 := hC
  obtain ⟨hx, hb, hml, hown, hts, -⟩ := hC0
  unfold X13_addRow at hf
  refine lv_aload_n hx hb dX13_addRow_0 rfl (lv_at hl 0 rfl) ?_
  refine lv_aload_n hx hb dX13_addRow_1 rfl (lv_at hl 0 rfl) ?_
  refine lv_iload_n hx hb dX13_addRow_2 rfl (lv_at hl 1 rfl) ?_
  obtain ⟨_, h35, hf⟩ := ob_some hf
  obtain ⟨x33, h34, hf⟩ := ob_some hf
  refine gg_cVI (As := [.int l1]) hC hw (X13_isLength_M l E D A h34) h35 rfl g_ml_X13_385 hd_X13_isLength (Nat.le_of_ble_eq_true rfl) (Nat.le_of_ble_eq_true rfl) hl.1 rfl (Nat.le_of_ble_eq_true rfl) dX13_addRow_3 (fun H locs cells slots hw => ?_)
  refine lv_aload_n hx hb dX13_addRow_6 rfl (lv_at hl 0 rfl) ?_
  obtain ⟨x36, h37, hf⟩ := ob_some hf
  refine rR_fl_X13_35 hC hw h37 dX13_addRow_7 ?_
  refine lv_iconst (v := 1) hx hb dX13_addRow_10 (by decide) ?_
  obtain ⟨x38, h39, hf⟩ := ob_some hf
  refine gg_aldI hC hw h39 dX13_addRow_11 ?_
  refine lv_bipush (v := 60) hx hb dX13_addRow_12 (by decide) ?_
  refine lv_icmp_ge (tgt := 21) hx hb dX13_addRow_14 (by decide) (fun c40 => ?_) (fun c40 => ?_)
  · replace hf := (if_pos c40).symm.trans hf
    refine lv_iconst (v := 0) hx hb dX13_addRow_21 (by decide) ?_
    exact X13_addRow_22_W hC hQ hf hw (lv_sub hl [0, 1] rfl)
  · replace hf := (if_neg c40).symm.trans hf
    refine lv_iconst (v := 1) hx hb dX13_addRow_17 (by decide) ?_
    refine lv_goto (tgt := 22) hx hb dX13_addRow_18 (by decide) ?_
    exact X13_addRow_22_W hC hQ hf hw (lv_sub hl [0, 1] rfl)

def X13_addRow_f (E : gE) (l0 : Nat) (l1 : Int32) (σ : gS) : Option (Int32 × gS) := X13_addRow E l0 l1 σ
set_option maxRecDepth 100000 in
theorem X13_addRow_M (l : Launch) (E : gE) (D : va_G) (A : Nat → Prop) {l0 : Nat} {l1 : Int32} {σ : gS} {res : (Int32 × gS)} (hf : X13_addRow_f E l0 l1 σ = some res) : gCI l E D A yX13_addRow cX13_addRow 2 7 148 (some FieldType.int) [.ref l0, .int l1] σ res := by
  refine gg_entI (own := RX13) (nm := "addRow") (ty := FieldType.int) (by decide +kernel) rfl rfl (Nat.le_of_ble_eq_true rfl) rfl ?_
  intro p e R s m args below meth c Q ls hC hw hQ hl
  have hl : lv_has ls 2 [(0, .ref l0), (1, .int l1)] := hl
  exact X13_addRow_W hC hQ hf hw hl

def X13_addFirst (E : gE) (l0 : Nat) (l1 : Int32) (l2 : Int32) (l3 : Int32) (σ : gS) : Option gS :=
  ob (gfR σ l0 11 6) fun x1 =>
  ob (gwaI E σ x1 (0 : Int32) l1) fun σ3 =>
  ob (gfR σ3 l0 11 6) fun x5 =>
  ob (gwaI E σ3 x5 (1 : Int32) l2) fun σ7 =>
  ob (gfR σ7 l0 11 6) fun x9 =>
  ob (gwaI E σ7 x9 (2 : Int32) l3) fun σ11 =>
  ob (gcl σ11 l0 11) fun _ =>
  ob (X13_putRow_f E l0 σ11) fun x13 =>
  some x13
set_option maxHeartbeats 4000000 in
set_option maxRecDepth 100000 in
theorem X13_addFirst_W {σ : gS} {l0 : Nat} {l1 : Int32} {l2 : Int32} {l3 : Int32} {σz : gS} {ls : Array Slot} (hC : gC E D A p R s m args meth c cX13_addFirst 4 RX13 "addFirst" 2 44) (hQ : gQV E D A p l e R s m args below meth c Q cX13_addFirst σz) (hf : X13_addFirst E l0 l1 l2 l3 σ = some σz) (hw : gW E D A s σ H locs) (hl : lv_has ls 4 [(0, .ref l0), (1, .int l1), (2, .int l2), (3, .int l3)]) : W p l e R s m args below meth c H locs cells slots Q (F0 m 0 ls []) := by
  have hC0 := hC
  obtain ⟨hx, hb, hml, hown, hts, -⟩ := hC0
  unfold X13_addFirst at hf
  refine lv_aload_n hx hb dX13_addFirst_0 rfl (lv_at hl 0 rfl) ?_
  obtain ⟨x1, h2, hf⟩ := ob_some hf
  refine rR_fl_X13_29 hC hw h2 dX13_addFirst_1 ?_
  refine lv_iconst (v := 0) hx hb dX13_addFirst_4 (by decide) ?_
  refine lv_iload_n hx hb dX13_addFirst_5 rfl (lv_at hl 1 rfl) ?_
  obtain ⟨σ3, h4, hf⟩ := ob_some hf
  refine gg_astI hC hw h4 dX13_addFirst_6 (fun H locs hw => ?_)
  refine lv_aload_n hx hb dX13_addFirst_7 rfl (lv_at hl 0 rfl) ?_
  obtain ⟨x5, h6, hf⟩ := ob_some hf
  refine rR_fl_X13_29 hC hw h6 dX13_addFirst_8 ?_
  refine lv_iconst (v := 1) hx hb dX13_addFirst_11 (by decide) ?_
  refine lv_iload_n hx hb dX13_addFirst_12 rfl (lv_at hl 2 rfl) ?_
  obtain ⟨σ7, h8, hf⟩ := ob_some hf
  refine gg_astI hC hw h8 dX13_addFirst_13 (fun H locs hw => ?_)
  refine lv_aload_n hx hb dX13_addFirst_14 rfl (lv_at hl 0 rfl) ?_
  obtain ⟨x9, h10, hf⟩ := ob_some hf
  refine rR_fl_X13_29 hC hw h10 dX13_addFirst_15 ?_
  refine lv_iconst (v := 2) hx hb dX13_addFirst_18 (by decide) ?_
  refine lv_iload_n hx hb dX13_addFirst_19 rfl (lv_at hl 3 rfl) ?_
  obtain ⟨σ11, h12, hf⟩ := ob_some hf
  refine gg_astI hC hw h12 dX13_addFirst_20 (fun H locs hw => ?_)
  refine lv_aload_n hx hb dX13_addFirst_21 rfl (lv_at hl 0 rfl) ?_
  obtain ⟨_, h15, hf⟩ := ob_some hf
  obtain ⟨x13, h14, hf⟩ := ob_some hf
  refine gg_cVV (As := []) hC hw (X13_putRow_M l E D A h14) h15 rfl g_ml_X13_82 hd_X13_putRow (Nat.le_of_ble_eq_true rfl) (Nat.le_of_ble_eq_true rfl) hl.1 rfl (Nat.le_of_ble_eq_true rfl) dX13_addFirst_22 (fun H locs cells slots hw => ?_)
  cases hf
  exact hQ _ _ _ _ _ _ dX13_addFirst_25 hw

def X13_addFirst_f (E : gE) (l0 : Nat) (l1 : Int32) (l2 : Int32) (l3 : Int32) (σ : gS) : Option gS := X13_addFirst E l0 l1 l2 l3 σ
set_option maxRecDepth 100000 in
theorem X13_addFirst_M (l : Launch) (E : gE) (D : va_G) (A : Nat → Prop) {l0 : Nat} {l1 : Int32} {l2 : Int32} {l3 : Int32} {σ : gS} {σz : gS} (hf : X13_addFirst_f E l0 l1 l2 l3 σ = some σz) : gCV l E D A yX13_addFirst cX13_addFirst 4 2 44 none [.ref l0, .int l1, .int l2, .int l3] σ σz := by
  refine gg_entV (own := RX13) (nm := "addFirst") (by decide +kernel) rfl rfl (Nat.le_of_ble_eq_true rfl) rfl ?_
  intro p e R s m args below meth c Q ls hC hw hQ hl
  have hl : lv_has ls 4 [(0, .ref l0), (1, .int l1), (2, .int l2), (3, .int l3)] := hl
  exact X13_addFirst_W hC hQ hf hw hl

def X13_countUsed_29 (E : gE) (σ : gS) (r_4 : Nat → Int32 → Int32 → Int32 → Option Int32) (l0 : Nat) (l1 : Int32) (l3 : Int32) (s0 : Int32) (s1 : Int32) : Option Int32 :=
  r_4 l0 l1 (s1 + s0) (l3 + 1)
set_option maxHeartbeats 4000000 in
set_option maxRecDepth 100000 in
theorem X13_countUsed_29_W {σ : gS} {l0 : Nat} {l1 : Int32} {l3 : Int32} {s0 : Int32} {s1 : Int32} {res : Int32} {ls : Array Slot} (hC : gC E D A p R s m args meth c cX13_countUsed 4 RX13 "countUsed" 3 66) (hQ : gQI E D A p l e R s m args below meth c Q cX13_countUsed FieldType.int (res, σ)) {r_4 : Nat → Int32 → Int32 → Int32 → Option Int32} (h_4 : ∀ {l0 : Nat} {l1 : Int32} {l2 : Int32} {l3 : Int32} {H : Heap} {locs : List Loc} {cells slots : Nat} {ls : Array Slot}, r_4 l0 l1 l2 l3 = some res → gW E D A s σ H locs → lv_has ls 4 [(0, .ref l0), (1, .int l1), (2, .int l2), (3, .int l3)] → W p l e R s m args below meth c H locs cells slots Q (F0 m 4 ls [])) (hf : X13_countUsed_29 E σ r_4 l0 l1 l3 s0 s1 = some res) (hw : gW E D A s σ H locs) (hl : lv_has ls 4 [(0, .ref l0), (1, .int l1), (3, .int l3)]) : W p l e R s m args below meth c H locs cells slots Q (F0 m 29 ls [.int s0, .int s1]) := by
  have hC0 := hC
  obtain ⟨hx, hb, hml, hown, hts, -⟩ := hC0
  unfold X13_countUsed_29 at hf
  refine lv_iadd hx hb dX13_countUsed_29 ?_
  refine lv_istore_n (lv' := [(2, .int (s1 + s0)), (0, .ref l0), (1, .int l1), (3, .int l3)]) hx hb dX13_countUsed_30 rfl hl (by decide) rfl (fun ls hl => ?_)
  refine lv_iinc (v := (l3 + 1)) (lv' := [(3, .int (l3 + 1)), (2, .int (s1 + s0)), (0, .ref l0), (1, .int l1)]) hx hb dX13_countUsed_31 hl (k := 3) rfl rfl (by decide) rfl (fun ls hl => ?_)
  refine lv_goto (tgt := 4) hx hb dX13_countUsed_34 (by decide) ?_
  exact h_4 hf hw (lv_sub hl [2, 3, 1, 0] rfl)

def X13_countUsed_4_s (E : gE) (σ : gS) (r_4 : Nat → Int32 → Int32 → Int32 → Option Int32) (l0 : Nat) (l1 : Int32) (l2 : Int32) (l3 : Int32) : Option Int32 :=
  ob (gfR σ l0 11 8) fun x1 =>
  ob (graI E 0 σ x1 (1 : Int32)) fun x3 =>
  if x3 ≤ l3 then
    some l2
  else
    ob (gcl σ l0 11) fun _ =>
    ob (X13_isFirst_f E σ l0 l1 l3) fun x5 =>
    if x5 = 0 then
      X13_countUsed_29 E σ r_4 l0 l1 l3 (0 : Int32) l2
    else
      X13_countUsed_29 E σ r_4 l0 l1 l3 (1 : Int32) l2
set_option maxHeartbeats 4000000 in
set_option maxRecDepth 100000 in
theorem X13_countUsed_4_s_W {σ : gS} {l0 : Nat} {l1 : Int32} {l2 : Int32} {l3 : Int32} {res : Int32} {ls : Array Slot} (hC : gC E D A p R s m args meth c cX13_countUsed 4 RX13 "countUsed" 3 66) (hQ : gQI E D A p l e R s m args below meth c Q cX13_countUsed FieldType.int (res, σ)) {r_4 : Nat → Int32 → Int32 → Int32 → Option Int32} (h_4 : ∀ {l0 : Nat} {l1 : Int32} {l2 : Int32} {l3 : Int32} {H : Heap} {locs : List Loc} {cells slots : Nat} {ls : Array Slot}, r_4 l0 l1 l2 l3 = some res → gW E D A s σ H locs → lv_has ls 4 [(0, .ref l0), (1, .int l1), (2, .int l2), (3, .int l3)] → W p l e R s m args below meth c H locs cells slots Q (F0 m 4 ls [])) (hf : X13_countUsed_4_s E σ r_4 l0 l1 l2 l3 = some res) (hw : gW E D A s σ H locs) (hl : lv_has ls 4 [(0, .ref l0), (1, .int l1), (2, .int l2), (3, .int l3)]) : W p l e R s m args below meth c H locs cells slots Q (F0 m 4 ls []) := by
  have hC0 := hC
  obtain ⟨hx, hb, hml, hown, hts, -⟩ := hC0
  unfold X13_countUsed_4_s at hf
  refine lv_iload_n hx hb dX13_countUsed_4 rfl (lv_at hl 3 rfl) ?_
  refine lv_aload_n hx hb dX13_countUsed_5 rfl (lv_at hl 0 rfl) ?_
  obtain ⟨x1, h2, hf⟩ := ob_some hf
  refine rR_fl_X13_35 hC hw h2 dX13_countUsed_6 ?_
  refine lv_iconst (v := 1) hx hb dX13_countUsed_9 (by decide) ?_
  obtain ⟨x3, h4, hf⟩ := ob_some hf
  refine gg_aldI hC hw h4 dX13_countUsed_10 ?_
  refine lv_icmp_ge (tgt := 37) hx hb dX13_countUsed_11 (by decide) (fun c9 => ?_) (fun c9 => ?_)
  · replace hf := (if_pos c9).symm.trans hf
    refine lv_iload_n hx hb dX13_countUsed_37 rfl (lv_at hl 2 rfl) ?_
    cases hf
    exact hQ _ _ _ _ _ _ dX13_countUsed_38 rfl hw
  · replace hf := (if_neg c9).symm.trans hf
    refine lv_iload_n hx hb dX13_countUsed_14 rfl (lv_at hl 2 rfl) ?_
    refine lv_aload_n hx hb dX13_countUsed_15 rfl (lv_at hl 0 rfl) ?_
    refine lv_iload_n hx hb dX13_countUsed_16 rfl (lv_at hl 1 rfl) ?_
    refine lv_iload_n hx hb dX13_countUsed_17 rfl (lv_at hl 3 rfl) ?_
    obtain ⟨_, h7, hf⟩ := ob_some hf
    obtain ⟨x5, h6, hf⟩ := ob_some hf
    refine gg_cVI (As := [.int l1, .int l3]) hC hw (X13_isFirst_M l E D A h6) h7 rfl g_ml_X13_123 hd_X13_isFirst (Nat.le_of_ble_eq_true rfl) (Nat.le_of_ble_eq_true rfl) hl.1 rfl (Nat.le_of_ble_eq_true rfl) dX13_countUsed_18 (fun H locs cells slots hw => ?_)
    refine lv_if_eq (tgt := 28) hx hb dX13_countUsed_21 (by decide) (fun c8 => ?_) (fun c8 => ?_)
    · replace hf := (if_pos c8).symm.trans hf
      refine lv_iconst (v := 0) hx hb dX13_countUsed_28 (by decide) ?_
      exact X13_countUsed_29_W hC hQ h_4 hf hw (lv_sub hl [0, 1, 3] rfl)
    · replace hf := (if_neg c8).symm.trans hf
      refine lv_iconst (v := 1) hx hb dX13_countUsed_24 (by decide) ?_
      refine lv_goto (tgt := 29) hx hb dX13_countUsed_25 (by decide) ?_
      exact X13_countUsed_29_W hC hQ h_4 hf hw (lv_sub hl [0, 1, 3] rfl)
def X13_countUsed_4 (E : gE) (σ : gS) : Nat → Nat → Int32 → Int32 → Int32 → Option Int32
  | 0 => fun _ _ _ _ => none
  | n + 1 => X13_countUsed_4_s E σ (X13_countUsed_4 E σ n)
theorem X13_countUsed_4_W {σ : gS} {res : Int32} (hC : gC E D A p R s m args meth c cX13_countUsed 4 RX13 "countUsed" 3 66) (hQ : gQI E D A p l e R s m args below meth c Q cX13_countUsed FieldType.int (res, σ)) : ∀ (n : Nat), ∀ {l0 : Nat} {l1 : Int32} {l2 : Int32} {l3 : Int32} {H : Heap} {locs : List Loc} {cells slots : Nat} {ls : Array Slot}, X13_countUsed_4 E σ n l0 l1 l2 l3 = some res → gW E D A s σ H locs → lv_has ls 4 [(0, .ref l0), (1, .int l1), (2, .int l2), (3, .int l3)] → W p l e R s m args below meth c H locs cells slots Q (F0 m 4 ls []) := by
  intro n
  induction n with
  | zero =>
    intros
    rename_i hf _ _
    exact absurd hf (fun h => by cases (show (none : Option Int32) = some res from h))
  | succ n ih =>
    intros
    rename_i hf hw hl
    exact X13_countUsed_4_s_W hC hQ ih hf hw hl

def X13_countUsed (E : gE) (σ : gS) (l0 : Nat) (l1 : Int32) : Option Int32 :=
  X13_countUsed_4 E σ (gN E) l0 l1 (0 : Int32) (0 : Int32)
set_option maxHeartbeats 4000000 in
set_option maxRecDepth 100000 in
theorem X13_countUsed_W {σ : gS} {l0 : Nat} {l1 : Int32} {res : Int32} {ls : Array Slot} (hC : gC E D A p R s m args meth c cX13_countUsed 4 RX13 "countUsed" 3 66) (hQ : gQI E D A p l e R s m args below meth c Q cX13_countUsed FieldType.int (res, σ)) (hf : X13_countUsed E σ l0 l1 = some res) (hw : gW E D A s σ H locs) (hl : lv_has ls 4 [(0, .ref l0), (1, .int l1)]) : W p l e R s m args below meth c H locs cells slots Q (F0 m 0 ls []) := by
  have hC0 := hC
  obtain ⟨hx, hb, hml, hown, hts, -⟩ := hC0
  unfold X13_countUsed at hf
  refine lv_iconst (v := 0) hx hb dX13_countUsed_0 (by decide) ?_
  refine lv_istore_n (lv' := [(2, .int (0 : Int32)), (0, .ref l0), (1, .int l1)]) hx hb dX13_countUsed_1 rfl hl (by decide) rfl (fun ls hl => ?_)
  refine lv_iconst (v := 0) hx hb dX13_countUsed_2 (by decide) ?_
  refine lv_istore_n (lv' := [(3, .int (0 : Int32)), (2, .int (0 : Int32)), (0, .ref l0), (1, .int l1)]) hx hb dX13_countUsed_3 rfl hl (by decide) rfl (fun ls hl => ?_)
  exact X13_countUsed_4_W hC hQ (gN E) hf hw (lv_sub hl [2, 3, 1, 0] rfl)

def X13_countUsed_f (E : gE) (σ : gS) (l0 : Nat) (l1 : Int32) : Option Int32 := X13_countUsed E σ l0 l1
set_option maxRecDepth 100000 in
theorem X13_countUsed_M (l : Launch) (E : gE) (D : va_G) (A : Nat → Prop) {l0 : Nat} {l1 : Int32} {σ : gS} {res : Int32} (hf : X13_countUsed_f E σ l0 l1 = some res) : gCI l E D A yX13_countUsed cX13_countUsed 4 3 66 (some FieldType.int) [.ref l0, .int l1] σ (res, σ) := by
  refine gg_entI (own := RX13) (nm := "countUsed") (ty := FieldType.int) (by decide +kernel) rfl rfl (Nat.le_of_ble_eq_true rfl) rfl ?_
  intro p e R s m args below meth c Q ls hC hw hQ hl
  have hl : lv_has ls 4 [(0, .ref l0), (1, .int l1)] := hl
  exact X13_countUsed_W hC hQ hf hw hl

def X13_staleCount (E : gE) (l0 : Nat) (l1 : Int32) (σ : gS) : Option (Int32 × gS) :=
  ob (gcl σ l0 11) fun _ =>
  ob (X13_isColumn_f E σ l0 l1) fun x1 =>
  ob (gcl σ l0 11) fun _ =>
  ob (X13_lacks_f E l0 x1 σ) fun x4 =>
  if x4.1 = 0 then
    ob (gcl x4.2 l0 11) fun _ =>
    ob (X13_sizeIn_f E x4.2 l0 l1) fun x7 =>
    ob (gcl x4.2 l0 11) fun _ =>
    ob (X13_countUsed_f E x4.2 l0 l1) fun x10 =>
    some ((x7 - x10), x4.2)
  else
    some ((0 : Int32), x4.2)
set_option maxHeartbeats 4000000 in
set_option maxRecDepth 100000 in
theorem X13_staleCount_W {σ : gS} {l0 : Nat} {l1 : Int32} {res : (Int32 × gS)} {ls : Array Slot} (hC : gC E D A p R s m args meth c cX13_staleCount 2 RX13 "staleCount" 4 89) (hQ : gQI E D A p l e R s m args below meth c Q cX13_staleCount FieldType.int res) (hf : X13_staleCount E l0 l1 σ = some res) (hw : gW E D A s σ H locs) (hl : lv_has ls 2 [(0, .ref l0), (1, .int l1)]) : W p l e R s m args below meth c H locs cells slots Q (F0 m 0 ls []) := by
  have hC0 := hC
  obtain ⟨hx, hb, hml, hown, hts, -⟩ := hC0
  unfold X13_staleCount at hf
  refine lv_aload_n hx hb dX13_staleCount_0 rfl (lv_at hl 0 rfl) ?_
  refine lv_aload_n hx hb dX13_staleCount_1 rfl (lv_at hl 0 rfl) ?_
  refine lv_iload_n hx hb dX13_staleCount_2 rfl (lv_at hl 1 rfl) ?_
  obtain ⟨_, h3, hf⟩ := ob_some hf
  obtain ⟨x1, h2, hf⟩ := ob_some hf
  refine gg_cVI (As := [.int l1]) hC hw (X13_isColumn_M l E D A h2) h3 rfl g_ml_X13_112 hd_X13_isColumn (Nat.le_of_ble_eq_true rfl) (Nat.le_of_ble_eq_true rfl) hl.1 rfl (Nat.le_of_ble_eq_true rfl) dX13_staleCount_3 (fun H locs cells slots hw => ?_)
  obtain ⟨_, h6, hf⟩ := ob_some hf
  obtain ⟨x4, h5, hf⟩ := ob_some hf
  refine gg_cVI (As := [.int x1]) hC hw (X13_lacks_M l E D A h5) h6 rfl g_ml_X13_88 hd_X13_lacks (Nat.le_of_ble_eq_true rfl) (Nat.le_of_ble_eq_true rfl) hl.1 rfl (Nat.le_of_ble_eq_true rfl) dX13_staleCount_6 (fun H locs cells slots hw => ?_)
  refine lv_if_eq (tgt := 16) hx hb dX13_staleCount_9 (by decide) (fun c13 => ?_) (fun c13 => ?_)
  · replace hf := (if_pos c13).symm.trans hf
    refine lv_aload_n hx hb dX13_staleCount_16 rfl (lv_at hl 0 rfl) ?_
    refine lv_iload_n hx hb dX13_staleCount_17 rfl (lv_at hl 1 rfl) ?_
    obtain ⟨_, h9, hf⟩ := ob_some hf
    obtain ⟨x7, h8, hf⟩ := ob_some hf
    refine gg_cVI (As := [.int l1]) hC hw (X13_sizeIn_M l E D A h8) h9 rfl g_ml_X13_115 hd_X13_sizeIn (Nat.le_of_ble_eq_true rfl) (Nat.le_of_ble_eq_true rfl) hl.1 rfl (Nat.le_of_ble_eq_true rfl) dX13_staleCount_18 (fun H locs cells slots hw => ?_)
    refine lv_aload_n hx hb dX13_staleCount_21 rfl (lv_at hl 0 rfl) ?_
    refine lv_iload_n hx hb dX13_staleCount_22 rfl (lv_at hl 1 rfl) ?_
    obtain ⟨_, h12, hf⟩ := ob_some hf
    obtain ⟨x10, h11, hf⟩ := ob_some hf
    refine gg_cVI (As := [.int l1]) hC hw (X13_countUsed_M l E D A h11) h12 rfl g_ml_X13_145 hd_X13_countUsed (Nat.le_of_ble_eq_true rfl) (Nat.le_of_ble_eq_true rfl) hl.1 rfl (Nat.le_of_ble_eq_true rfl) dX13_staleCount_23 (fun H locs cells slots hw => ?_)
    refine lv_isub hx hb dX13_staleCount_26 ?_
    cases hf
    exact hQ _ _ _ _ _ _ dX13_staleCount_27 rfl hw
  · replace hf := (if_neg c13).symm.trans hf
    refine lv_iconst (v := 0) hx hb dX13_staleCount_12 (by decide) ?_
    refine lv_goto (tgt := 27) hx hb dX13_staleCount_13 (by decide) ?_
    cases hf
    exact hQ _ _ _ _ _ _ dX13_staleCount_27 rfl hw

def X13_staleCount_f (E : gE) (l0 : Nat) (l1 : Int32) (σ : gS) : Option (Int32 × gS) := X13_staleCount E l0 l1 σ
set_option maxRecDepth 100000 in
theorem X13_staleCount_M (l : Launch) (E : gE) (D : va_G) (A : Nat → Prop) {l0 : Nat} {l1 : Int32} {σ : gS} {res : (Int32 × gS)} (hf : X13_staleCount_f E l0 l1 σ = some res) : gCI l E D A yX13_staleCount cX13_staleCount 2 4 89 (some FieldType.int) [.ref l0, .int l1] σ res := by
  refine gg_entI (own := RX13) (nm := "staleCount") (ty := FieldType.int) (by decide +kernel) rfl rfl (Nat.le_of_ble_eq_true rfl) rfl ?_
  intro p e R s m args below meth c Q ls hC hw hQ hl
  have hl : lv_has ls 2 [(0, .ref l0), (1, .int l1)] := hl
  exact X13_staleCount_W hC hQ hf hw hl

def X13_bitWidthCompacted (E : gE) (l0 : Nat) (l1 : Int32) (σ : gS) : Option (Int32 × gS) :=
  ob (gcl σ l0 11) fun _ =>
  ob (X13_isColumn_f E σ l0 l1) fun x1 =>
  ob (gcl σ l0 11) fun _ =>
  ob (X13_lacks_f E l0 x1 σ) fun x4 =>
  if x4.1 = 0 then
    ob (gcl x4.2 l0 11) fun _ =>
    ob (X13_countUsed_f E x4.2 l0 l1) fun x7 =>
    ob (X13_widthFor_f E x4.2 x7) fun x10 =>
    some (x10, x4.2)
  else
    some ((0 : Int32), x4.2)
set_option maxHeartbeats 4000000 in
set_option maxRecDepth 100000 in
theorem X13_bitWidthCompacted_W {σ : gS} {l0 : Nat} {l1 : Int32} {res : (Int32 × gS)} {ls : Array Slot} (hC : gC E D A p R s m args meth c cX13_bitWidthCompacted 2 RX13 "bitWidthCompacted" 4 89) (hQ : gQI E D A p l e R s m args below meth c Q cX13_bitWidthCompacted FieldType.int res) (hf : X13_bitWidthCompacted E l0 l1 σ = some res) (hw : gW E D A s σ H locs) (hl : lv_has ls 2 [(0, .ref l0), (1, .int l1)]) : W p l e R s m args below meth c H locs cells slots Q (F0 m 0 ls []) := by
  have hC0 := hC
  obtain ⟨hx, hb, hml, hown, hts, -⟩ := hC0
  unfold X13_bitWidthCompacted at hf
  refine lv_aload_n hx hb dX13_bitWidthCompacted_0 rfl (lv_at hl 0 rfl) ?_
  refine lv_aload_n hx hb dX13_bitWidthCompacted_1 rfl (lv_at hl 0 rfl) ?_
  refine lv_iload_n hx hb dX13_bitWidthCompacted_2 rfl (lv_at hl 1 rfl) ?_
  obtain ⟨_, h3, hf⟩ := ob_some hf
  obtain ⟨x1, h2, hf⟩ := ob_some hf
  refine gg_cVI (As := [.int l1]) hC hw (X13_isColumn_M l E D A h2) h3 rfl g_ml_X13_112 hd_X13_isColumn (Nat.le_of_ble_eq_true rfl) (Nat.le_of_ble_eq_true rfl) hl.1 rfl (Nat.le_of_ble_eq_true rfl) dX13_bitWidthCompacted_3 (fun H locs cells slots hw => ?_)
  obtain ⟨_, h6, hf⟩ := ob_some hf
  obtain ⟨x4, h5, hf⟩ := ob_some hf
  refine gg_cVI (As := [.int x1]) hC hw (X13_lacks_M l E D A h5) h6 rfl g_ml_X13_88 hd_X13_lacks (Nat.le_of_ble_eq_true rfl) (Nat.le_of_ble_eq_true rfl) hl.1 rfl (Nat.le_of_ble_eq_true rfl) dX13_bitWidthCompacted_6 (fun H locs cells slots hw => ?_)
  refine lv_if_eq (tgt := 16) hx hb dX13_bitWidthCompacted_9 (by decide) (fun c12 => ?_) (fun c12 => ?_)
  · replace hf := (if_pos c12).symm.trans hf
    refine lv_aload_n hx hb dX13_bitWidthCompacted_16 rfl (lv_at hl 0 rfl) ?_
    refine lv_iload_n hx hb dX13_bitWidthCompacted_17 rfl (lv_at hl 1 rfl) ?_
    obtain ⟨_, h9, hf⟩ := ob_some hf
    obtain ⟨x7, h8, hf⟩ := ob_some hf
    refine gg_cVI (As := [.int l1]) hC hw (X13_countUsed_M l E D A h8) h9 rfl g_ml_X13_145 hd_X13_countUsed (Nat.le_of_ble_eq_true rfl) (Nat.le_of_ble_eq_true rfl) hl.1 rfl (Nat.le_of_ble_eq_true rfl) dX13_bitWidthCompacted_18 (fun H locs cells slots hw => ?_)
    obtain ⟨x10, h11, hf⟩ := ob_some hf
    refine gg_cSI (As := [.int x7]) hC hw (X13_widthFor_M l E D A h11) g_ml_X13_151 hd_X13_widthFor.2 (Nat.le_of_ble_eq_true rfl) (Nat.le_of_ble_eq_true rfl) hl.1 rfl (Nat.le_of_ble_eq_true rfl) dX13_bitWidthCompacted_21 (fun H locs cells slots hw => ?_)
    cases hf
    exact hQ _ _ _ _ _ _ dX13_bitWidthCompacted_24 rfl hw
  · replace hf := (if_neg c12).symm.trans hf
    refine lv_iconst (v := 0) hx hb dX13_bitWidthCompacted_12 (by decide) ?_
    refine lv_goto (tgt := 24) hx hb dX13_bitWidthCompacted_13 (by decide) ?_
    cases hf
    exact hQ _ _ _ _ _ _ dX13_bitWidthCompacted_24 rfl hw

def X13_bitWidthCompacted_f (E : gE) (l0 : Nat) (l1 : Int32) (σ : gS) : Option (Int32 × gS) := X13_bitWidthCompacted E l0 l1 σ
set_option maxRecDepth 100000 in
theorem X13_bitWidthCompacted_M (l : Launch) (E : gE) (D : va_G) (A : Nat → Prop) {l0 : Nat} {l1 : Int32} {σ : gS} {res : (Int32 × gS)} (hf : X13_bitWidthCompacted_f E l0 l1 σ = some res) : gCI l E D A yX13_bitWidthCompacted cX13_bitWidthCompacted 2 4 89 (some FieldType.int) [.ref l0, .int l1] σ res := by
  refine gg_entI (own := RX13) (nm := "bitWidthCompacted") (ty := FieldType.int) (by decide +kernel) rfl rfl (Nat.le_of_ble_eq_true rfl) rfl ?_
  intro p e R s m args below meth c Q ls hC hw hQ hl
  have hl : lv_has ls 2 [(0, .ref l0), (1, .int l1)] := hl
  exact X13_bitWidthCompacted_W hC hQ hf hw hl

def X13_doCompact_49_s (E : gE) (r_49 : Nat → Int32 → Int32 → gS → Option (Int32 × gS)) (l0 : Nat) (l1 : Int32) (l2 : Int32) (σ : gS) : Option (Int32 × gS) :=
  ob (gfR σ l0 11 8) fun x1 =>
  ob (graI E 0 σ x1 (1 : Int32)) fun x3 =>
  if x3 ≤ l2 then
    some ((0 : Int32), σ)
  else
    ob (gcl σ l0 11) fun _ =>
    ob (X13_at_f E σ l0 l1 l2) fun x5 =>
    ob (gcl σ l0 11) fun _ =>
    ob (X13_learn_f E l0 l1 x5 σ) fun x8 =>
    r_49 l0 l1 (l2 + 1) x8
set_option maxHeartbeats 4000000 in
set_option maxRecDepth 100000 in
theorem X13_doCompact_49_s_W {σ : gS} {l0 : Nat} {l1 : Int32} {l2 : Int32} {res : (Int32 × gS)} {ls : Array Slot} (hC : gC E D A p R s m args meth c cX13_doCompact 3 RX13 "doCompact" 4 89) (hQ : gQI E D A p l e R s m args below meth c Q cX13_doCompact FieldType.int res) {r_49 : Nat → Int32 → Int32 → gS → Option (Int32 × gS)} (h_49 : ∀ {l0 : Nat} {l1 : Int32} {l2 : Int32} {σ : gS} {H : Heap} {locs : List Loc} {cells slots : Nat} {ls : Array Slot}, r_49 l0 l1 l2 σ = some res → gW E D A s σ H locs → lv_has ls 3 [(0, .ref l0), (1, .int l1), (2, .int l2)] → W p l e R s m args below meth c H locs cells slots Q (F0 m 49 ls [])) (hf : X13_doCompact_49_s E r_49 l0 l1 l2 σ = some res) (hw : gW E D A s σ H locs) (hl : lv_has ls 3 [(0, .ref l0), (1, .int l1), (2, .int l2)]) : W p l e R s m args below meth c H locs cells slots Q (F0 m 49 ls []) := by
  have hC0 := hC
  obtain ⟨hx, hb, hml, hown, hts, -⟩ := hC0
  unfold X13_doCompact_49_s at hf
  refine lv_iload_n hx hb dX13_doCompact_49 rfl (lv_at hl 2 rfl) ?_
  refine lv_aload_n hx hb dX13_doCompact_50 rfl (lv_at hl 0 rfl) ?_
  obtain ⟨x1, h2, hf⟩ := ob_some hf
  refine rR_fl_X13_35 hC hw h2 dX13_doCompact_51 ?_
  refine lv_iconst (v := 1) hx hb dX13_doCompact_54 (by decide) ?_
  obtain ⟨x3, h4, hf⟩ := ob_some hf
  refine gg_aldI hC hw h4 dX13_doCompact_55 ?_
  refine lv_icmp_ge (tgt := 76) hx hb dX13_doCompact_56 (by decide) (fun c11 => ?_) (fun c11 => ?_)
  · replace hf := (if_pos c11).symm.trans hf
    refine lv_iconst (v := 0) hx hb dX13_doCompact_76 (by decide) ?_
    cases hf
    exact hQ _ _ _ _ _ _ dX13_doCompact_77 rfl hw
  · replace hf := (if_neg c11).symm.trans hf
    refine lv_aload_n hx hb dX13_doCompact_59 rfl (lv_at hl 0 rfl) ?_
    refine lv_iload_n hx hb dX13_doCompact_60 rfl (lv_at hl 1 rfl) ?_
    refine lv_aload_n hx hb dX13_doCompact_61 rfl (lv_at hl 0 rfl) ?_
    refine lv_iload_n hx hb dX13_doCompact_62 rfl (lv_at hl 1 rfl) ?_
    refine lv_iload_n hx hb dX13_doCompact_63 rfl (lv_at hl 2 rfl) ?_
    obtain ⟨_, h7, hf⟩ := ob_some hf
    obtain ⟨x5, h6, hf⟩ := ob_some hf
    refine gg_cVI (As := [.int l1, .int l2]) hC hw (X13_at_M l E D A h6) h7 rfl g_ml_X13_118 hd_X13_at (Nat.le_of_ble_eq_true rfl) (Nat.le_of_ble_eq_true rfl) hl.1 rfl (Nat.le_of_ble_eq_true rfl) dX13_doCompact_64 (fun H locs cells slots hw => ?_)
    obtain ⟨_, h10, hf⟩ := ob_some hf
    obtain ⟨x8, h9, hf⟩ := ob_some hf
    refine gg_cVV (As := [.int l1, .int x5]) hC hw (X13_learn_M l E D A h9) h10 rfl g_ml_X13_228 hd_X13_learn (Nat.le_of_ble_eq_true rfl) (Nat.le_of_ble_eq_true rfl) hl.1 rfl (Nat.le_of_ble_eq_true rfl) dX13_doCompact_67 (fun H locs cells slots hw => ?_)
    refine lv_iinc (v := (l2 + 1)) (lv' := [(2, .int (l2 + 1)), (0, .ref l0), (1, .int l1)]) hx hb dX13_doCompact_70 hl (k := 2) rfl rfl (by decide) rfl (fun ls hl => ?_)
    refine lv_goto (tgt := 49) hx hb dX13_doCompact_73 (by decide) ?_
    exact h_49 hf hw (lv_sub hl [1, 2, 0] rfl)
def X13_doCompact_49 (E : gE) : Nat → Nat → Int32 → Int32 → gS → Option (Int32 × gS)
  | 0 => fun _ _ _ _ => none
  | n + 1 => X13_doCompact_49_s E (X13_doCompact_49 E n)
theorem X13_doCompact_49_W {res : (Int32 × gS)} (hC : gC E D A p R s m args meth c cX13_doCompact 3 RX13 "doCompact" 4 89) (hQ : gQI E D A p l e R s m args below meth c Q cX13_doCompact FieldType.int res) : ∀ (n : Nat), ∀ {l0 : Nat} {l1 : Int32} {l2 : Int32} {σ : gS} {H : Heap} {locs : List Loc} {cells slots : Nat} {ls : Array Slot}, X13_doCompact_49 E n l0 l1 l2 σ = some res → gW E D A s σ H locs → lv_has ls 3 [(0, .ref l0), (1, .int l1), (2, .int l2)] → W p l e R s m args below meth c H locs cells slots Q (F0 m 49 ls []) := by
  intro n
  induction n with
  | zero =>
    intros
    rename_i hf _ _
    exact absurd hf (fun h => by cases (show (none : Option (Int32 × gS)) = some res from h))
  | succ n ih =>
    intros
    rename_i hf hw hl
    exact X13_doCompact_49_s_W hC hQ ih hf hw hl

def X13_doCompact_17_s (E : gE) (r_17 : Nat → Int32 → Int32 → gS → Option (Int32 × gS)) (l0 : Nat) (l1 : Int32) (l2 : Int32) (σ : gS) : Option (Int32 × gS) :=
  if (625 : Int32) ≤ l2 then
    X13_doCompact_49 E (gN E) l0 l1 (0 : Int32) σ
  else
    ob (gfR σ l0 11 8) fun x12 =>
    ob (gwaI E σ x12 (((387 : Int32) + ((625 : Int32) * l1)) + l2) (0 : Int32)) fun σ14 =>
    r_17 l0 l1 (l2 + 1) σ14
set_option maxHeartbeats 4000000 in
set_option maxRecDepth 100000 in
theorem X13_doCompact_17_s_W {σ : gS} {l0 : Nat} {l1 : Int32} {l2 : Int32} {res : (Int32 × gS)} {ls : Array Slot} (hC : gC E D A p R s m args meth c cX13_doCompact 3 RX13 "doCompact" 4 89) (hQ : gQI E D A p l e R s m args below meth c Q cX13_doCompact FieldType.int res) {r_17 : Nat → Int32 → Int32 → gS → Option (Int32 × gS)} (h_17 : ∀ {l0 : Nat} {l1 : Int32} {l2 : Int32} {σ : gS} {H : Heap} {locs : List Loc} {cells slots : Nat} {ls : Array Slot}, r_17 l0 l1 l2 σ = some res → gW E D A s σ H locs → lv_has ls 3 [(0, .ref l0), (1, .int l1), (2, .int l2)] → W p l e R s m args below meth c H locs cells slots Q (F0 m 17 ls [])) (hf : X13_doCompact_17_s E r_17 l0 l1 l2 σ = some res) (hw : gW E D A s σ H locs) (hl : lv_has ls 3 [(0, .ref l0), (1, .int l1), (2, .int l2)]) : W p l e R s m args below meth c H locs cells slots Q (F0 m 17 ls []) := by
  have hC0 := hC
  obtain ⟨hx, hb, hml, hown, hts, -⟩ := hC0
  unfold X13_doCompact_17_s at hf
  refine lv_iload_n hx hb dX13_doCompact_17 rfl (lv_at hl 2 rfl) ?_
  refine lv_sipush (v := 625) hx hb dX13_doCompact_18 (by decide) ?_
  refine lv_icmp_ge (tgt := 47) hx hb dX13_doCompact_21 (by decide) (fun c16 => ?_) (fun c16 => ?_)
  · replace hf := (if_pos c16).symm.trans hf
    refine lv_iconst (v := 0) hx hb dX13_doCompact_47 (by decide) ?_
    refine lv_istore_n (lv' := [(2, .int (0 : Int32)), (0, .ref l0), (1, .int l1)]) hx hb dX13_doCompact_48 rfl hl (by decide) rfl (fun ls hl => ?_)
    exact X13_doCompact_49_W hC hQ (gN E) hf hw (lv_sub hl [1, 2, 0] rfl)
  · replace hf := (if_neg c16).symm.trans hf
    refine lv_aload_n hx hb dX13_doCompact_24 rfl (lv_at hl 0 rfl) ?_
    obtain ⟨x12, h13, hf⟩ := ob_some hf
    refine rR_fl_X13_35 hC hw h13 dX13_doCompact_25 ?_
    refine lv_sipush (v := 387) hx hb dX13_doCompact_28 (by decide) ?_
    refine lv_sipush (v := 625) hx hb dX13_doCompact_31 (by decide) ?_
    refine lv_iload_n hx hb dX13_doCompact_34 rfl (lv_at hl 1 rfl) ?_
    refine lv_imul hx hb dX13_doCompact_35 ?_
    refine lv_iadd hx hb dX13_doCompact_36 ?_
    refine lv_iload_n hx hb dX13_doCompact_37 rfl (lv_at hl 2 rfl) ?_
    refine lv_iadd hx hb dX13_doCompact_38 ?_
    refine lv_iconst (v := 0) hx hb dX13_doCompact_39 (by decide) ?_
    obtain ⟨σ14, h15, hf⟩ := ob_some hf
    refine gg_astI hC hw h15 dX13_doCompact_40 (fun H locs hw => ?_)
    refine lv_iinc (v := (l2 + 1)) (lv' := [(2, .int (l2 + 1)), (0, .ref l0), (1, .int l1)]) hx hb dX13_doCompact_41 hl (k := 2) rfl rfl (by decide) rfl (fun ls hl => ?_)
    refine lv_goto (tgt := 17) hx hb dX13_doCompact_44 (by decide) ?_
    exact h_17 hf hw (lv_sub hl [1, 2, 0] rfl)
def X13_doCompact_17 (E : gE) : Nat → Nat → Int32 → Int32 → gS → Option (Int32 × gS)
  | 0 => fun _ _ _ _ => none
  | n + 1 => X13_doCompact_17_s E (X13_doCompact_17 E n)
theorem X13_doCompact_17_W {res : (Int32 × gS)} (hC : gC E D A p R s m args meth c cX13_doCompact 3 RX13 "doCompact" 4 89) (hQ : gQI E D A p l e R s m args below meth c Q cX13_doCompact FieldType.int res) : ∀ (n : Nat), ∀ {l0 : Nat} {l1 : Int32} {l2 : Int32} {σ : gS} {H : Heap} {locs : List Loc} {cells slots : Nat} {ls : Array Slot}, X13_doCompact_17 E n l0 l1 l2 σ = some res → gW E D A s σ H locs → lv_has ls 3 [(0, .ref l0), (1, .int l1), (2, .int l2)] → W p l e R s m args below meth c H locs cells slots Q (F0 m 17 ls []) := by
  intro n
  induction n with
  | zero =>
    intros
    rename_i hf _ _
    exact absurd hf (fun h => by cases (show (none : Option (Int32 × gS)) = some res from h))
  | succ n ih =>
    intros
    rename_i hf hw hl
    exact X13_doCompact_17_s_W hC hQ ih hf hw hl

def X13_doCompact (E : gE) (l0 : Nat) (l1 : Int32) (σ : gS) : Option (Int32 × gS) :=
  ob (gcl σ l0 11) fun _ =>
  ob (X13_sizeIn_f E σ l0 l1) fun x17 =>
  ob (gcl σ l0 11) fun _ =>
  ob (X13_countUsed_f E σ l0 l1) fun x20 =>
  ob (gpf E σ l0 11 12 (.int (x17 - x20))) fun σ23 =>
  X13_doCompact_17 E (gN E) l0 l1 (0 : Int32) σ23
set_option maxHeartbeats 4000000 in
set_option maxRecDepth 100000 in
theorem X13_doCompact_W {σ : gS} {l0 : Nat} {l1 : Int32} {res : (Int32 × gS)} {ls : Array Slot} (hC : gC E D A p R s m args meth c cX13_doCompact 3 RX13 "doCompact" 4 89) (hQ : gQI E D A p l e R s m args below meth c Q cX13_doCompact FieldType.int res) (hf : X13_doCompact E l0 l1 σ = some res) (hw : gW E D A s σ H locs) (hl : lv_has ls 3 [(0, .ref l0), (1, .int l1)]) : W p l e R s m args below meth c H locs cells slots Q (F0 m 0 ls []) := by
  have hC0 := hC
  obtain ⟨hx, hb, hml, hown, hts, -⟩ := hC0
  unfold X13_doCompact at hf
  refine lv_aload_n hx hb dX13_doCompact_0 rfl (lv_at hl 0 rfl) ?_
  refine lv_aload_n hx hb dX13_doCompact_1 rfl (lv_at hl 0 rfl) ?_
  refine lv_iload_n hx hb dX13_doCompact_2 rfl (lv_at hl 1 rfl) ?_
  obtain ⟨_, h19, hf⟩ := ob_some hf
  obtain ⟨x17, h18, hf⟩ := ob_some hf
  refine gg_cVI (As := [.int l1]) hC hw (X13_sizeIn_M l E D A h18) h19 rfl g_ml_X13_115 hd_X13_sizeIn (Nat.le_of_ble_eq_true rfl) (Nat.le_of_ble_eq_true rfl) hl.1 rfl (Nat.le_of_ble_eq_true rfl) dX13_doCompact_3 (fun H locs cells slots hw => ?_)
  refine lv_aload_n hx hb dX13_doCompact_6 rfl (lv_at hl 0 rfl) ?_
  refine lv_iload_n hx hb dX13_doCompact_7 rfl (lv_at hl 1 rfl) ?_
  obtain ⟨_, h22, hf⟩ := ob_some hf
  obtain ⟨x20, h21, hf⟩ := ob_some hf
  refine gg_cVI (As := [.int l1]) hC hw (X13_countUsed_M l E D A h21) h22 rfl g_ml_X13_145 hd_X13_countUsed (Nat.le_of_ble_eq_true rfl) (Nat.le_of_ble_eq_true rfl) hl.1 rfl (Nat.le_of_ble_eq_true rfl) dX13_doCompact_8 (fun H locs cells slots hw => ?_)
  refine lv_isub hx hb dX13_doCompact_11 ?_
  obtain ⟨σ23, h24, hf⟩ := ob_some hf
  refine p_fl_X13_231 hC hw h24 rfl rfl dX13_doCompact_12 (fun H locs hw => ?_)
  refine lv_iconst (v := 0) hx hb dX13_doCompact_15 (by decide) ?_
  refine lv_istore_n (lv' := [(2, .int (0 : Int32)), (0, .ref l0), (1, .int l1)]) hx hb dX13_doCompact_16 rfl hl (by decide) rfl (fun ls hl => ?_)
  exact X13_doCompact_17_W hC hQ (gN E) hf hw (lv_sub hl [1, 2, 0] rfl)

def X13_doCompact_f (E : gE) (l0 : Nat) (l1 : Int32) (σ : gS) : Option (Int32 × gS) := X13_doCompact E l0 l1 σ
set_option maxRecDepth 100000 in
theorem X13_doCompact_M (l : Launch) (E : gE) (D : va_G) (A : Nat → Prop) {l0 : Nat} {l1 : Int32} {σ : gS} {res : (Int32 × gS)} (hf : X13_doCompact_f E l0 l1 σ = some res) : gCI l E D A yX13_doCompact cX13_doCompact 3 4 89 (some FieldType.int) [.ref l0, .int l1] σ res := by
  refine gg_entI (own := RX13) (nm := "doCompact") (ty := FieldType.int) (by decide +kernel) rfl rfl (Nat.le_of_ble_eq_true rfl) rfl ?_
  intro p e R s m args below meth c Q ls hC hw hQ hl
  have hl : lv_has ls 3 [(0, .ref l0), (1, .int l1)] := hl
  exact X13_doCompact_W hC hQ hf hw hl

def X13_compact (E : gE) (l0 : Nat) (l1 : Int32) (σ : gS) : Option (Int32 × gS) :=
  ob (gcl σ l0 11) fun _ =>
  ob (X13_isColumn_f E σ l0 l1) fun x1 =>
  ob (gcl σ l0 11) fun _ =>
  ob (X13_lacks_f E l0 x1 σ) fun x4 =>
  if x4.1 = 0 then
    ob (gcl x4.2 l0 11) fun _ =>
    ob (X13_keep_f E l0 x4.2) fun x7 =>
    ob (gcl x7 l0 11) fun _ =>
    ob (X13_doCompact_f E l0 l1 x7) fun x10 =>
    ob (gcl x10.2 l0 11) fun _ =>
    ob (X13_ends_f E l0 x10.1 x10.2) fun x13 =>
    some (x13.1, x13.2)
  else
    some ((0 : Int32), x4.2)
set_option maxHeartbeats 4000000 in
set_option maxRecDepth 100000 in
theorem X13_compact_W {σ : gS} {l0 : Nat} {l1 : Int32} {res : (Int32 × gS)} {ls : Array Slot} (hC : gC E D A p R s m args meth c cX13_compact 2 RX13 "compact" 6 145) (hQ : gQI E D A p l e R s m args below meth c Q cX13_compact FieldType.int res) (hf : X13_compact E l0 l1 σ = some res) (hw : gW E D A s σ H locs) (hl : lv_has ls 2 [(0, .ref l0), (1, .int l1)]) : W p l e R s m args below meth c H locs cells slots Q (F0 m 0 ls []) := by
  have hC0 := hC
  obtain ⟨hx, hb, hml, hown, hts, -⟩ := hC0
  unfold X13_compact at hf
  refine lv_aload_n hx hb dX13_compact_0 rfl (lv_at hl 0 rfl) ?_
  refine lv_aload_n hx hb dX13_compact_1 rfl (lv_at hl 0 rfl) ?_
  refine lv_iload_n hx hb dX13_compact_2 rfl (lv_at hl 1 rfl) ?_
  obtain ⟨_, h3, hf⟩ := ob_some hf
  obtain ⟨x1, h2, hf⟩ := ob_some hf
  refine gg_cVI (As := [.int l1]) hC hw (X13_isColumn_M l E D A h2) h3 rfl g_ml_X13_112 hd_X13_isColumn (Nat.le_of_ble_eq_true rfl) (Nat.le_of_ble_eq_true rfl) hl.1 rfl (Nat.le_of_ble_eq_true rfl) dX13_compact_3 (fun H locs cells slots hw => ?_)
  obtain ⟨_, h6, hf⟩ := ob_some hf
  obtain ⟨x4, h5, hf⟩ := ob_some hf
  refine gg_cVI (As := [.int x1]) hC hw (X13_lacks_M l E D A h5) h6 rfl g_ml_X13_88 hd_X13_lacks (Nat.le_of_ble_eq_true rfl) (Nat.le_of_ble_eq_true rfl) hl.1 rfl (Nat.le_of_ble_eq_true rfl) dX13_compact_6 (fun H locs cells slots hw => ?_)
  refine lv_if_eq (tgt := 14) hx hb dX13_compact_9 (by decide) (fun c16 => ?_) (fun c16 => ?_)
  · replace hf := (if_pos c16).symm.trans hf
    refine lv_aload_n hx hb dX13_compact_14 rfl (lv_at hl 0 rfl) ?_
    obtain ⟨_, h9, hf⟩ := ob_some hf
    obtain ⟨x7, h8, hf⟩ := ob_some hf
    refine gg_cVV (As := []) hC hw (X13_keep_M l E D A h8) h9 rfl g_ml_X13_253 hd_X13_keep (Nat.le_of_ble_eq_true rfl) (Nat.le_of_ble_eq_true rfl) hl.1 rfl (Nat.le_of_ble_eq_true rfl) dX13_compact_15 (fun H locs cells slots hw => ?_)
    refine lv_aload_n hx hb dX13_compact_18 rfl (lv_at hl 0 rfl) ?_
    refine lv_aload_n hx hb dX13_compact_19 rfl (lv_at hl 0 rfl) ?_
    refine lv_iload_n hx hb dX13_compact_20 rfl (lv_at hl 1 rfl) ?_
    obtain ⟨_, h12, hf⟩ := ob_some hf
    obtain ⟨x10, h11, hf⟩ := ob_some hf
    refine gg_cVI (As := [.int l1]) hC hw (X13_doCompact_M l E D A h11) h12 rfl g_ml_X13_278 hd_X13_doCompact (Nat.le_of_ble_eq_true rfl) (Nat.le_of_ble_eq_true rfl) hl.1 rfl (Nat.le_of_ble_eq_true rfl) dX13_compact_21 (fun H locs cells slots hw => ?_)
    obtain ⟨_, h15, hf⟩ := ob_some hf
    obtain ⟨x13, h14, hf⟩ := ob_some hf
    refine gg_cVI (As := [.int x10.1]) hC hw (X13_ends_M l E D A h14) h15 rfl g_ml_X13_256 hd_X13_ends (Nat.le_of_ble_eq_true rfl) (Nat.le_of_ble_eq_true rfl) hl.1 rfl (Nat.le_of_ble_eq_true rfl) dX13_compact_24 (fun H locs cells slots hw => ?_)
    cases hf
    exact hQ _ _ _ _ _ _ dX13_compact_27 rfl hw
  · replace hf := (if_neg c16).symm.trans hf
    refine lv_iconst (v := 0) hx hb dX13_compact_12 (by decide) ?_
    cases hf
    exact hQ _ _ _ _ _ _ dX13_compact_13 rfl hw

def X13_compact_f (E : gE) (l0 : Nat) (l1 : Int32) (σ : gS) : Option (Int32 × gS) := X13_compact E l0 l1 σ
set_option maxRecDepth 100000 in
theorem X13_compact_M (l : Launch) (E : gE) (D : va_G) (A : Nat → Prop) {l0 : Nat} {l1 : Int32} {σ : gS} {res : (Int32 × gS)} (hf : X13_compact_f E l0 l1 σ = some res) : gCI l E D A yX13_compact cX13_compact 2 6 145 (some FieldType.int) [.ref l0, .int l1] σ res := by
  refine gg_entI (own := RX13) (nm := "compact") (ty := FieldType.int) (by decide +kernel) rfl rfl (Nat.le_of_ble_eq_true rfl) rfl ?_
  intro p e R s m args below meth c Q ls hC hw hQ hl
  have hl : lv_has ls 2 [(0, .ref l0), (1, .int l1)] := hl
  exact X13_compact_W hC hQ hf hw hl

end MM5
