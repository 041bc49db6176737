/-! decompiled: X11_lowerEnd, X11_upperEnd, J5_init_d00df, J5_length_8abf5, J5_getValue_6d5f1, J5_isLatin1_aae02, J6_getChars_ba4f3, J6_stringSize_0f7a4, J6_signum_0f7a4, J0_coder_7d493, J0_isLatin1_aae02, J4_init_da8c8, J4_length_8abf5, J1_canEncode_fc78d, J7_fill_d0a16, J7_copyOf_9075b, J7_copyOf_59c91, J7_checkLength_df160, J7_copyOfRangeByte_39247, J8_newLength_cabcc, J3_checkIndex_8e157, J0_coder_7d493m, J0_isLatin1_aae02m, X1_init, X1_codeAt, X1_clear, X1_reorder, X1_commonest, X1_runsIn, X1_copyFrom, X3_holds, X3_insert, X4_allows, X8_pack, X10_sortBy -/
section MA2
variable {p : Program} {l : Launch} {e : Env} {R : Room} {s : State} {m : MethodId} {args : Array Value} {below : List Frame} {meth : Method} {c : Code} {H : Heap} {locs : List Loc} {cells slots : Nat} {Q : State → Prop} {E : gE} {D : va_G} {A : Nat → Prop}
def X11_lowerEnd (E : gE) (σ : gS) (l0 : Nat) (l1 : Int32) : Option Int32 :=
  ob (gfR σ l0 9 2) fun x1 =>
  ob (gcl σ x1 3) fun _ =>
  ob (X4_columnOf_f E σ x1 l1) fun x3 =>
  ob (gcl σ l0 9) fun _ =>
  ob (X11_dictionary_f E σ l0 x3) fun x6 =>
  ob (gfR σ l0 9 2) fun x9 =>
  ob (gcl σ x9 3) fun _ =>
  ob (X4_valueOf_f E σ x9 l1) fun x11 =>
  ob (gfR σ l0 9 2) fun x14 =>
  ob (gcl σ x14 3) fun _ =>
  ob (X4_directionOf_f E σ x14 l1) fun x16 =>
  if x16 = (-1 : Int32) then
    some (0 : Int32)
  else
    if x16 = (1 : Int32) then
      ob (gcl σ x6 2) fun _ =>
      ob (X3_countBelow_f E σ x6 (x11 + (1 : Int32))) fun x21 =>
      some x21
    else
      ob (gcl σ x6 2) fun _ =>
      ob (X3_countBelow_f E σ x6 x11) fun x24 =>
      some x24
set_option maxHeartbeats 4000000 in
set_option maxRecDepth 100000 in
theorem X11_lowerEnd_W {σ : gS} {l0 : Nat} {l1 : Int32} {res : Int32} {ls : Array Slot} (hC : gC E D A p R s m args meth c cX11_lowerEnd 4 RX11 "lowerEnd" 2 41) (hQ : gQI E D A p l e R s m args below meth c Q cX11_lowerEnd FieldType.int (res, σ)) (hf : X11_lowerEnd E σ l0 l1 = some res) (hw : gW E D A s σ H locs) (hl : lv_has ls 4 [(0, .ref l0), (1, .int l1)]) : W p l e R s m args below meth c H locs cells slots Q (F0 m 0 ls []) := by
  have hC0 := hC
  obtain ⟨hx, hb, hml, hown, hts, -⟩ := hC0
  unfold X11_lowerEnd at hf
  refine lv_aload_n hx hb dX11_lowerEnd_0 rfl (lv_at hl 0 rfl) ?_
  refine lv_aload_n hx hb dX11_lowerEnd_1 rfl (lv_at hl 0 rfl) ?_
  obtain ⟨x1, h2, hf⟩ := ob_some hf
  refine rR_fl_X11_24 hC hw h2 dX11_lowerEnd_2 ?_
  refine lv_iload_n hx hb dX11_lowerEnd_5 rfl (lv_at hl 1 rfl) ?_
  obtain ⟨_, h5, hf⟩ := ob_some hf
  obtain ⟨x3, h4, hf⟩ := ob_some hf
  refine gg_cVI (As := [.int l1]) hC hw (X4_columnOf_M l E D A h4) h5 rfl g_ml_X11_71 hd_X4_columnOf (Nat.le_of_ble_eq_true rfl) (Nat.le_of_ble_eq_true rfl) hl.1 rfl (Nat.le_of_ble_eq_true rfl) dX11_lowerEnd_6 (fun H locs cells slots hw => ?_)
  obtain ⟨_, h8, hf⟩ := ob_some hf
  obtain ⟨x6, h7, hf⟩ := ob_some hf
  refine gg_cVR (As := [.int x3]) hC hw (X11_dictionary_M l E D A h7) h8 rfl g_ml_X11_91 hd_X11_dictionary (Nat.le_of_ble_eq_true rfl) (Nat.le_of_ble_eq_true rfl) hl.1 rfl (Nat.le_of_ble_eq_true rfl) dX11_lowerEnd_9 (fun H locs cells slots hw => ?_)
  refine lv_astore_n (lv' := [(2, .ref x6), (0, .ref l0), (1, .int l1)]) hx hb dX11_lowerEnd_12 rfl hl (by decide) rfl (fun ls hl => ?_)
  refine lv_aload_n hx hb dX11_lowerEnd_13 rfl (lv_at hl 1 rfl) ?_
  obtain ⟨x9, h10, hf⟩ := ob_some hf
  refine rR_fl_X11_24 hC hw h10 dX11_lowerEnd_14 ?_
  refine lv_iload_n hx hb dX11_lowerEnd_17 rfl (lv_at hl 2 rfl) ?_
  obtain ⟨_, h13, hf⟩ := ob_some hf
  obtain ⟨x11, h12, hf⟩ := ob_some hf
  refine gg_cVI (As := [.int l1]) hC hw (X4_valueOf_M l E D A h12) h13 rfl g_ml_X11_94 hd_X4_valueOf (Nat.le_of_ble_eq_true rfl) (Nat.le_of_ble_eq_true rfl) hl.1 rfl (Nat.le_of_ble_eq_true rfl) dX11_lowerEnd_18 (fun H locs cells slots hw => ?_)
  refine lv_istore_n (lv' := [(3, .int x11), (2, .ref x6), (0, .ref l0), (1, .int l1)]) hx hb dX11_lowerEnd_21 rfl hl (by decide) rfl (fun ls hl => ?_)
  refine lv_aload_n hx hb dX11_lowerEnd_22 rfl (lv_at hl 2 rfl) ?_
  obtain ⟨x14, h15, hf⟩ := ob_some hf
  refine rR_fl_X11_24 hC hw h15 dX11_lowerEnd_23 ?_
  refine lv_iload_n hx hb dX11_lowerEnd_26 rfl (lv_at hl 3 rfl) ?_
  obtain ⟨_, h18, hf⟩ := ob_some hf
  obtain ⟨x16, h17, hf⟩ := ob_some hf
  refine gg_cVI (As := [.int l1]) hC hw (X4_directionOf_M l E D A h17) h18 rfl g_ml_X11_97 hd_X4_directionOf (Nat.le_of_ble_eq_true rfl) (Nat.le_of_ble_eq_true rfl) hl.1 rfl (Nat.le_of_ble_eq_true rfl) dX11_lowerEnd_27 (fun H locs cells slots hw => ?_)
  by_cases c19 : x16 = (-1 : Int32)
  · replace hf := (if_pos c19).symm.trans hf
    refine lv_lookup (off := 26) (tgt := 56) hx hb dX11_lowerEnd_30 (by decide) (glkE c19 (by decide)) (by decide) ?_
    refine lv_iconst (v := 0) hx hb dX11_lowerEnd_56 (by decide) ?_
    cases hf
    exact hQ _ _ _ _ _ _ dX11_lowerEnd_57 rfl hw
  · replace hf := (if_neg c19).symm.trans hf
    by_cases c20 : x16 = (1 : Int32)
    · replace hf := (if_pos c20).symm.trans hf
      refine lv_lookup (off := 28) (tgt := 58) hx hb dX11_lowerEnd_30 (by decide) (glk c19 (by decide) (glkE c20 (by decide))) (by decide) ?_
      refine lv_aload_n hx hb dX11_lowerEnd_58 rfl (lv_at hl 1 rfl) ?_
      refine lv_iload_n hx hb dX11_lowerEnd_59 rfl (lv_at hl 0 rfl) ?_
      refine lv_iconst (v := 1) hx hb dX11_lowerEnd_60 (by decide) ?_
      refine lv_iadd hx hb dX11_lowerEnd_61 ?_
      obtain ⟨_, h23, hf⟩ := ob_some hf
      obtain ⟨x21, h22, hf⟩ := ob_some hf
      refine gg_cVI (As := [.int (x11 + (1 : Int32))]) hC hw (X3_countBelow_M l E D A h22) h23 rfl g_ml_X11_100 hd_X3_countBelow (Nat.le_of_ble_eq_true rfl) (Nat.le_of_ble_eq_true rfl) hl.1 rfl (Nat.le_of_ble_eq_true rfl) dX11_lowerEnd_62 (fun H locs cells slots hw => ?_)
      cases hf
      exact hQ _ _ _ _ _ _ dX11_lowerEnd_65 rfl hw
    · replace hf := (if_neg c20).symm.trans hf
      refine lv_lookup (off := 36) (tgt := 66) hx hb dX11_lowerEnd_30 (by decide) (glk c19 (by decide) (glk c20 (by decide) rfl)) (by decide) ?_
      refine lv_aload_n hx hb dX11_lowerEnd_66 rfl (lv_at hl 1 rfl) ?_
      refine lv_iload_n hx hb dX11_lowerEnd_67 rfl (lv_at hl 0 rfl) ?_
      obtain ⟨_, h26, hf⟩ := ob_some hf
      obtain ⟨x24, h25, hf⟩ := ob_some hf
      refine gg_cVI (As := [.int x11]) hC hw (X3_countBelow_M l E D A h25) h26 rfl g_ml_X11_100 hd_X3_countBelow (Nat.le_of_ble_eq_true rfl) (Nat.le_of_ble_eq_true rfl) hl.1 rfl (Nat.le_of_ble_eq_true rfl) dX11_lowerEnd_68 (fun H locs cells slots hw => ?_)
      cases hf
      exact hQ _ _ _ _ _ _ dX11_lowerEnd_71 rfl hw

def X11_lowerEnd_f (E : gE) (σ : gS) (l0 : Nat) (l1 : Int32) : Option Int32 := X11_lowerEnd E σ l0 l1
set_option maxRecDepth 100000 in
theorem X11_lowerEnd_M (l : Launch) (E : gE) (D : va_G) (A : Nat → Prop) {l0 : Nat} {l1 : Int32} {σ : gS} {res : Int32} (hf : X11_lowerEnd_f E σ l0 l1 = some res) : gCI l E D A yX11_lowerEnd cX11_lowerEnd 4 2 41 (some FieldType.int) [.ref l0, .int l1] σ (res, σ) := by
  refine gg_entI (own := RX11) (nm := "lowerEnd") (ty := FieldType.int) (by decide +kernel) rfl rfl (Nat.le_of_ble_eq_true rfl) rfl ?_
  intro p e R s m args below meth c Q ls hC hw hQ hl
  have hl : lv_has ls 4 [(0, .ref l0), (1, .int l1)] := hl
  exact X11_lowerEnd_W hC hQ hf hw hl

def X11_upperEnd (E : gE) (σ : gS) (l0 : Nat) (l1 : Int32) : Option Int32 :=
  ob (gfR σ l0 9 2) fun x1 =>
  ob (gcl σ x1 3) fun _ =>
  ob (X4_columnOf_f E σ x1 l1) fun x3 =>
  ob (gcl σ l0 9) fun _ =>
  ob (X11_dictionary_f E σ l0 x3) fun x6 =>
  ob (gfR σ l0 9 2) fun x9 =>
  ob (gcl σ x9 3) fun _ =>
  ob (X4_valueOf_f E σ x9 l1) fun x11 =>
  ob (gfR σ l0 9 2) fun x14 =>
  ob (gcl σ x14 3) fun _ =>
  ob (X4_directionOf_f E σ x14 l1) fun x16 =>
  if x16 = (-1 : Int32) then
    ob (gcl σ x6 2) fun _ =>
    ob (X3_countBelow_f E σ x6 x11) fun x20 =>
    some x20
  else
    if x16 = (1 : Int32) then
      ob (gcl σ x6 2) fun _ =>
      ob (X3_size_f E σ x6) fun x24 =>
      some x24
    else
      ob (gcl σ x6 2) fun _ =>
      ob (X3_countBelow_f E σ x6 (x11 + (1 : Int32))) fun x27 =>
      some x27
set_option maxHeartbeats 4000000 in
set_option maxRecDepth 100000 in
theorem X11_upperEnd_W {σ : gS} {l0 : Nat} {l1 : Int32} {res : Int32} {ls : Array Slot} (hC : gC E D A p R s m args meth c cX11_upperEnd 4 RX11 "upperEnd" 2 41) (hQ : gQI E D A p l e R s m args below meth c Q cX11_upperEnd FieldType.int (res, σ)) (hf : X11_upperEnd E σ l0 l1 = some res) (hw : gW E D A s σ H locs) (hl : lv_has ls 4 [(0, .ref l0), (1, .int l1)]) : W p l e R s m args below meth c H locs cells slots Q (F0 m 0 ls []) := by
  have hC0 := hC
  obtain ⟨hx, hb, hml, hown, hts, -⟩ := hC0
  unfold X11_upperEnd at hf
  refine lv_aload_n hx hb dX11_upperEnd_0 rfl (lv_at hl 0 rfl) ?_
  refine lv_aload_n hx hb dX11_upperEnd_1 rfl (lv_at hl 0 rfl) ?_
  obtain ⟨x1, h2, hf⟩ := ob_some hf
  refine rR_fl_X11_24 hC hw h2 dX11_upperEnd_2 ?_
  refine lv_iload_n hx hb dX11_upperEnd_5 rfl (lv_at hl 1 rfl) ?_
  obtain ⟨_, h5, hf⟩ := ob_some hf
  obtain ⟨x3, h4, hf⟩ := ob_some hf
  refine gg_cVI (As := [.int l1]) hC hw (X4_columnOf_M l E D A h4) h5 rfl g_ml_X11_71 hd_X4_columnOf (Nat.le_of_ble_eq_true rfl) (Nat.le_of_ble_eq_true rfl) hl.1 rfl (Nat.le_of_ble_eq_true rfl) dX11_upperEnd_6 (fun H locs cells slots hw => ?_)
  obtain ⟨_, h8, hf⟩ := ob_some hf
  obtain ⟨x6, h7, hf⟩ := ob_some hf
  refine gg_cVR (As := [.int x3]) hC hw (X11_dictionary_M l E D A h7) h8 rfl g_ml_X11_91 hd_X11_dictionary (Nat.le_of_ble_eq_true rfl) (Nat.le_of_ble_eq_true rfl) hl.1 rfl (Nat.le_of_ble_eq_true rfl) dX11_upperEnd_9 (fun H locs cells slots hw => ?_)
  refine lv_astore_n (lv' := [(2, .ref x6), (0, .ref l0), (1, .int l1)]) hx hb dX11_upperEnd_12 rfl hl (by decide) rfl (fun ls hl => ?_)
  refine lv_aload_n hx hb dX11_upperEnd_13 rfl (lv_at hl 1 rfl) ?_
  obtain ⟨x9, h10, hf⟩ := ob_some hf
  refine rR_fl_X11_24 hC hw h10 dX11_upperEnd_14 ?_
  refine lv_iload_n hx hb dX11_upperEnd_17 rfl (lv_at hl 2 rfl) ?_
  obtain ⟨_, h13, hf⟩ := ob_some hf
  obtain ⟨x11, h12, hf⟩ := ob_some hf
  refine gg_cVI (As := [.int l1]) hC hw (X4_valueOf_M l E D A h12) h13 rfl g_ml_X11_94 hd_X4_valueOf (Nat.le_of_ble_eq_true rfl) (Nat.le_of_ble_eq_true rfl) hl.1 rfl (Nat.le_of_ble_eq_true rfl) dX11_upperEnd_18 (fun H locs cells slots hw => ?_)
  refine lv_istore_n (lv' := [(3, .int x11), (2, .ref x6), (0, .ref l0), (1, .int l1)]) hx hb dX11_upperEnd_21 rfl hl (by decide) rfl (fun ls hl => ?_)
  refine lv_aload_n hx hb dX11_upperEnd_22 rfl (lv_at hl 2 rfl) ?_
  obtain ⟨x14, h15, hf⟩ := ob_some hf
  refine rR_fl_X11_24 hC hw h15 dX11_upperEnd_23 ?_
  refine lv_iload_n hx hb dX11_upperEnd_26 rfl (lv_at hl 3 rfl) ?_
  obtain ⟨_, h18, hf⟩ := ob_some hf
  obtain ⟨x16, h17, hf⟩ := ob_some hf
  refine gg_cVI (As := [.int l1]) hC hw (X4_directionOf_M l E D A h17) h18 rfl g_ml_X11_97 hd_X4_directionOf (Nat.le_of_ble_eq_true rfl) (Nat.le_of_ble_eq_true rfl) hl.1 rfl (Nat.le_of_ble_eq_true rfl) dX11_upperEnd_27 (fun H locs cells slots hw => ?_)
  by_cases c19 : x16 = (-1 : Int32)
  · replace hf := (if_pos c19).symm.trans hf
    refine lv_lookup (off := 26) (tgt := 56) hx hb dX11_upperEnd_30 (by decide) (glkE c19 (by decide)) (by decide) ?_
    refine lv_aload_n hx hb dX11_upperEnd_56 rfl (lv_at hl 1 rfl) ?_
    refine lv_iload_n hx hb dX11_upperEnd_57 rfl (lv_at hl 0 rfl) ?_
    obtain ⟨_, h22, hf⟩ := ob_some hf
    obtain ⟨x20, h21, hf⟩ := ob_some hf
    refine gg_cVI (As := [.int x11]) hC hw (X3_countBelow_M l E D A h21) h22 rfl g_ml_X11_100 hd_X3_countBelow (Nat.le_of_ble_eq_true rfl) (Nat.le_of_ble_eq_true rfl) hl.1 rfl (Nat.le_of_ble_eq_true rfl) dX11_upperEnd_58 (fun H locs cells slots hw => ?_)
    cases hf
    exact hQ _ _ _ _ _ _ dX11_upperEnd_61 rfl hw
  · replace hf := (if_neg c19).symm.trans hf
    by_cases c23 : x16 = (1 : Int32)
    · replace hf := (if_pos c23).symm.trans hf
      refine lv_lookup (off := 32) (tgt := 62) hx hb dX11_upperEnd_30 (by decide) (glk c19 (by decide) (glkE c23 (by decide))) (by decide) ?_
      refine lv_aload_n hx hb dX11_upperEnd_62 rfl (lv_at hl 1 rfl) ?_
      obtain ⟨_, h26, hf⟩ := ob_some hf
      obtain ⟨x24, h25, hf⟩ := ob_some hf
      refine gg_cVI (As := []) hC hw (X3_size_M l E D A h25) h26 rfl g_ml_X11_105 hd_X3_size (Nat.le_of_ble_eq_true rfl) (Nat.le_of_ble_eq_true rfl) hl.1 rfl (Nat.le_of_ble_eq_true rfl) dX11_upperEnd_63 (fun H locs cells slots hw => ?_)
      cases hf
      exact hQ _ _ _ _ _ _ dX11_upperEnd_66 rfl hw
    · replace hf := (if_neg c23).symm.trans hf
      refine lv_lookup (off := 37) (tgt := 67) hx hb dX11_upperEnd_30 (by decide) (glk c19 (by decide) (glk c23 (by decide) rfl)) (by decide) ?_
      refine lv_aload_n hx hb dX11_upperEnd_67 rfl (lv_at hl 1 rfl) ?_
      refine lv_iload_n hx hb dX11_upperEnd_68 rfl (lv_at hl 0 rfl) ?_
      refine lv_iconst (v := 1) hx hb dX11_upperEnd_69 (by decide) ?_
      refine lv_iadd hx hb dX11_upperEnd_70 ?_
      obtain ⟨_, h29, hf⟩ := ob_some hf
      obtain ⟨x27, h28, hf⟩ := ob_some hf
      refine gg_cVI (As := [.int (x11 + (1 : Int32))]) hC hw (X3_countBelow_M l E D A h28) h29 rfl g_ml_X11_100 hd_X3_countBelow (Nat.le_of_ble_eq_true rfl) (Nat.le_of_ble_eq_true rfl) hl.1 rfl (Nat.le_of_ble_eq_true rfl) dX11_upperEnd_71 (fun H locs cells slots hw => ?_)
      cases hf
      exact hQ _ _ _ _ _ _ dX11_upperEnd_74 rfl hw

def X11_upperEnd_f (E : gE) (σ : gS) (l0 : Nat) (l1 : Int32) : Option Int32 := X11_upperEnd E σ l0 l1
set_option maxRecDepth 100000 in
theorem X11_upperEnd_M (l : Launch) (E : gE) (D : va_G) (A : Nat → Prop) {l0 : Nat} {l1 : Int32} {σ : gS} {res : Int32} (hf : X11_upperEnd_f E σ l0 l1 = some res) : gCI l E D A yX11_upperEnd cX11_upperEnd 4 2 41 (some FieldType.int) [.ref l0, .int l1] σ (res, σ) := by
  refine gg_entI (own := RX11) (nm := "upperEnd") (ty := FieldType.int) (by decide +kernel) rfl rfl (Nat.le_of_ble_eq_true rfl) rfl ?_
  intro p e R s m args below meth c Q ls hC hw hQ hl
  have hl : lv_has ls 4 [(0, .ref l0), (1, .int l1)] := hl
  exact X11_upperEnd_W hC hQ hf hw hl

def J5_init_d00df (E : gE) (l0 : Nat) (l1 : Int32) (σ : gS) : Option gS :=
  if (1 : Int32) = 0 then
    none
  else
    ob (gnaB E σ l1) fun q3 =>
    ob (gpf E q3.2 l0 11 0 (.ref q3.1)) fun σ5 =>
    ob (gpf E σ5 l0 11 1 (.int (0 : Int32))) fun σ7 =>
    some σ7
set_option maxHeartbeats 4000000 in
set_option maxRecDepth 100000 in
theorem J5_init_d00df_W {σ : gS} {l0 : Nat} {l1 : Int32} {σz : gS} {ls : Array Slot} (hC : gC E D A p R s m args meth c cJ5_init_d00df 2 RJ5 "<init>" 3 80) (hQ : gQV E D A p l e R s m args below meth c Q cJ5_init_d00df σz) (hf : J5_init_d00df E l0 l1 σ = some σz) (hw : gW E D A s σ H locs) (hl : lv_has ls 2 [(0, .ref l0), (1, .int l1)]) : W p l e R s m args below meth c H locs cells slots Q (F0 m 0 ls []) := by
  have hC0 := hC
  obtain ⟨hx, hb, hml, hown, hts, -⟩ := hC0
  unfold J5_init_d00df at hf
  refine lv_aload_n hx hb dJ5_init_d00df_0 rfl (lv_at hl 0 rfl) ?_
  refine gg_obj hC rfl (hts _ ml_J5_3) hl.1 (Nat.le_of_ble_eq_true rfl) dJ5_init_d00df_1 (Nat.le_of_ble_eq_true rfl) (Nat.le_of_ble_eq_true rfl) ?_
  refine gg_gets hC hw (k := 2) rfl fl_J5_18 dJ5_init_d00df_4 ?_
  refine lv_if_eq (tgt := 25) hx hb dJ5_init_d00df_7 (by decide) (fun c9 => ?_) (fun c9 => ?_)
  · replace hf := (if_pos c9).symm.trans hf
    refine lv_aload_n hx hb dJ5_init_d00df_25 rfl (lv_at hl 0 rfl) ?_
    refine lv_iload_n hx hb dJ5_init_d00df_26 rfl (lv_at hl 1 rfl) ?_
    cases hf
  · replace hf := (if_neg c9).symm.trans hf
    refine lv_aload_n hx hb dJ5_init_d00df_10 rfl (lv_at hl 0 rfl) ?_
    refine lv_iload_n hx hb dJ5_init_d00df_11 rfl (lv_at hl 1 rfl) ?_
    obtain ⟨q3, h4, hf⟩ := ob_some hf
    refine gg_naB hC hw h4 dJ5_init_d00df_12 (fun H locs cells slots hw => ?_)
    obtain ⟨σ5, h6, hf⟩ := ob_some hf
    refine p_fl_J5_15 hC hw h6 rfl rfl dJ5_init_d00df_14 (fun H locs hw => ?_)
    refine lv_aload_n hx hb dJ5_init_d00df_17 rfl (lv_at hl 0 rfl) ?_
    refine lv_iconst (v := 0) hx hb dJ5_init_d00df_18 (by decide) ?_
    obtain ⟨σ7, h8, hf⟩ := ob_some hf
    refine p_fl_J5_22 hC hw h8 rfl rfl dJ5_init_d00df_19 (fun H locs hw => ?_)
    refine lv_goto (tgt := 38) hx hb dJ5_init_d00df_22 (by decide) ?_
    cases hf
    exact hQ _ _ _ _ _ _ dJ5_init_d00df_38 hw

def J5_init_d00df_f (E : gE) (l0 : Nat) (l1 : Int32) (σ : gS) : Option gS := J5_init_d00df E l0 l1 σ
set_option maxRecDepth 100000 in
theorem J5_init_d00df_M (l : Launch) (E : gE) (D : va_G) (A : Nat → Prop) {l0 : Nat} {l1 : Int32} {σ : gS} {σz : gS} (hf : J5_init_d00df_f E l0 l1 σ = some σz) : gCV l E D A yJ5_init_d00df cJ5_init_d00df 2 3 80 none [.ref l0, .int l1] σ σz := by
  refine gg_entV (own := RJ5) (nm := "<init>") (by decide +kernel) rfl rfl (Nat.le_of_ble_eq_true rfl) rfl ?_
  intro p e R s m args below meth c Q ls hC hw hQ hl
  have hl : lv_has ls 2 [(0, .ref l0), (1, .int l1)] := hl
  exact J5_init_d00df_W hC hQ hf hw hl

def J5_length_8abf5 (E : gE) (σ : gS) (l0 : Nat) : Option Int32 :=
  ob (gfI σ l0 11 3) fun x1 =>
  some x1
set_option maxHeartbeats 4000000 in
set_option maxRecDepth 100000 in
theorem J5_length_8abf5_W {σ : gS} {l0 : Nat} {res : Int32} {ls : Array Slot} (hC : gC E D A p R s m args meth c cJ5_length_8abf5 1 RJ5 "length" 0 0) (hQ : gQI E D A p l e R s m args below meth c Q cJ5_length_8abf5 FieldType.int (res, σ)) (hf : J5_length_8abf5 E σ l0 = some res) (hw : gW E D A s σ H locs) (hl : lv_has ls 1 [(0, .ref l0)]) : W p l e R s m args below meth c H locs cells slots Q (F0 m 0 ls []) := by
  have hC0 := hC
  obtain ⟨hx, hb, hml, hown, hts, -⟩ := hC0
  unfold J5_length_8abf5 at hf
  refine lv_aload_n hx hb dJ5_length_8abf5_0 rfl (lv_at hl 0 rfl) ?_
  obtain ⟨x1, h2, hf⟩ := ob_some hf
  refine rI_fl_J5_79 hC hw h2 dJ5_length_8abf5_1 ?_
  cases hf
  exact hQ _ _ _ _ _ _ dJ5_length_8abf5_4 rfl hw

def J5_length_8abf5_f (E : gE) (σ : gS) (l0 : Nat) : Option Int32 := J5_length_8abf5 E σ l0
set_option maxRecDepth 100000 in
theorem J5_length_8abf5_M (l : Launch) (E : gE) (D : va_G) (A : Nat → Prop) {l0 : Nat} {σ : gS} {res : Int32} (hf : J5_length_8abf5_f E σ l0 = some res) : gCI l E D A yJ5_length_8abf5 cJ5_length_8abf5 1 0 0 (some FieldType.int) [.ref l0] σ (res, σ) := by
  refine gg_entI (own := RJ5) (nm := "length") (ty := FieldType.int) (by decide +kernel) rfl rfl (Nat.le_of_ble_eq_true rfl) rfl ?_
  intro p e R s m args below meth c Q ls hC hw hQ hl
  have hl : lv_has ls 1 [(0, .ref l0)] := hl
  exact J5_length_8abf5_W hC hQ hf hw hl

def J5_getValue_6d5f1 (E : gE) (σ : gS) (l0 : Nat) : Option Nat :=
  ob (gfR σ l0 11 0) fun x1 =>
  some x1
set_option maxHeartbeats 4000000 in
set_option maxRecDepth 100000 in
theorem J5_getValue_6d5f1_W {σ : gS} {l0 : Nat} {res : Nat} {ls : Array Slot} (hC : gC E D A p R s m args meth c cJ5_getValue_6d5f1 1 RJ5 "getValue" 0 0) (hQ : gQR E D A p l e R s m args below meth c Q cJ5_getValue_6d5f1 (res, σ)) (hf : J5_getValue_6d5f1 E σ l0 = some res) (hw : gW E D A s σ H locs) (hl : lv_has ls 1 [(0, .ref l0)]) : W p l e R s m args below meth c H locs cells slots Q (F0 m 0 ls []) := by
  have hC0 := hC
  obtain ⟨hx, hb, hml, hown, hts, -⟩ := hC0
  unfold J5_getValue_6d5f1 at hf
  refine lv_aload_n hx hb dJ5_getValue_6d5f1_0 rfl (lv_at hl 0 rfl) ?_
  obtain ⟨x1, h2, hf⟩ := ob_some hf
  refine rR_fl_J5_15 hC hw h2 dJ5_getValue_6d5f1_1 ?_
  cases hf
  exact hQ _ _ _ _ _ _ dJ5_getValue_6d5f1_4 hw

def J5_getValue_6d5f1_f (E : gE) (σ : gS) (l0 : Nat) : Option Nat := J5_getValue_6d5f1 E σ l0
set_option maxRecDepth 100000 in
theorem J5_getValue_6d5f1_M (l : Launch) (E : gE) (D : va_G) (A : Nat → Prop) {l0 : Nat} {σ : gS} {res : Nat} (hf : J5_getValue_6d5f1_f E σ l0 = some res) : gCR l E D A yJ5_getValue_6d5f1 cJ5_getValue_6d5f1 1 0 0 (some (FieldType.array FieldType.byte)) [.ref l0] σ (res, σ) := by
  refine gg_entR (own := RJ5) (nm := "getValue") (ty := ((FieldType.array FieldType.byte))) (by decide +kernel) rfl rfl (Nat.le_of_ble_eq_true rfl) rfl (by first | exact Or.inl ⟨_, rfl⟩ | exact Or.inr ⟨_, rfl⟩) ?_
  intro p e R s m args below meth c Q ls hC hw hQ hl
  have hl : lv_has ls 1 [(0, .ref l0)] := hl
  exact J5_getValue_6d5f1_W hC hQ hf hw hl

def J5_isLatin1_aae02_17 (E : gE) (σ : gS) : Option Int32 :=
  some (0 : Int32)
set_option maxHeartbeats 4000000 in
set_option maxRecDepth 100000 in
theorem J5_isLatin1_aae02_17_W {σ : gS} {res : Int32} {ls : Array Slot} (hC : gC E D A p R s m args meth c cJ5_isLatin1_aae02 1 RJ5 "isLatin1" 0 0) (hQ : gQI E D A p l e R s m args below meth c Q cJ5_isLatin1_aae02 FieldType.boolean (res, σ)) (hf : J5_isLatin1_aae02_17 E σ = some res) (hw : gW E D A s σ H locs) (hl : lv_has ls 1 []) : W p l e R s m args below meth c H locs cells slots Q (F0 m 17 ls []) := by
  have hC0 := hC
  obtain ⟨hx, hb, hml, hown, hts, -⟩ := hC0
  unfold J5_isLatin1_aae02_17 at hf
  refine lv_iconst (v := 0) hx hb dJ5_isLatin1_aae02_17 (by decide) ?_
  cases hf
  exact hQ _ _ _ _ _ _ dJ5_isLatin1_aae02_18 gz0 hw

def J5_isLatin1_aae02 (E : gE) (σ : gS) (l0 : Nat) : Option Int32 :=
  if (1 : Int32) = 0 then
    J5_isLatin1_aae02_17 E σ
  else
    ob (gfI σ l0 11 1) fun x1 =>
    if x1 = 0 then
      some (1 : Int32)
    else
      J5_isLatin1_aae02_17 E σ
set_option maxHeartbeats 4000000 in
set_option maxRecDepth 100000 in
theorem J5_isLatin1_aae02_W {σ : gS} {l0 : Nat} {res : Int32} {ls : Array Slot} (hC : gC E D A p R s m args meth c cJ5_isLatin1_aae02 1 RJ5 "isLatin1" 0 0) (hQ : gQI E D A p l e R s m args below meth c Q cJ5_isLatin1_aae02 FieldType.boolean (res, σ)) (hf : J5_isLatin1_aae02 E σ l0 = some res) (hw : gW E D A s σ H locs) (hl : lv_has ls 1 [(0, .ref l0)]) : W p l e R s m args below meth c H locs cells slots Q (F0 m 0 ls []) := by
  have hC0 := hC
  obtain ⟨hx, hb, hml, hown, hts, -⟩ := hC0
  unfold J5_isLatin1_aae02 at hf
  refine gg_gets hC hw (k := 2) rfl fl_J5_18 dJ5_isLatin1_aae02_0 ?_
  refine lv_if_eq (tgt := 17) hx hb dJ5_isLatin1_aae02_3 (by decide) (fun c4 => ?_) (fun c4 => ?_)
  · replace hf := (if_pos c4).symm.trans hf
    exact J5_isLatin1_aae02_17_W hC hQ hf hw (lv_sub hl [] rfl)
  · replace hf := (if_neg c4).symm.trans hf
    refine lv_aload_n hx hb dJ5_isLatin1_aae02_6 rfl (lv_at hl 0 rfl) ?_
    obtain ⟨x1, h2, hf⟩ := ob_some hf
    refine rI_fl_J5_22 hC hw h2 dJ5_isLatin1_aae02_7 ?_
    refine lv_if_ne (tgt := 17) hx hb dJ5_isLatin1_aae02_10 (by decide) (fun c3 => ?_) (fun c3 => ?_)
    · replace hf := (if_neg c3).symm.trans hf
      exact J5_isLatin1_aae02_17_W hC hQ hf hw (lv_sub hl [] rfl)
    · replace hf := (if_pos c3).symm.trans hf
      refine lv_iconst (v := 1) hx hb dJ5_isLatin1_aae02_13 (by decide) ?_
      refine lv_goto (tgt := 18) hx hb dJ5_isLatin1_aae02_14 (by decide) ?_
      cases hf
      exact hQ _ _ _ _ _ _ dJ5_isLatin1_aae02_18 gz1 hw

def J5_isLatin1_aae02_f (E : gE) (σ : gS) (l0 : Nat) : Option Int32 := J5_isLatin1_aae02 E σ l0
set_option maxRecDepth 100000 in
theorem J5_isLatin1_aae02_M (l : Launch) (E : gE) (D : va_G) (A : Nat → Prop) {l0 : Nat} {σ : gS} {res : Int32} (hf : J5_isLatin1_aae02_f E σ l0 = some res) : gCI l E D A yJ5_isLatin1_aae02 cJ5_isLatin1_aae02 1 0 0 (some FieldType.boolean) [.ref l0] σ (res, σ) := by
  refine gg_entI (own := RJ5) (nm := "isLatin1") (ty := FieldType.boolean) (by decide +kernel) rfl rfl (Nat.le_of_ble_eq_true rfl) rfl ?_
  intro p e R s m args below meth c Q ls hC hw hQ hl
  have hl : lv_has ls 1 [(0, .ref l0)] := hl
  exact J5_isLatin1_aae02_W hC hQ hf hw hl

def J6_getChars_ba4f3_118 (E : gE) (l5 : Int32) (σ : gS) : Option (Int32 × gS) :=
  some (l5, σ)
set_option maxHeartbeats 4000000 in
set_option maxRecDepth 100000 in
theorem J6_getChars_ba4f3_118_W {σ : gS} {l5 : Int32} {res : (Int32 × gS)} {ls : Array Slot} (hC : gC E D A p R s m args meth c cJ6_getChars_ba4f3 7 RJ6 "getChars" 0 0) (hQ : gQI E D A p l e R s m args below meth c Q cJ6_getChars_ba4f3 FieldType.int res) (hf : J6_getChars_ba4f3_118 E l5 σ = some res) (hw : gW E D A s σ H locs) (hl : lv_has ls 7 [(5, .int l5)]) : W p l e R s m args below meth c H locs cells slots Q (F0 m 118 ls []) := by
  have hC0 := hC
  obtain ⟨hx, hb, hml, hown, hts, -⟩ := hC0
  unfold J6_getChars_ba4f3_118 at hf
  refine lv_iload hx hb dJ6_getChars_ba4f3_118 (lv_at hl 0 rfl) ?_
  cases hf
  exact hQ _ _ _ _ _ _ dJ6_getChars_ba4f3_120 rfl hw

def J6_getChars_ba4f3_104 (E : gE) (l2 : Nat) (l5 : Int32) (l6 : Int32) (σ : gS) : Option (Int32 × gS) :=
  if l6 = 0 then
    J6_getChars_ba4f3_118 E l5 σ
  else
    ob (gwaB E σ l2 (l5 + -1) (45 : Int32)) fun σ1 =>
    J6_getChars_ba4f3_118 E (l5 + -1) σ1
set_option maxHeartbeats 4000000 in
set_option maxRecDepth 100000 in
theorem J6_getChars_ba4f3_104_W {σ : gS} {l2 : Nat} {l5 : Int32} {l6 : Int32} {res : (Int32 × gS)} {ls : Array Slot} (hC : gC E D A p R s m args meth c cJ6_getChars_ba4f3 7 RJ6 "getChars" 0 0) (hQ : gQI E D A p l e R s m args below meth c Q cJ6_getChars_ba4f3 FieldType.int res) (hf : J6_getChars_ba4f3_104 E l2 l5 l6 σ = some res) (hw : gW E D A s σ H locs) (hl : lv_has ls 7 [(2, .ref l2), (5, .int l5), (6, .int l6)]) : W p l e R s m args below meth c H locs cells slots Q (F0 m 104 ls []) := by
  have hC0 := hC
  obtain ⟨hx, hb, hml, hown, hts, -⟩ := hC0
  unfold J6_getChars_ba4f3_104 at hf
  refine lv_iload hx hb dJ6_getChars_ba4f3_104 (lv_at hl 2 rfl) ?_
  refine lv_if_eq (tgt := 118) hx hb dJ6_getChars_ba4f3_106 (by decide) (fun c3 => ?_) (fun c3 => ?_)
  · replace hf := (if_pos c3).symm.trans hf
    exact J6_getChars_ba4f3_118_W hC hQ hf hw (lv_sub hl [1] rfl)
  · replace hf := (if_neg c3).symm.trans hf
    refine lv_aload_n hx hb dJ6_getChars_ba4f3_109 rfl (lv_at hl 0 rfl) ?_
    refine lv_iinc (v := (l5 + -1)) (lv' := [(5, .int (l5 + -1)), (2, .ref l2), (6, .int l6)]) hx hb dJ6_getChars_ba4f3_110 hl (k := 1) rfl rfl (by decide) rfl (fun ls hl => ?_)
    refine lv_iload hx hb dJ6_getChars_ba4f3_113 (lv_at hl 0 rfl) ?_
    refine lv_bipush (v := 45) hx hb dJ6_getChars_ba4f3_115 (by decide) ?_
    obtain ⟨σ1, h2, hf⟩ := ob_some hf
    refine gg_astB hC hw h2 dJ6_getChars_ba4f3_117 (fun H locs hw => ?_)
    exact J6_getChars_ba4f3_118_W hC hQ hf hw (lv_sub hl [0] rfl)

def J6_getChars_ba4f3_22_s (E : gE) (r_22 : Int32 → Nat → Int32 → Int32 → gS → Option (Int32 × gS)) (l0 : Int32) (l2 : Nat) (l5 : Int32) (l6 : Int32) (σ : gS) : Option (Int32 × gS) :=
  if (-100 : Int32) < l0 then
    ob (graI E 1 σ (gst E 43) (-l0)) fun x4 =>
    ob (gwaB E σ l2 (l5 + -1) x4) fun σ6 =>
    if (-9 : Int32) ≤ l0 then
      J6_getChars_ba4f3_104 E l2 (l5 + -1) l6 σ6
    else
      ob (graI E 1 σ6 (gst E 44) (-l0)) fun x8 =>
      ob (gwaB E σ6 l2 ((l5 + -1) + -1) x8) fun σ10 =>
      J6_getChars_ba4f3_104 E l2 ((l5 + -1) + -1) l6 σ10
  else
    ob (graI E 1 σ (gst E 43) (((l0 / (100 : Int32)) * (100 : Int32)) - l0)) fun x13 =>
    ob (gwaB E σ l2 (l5 + -1) x13) fun σ15 =>
    ob (graI E 1 σ15 (gst E 44) (((l0 / (100 : Int32)) * (100 : Int32)) - l0)) fun x17 =>
    ob (gwaB E σ15 l2 ((l5 + -1) + -1) x17) fun σ19 =>
    r_22 (l0 / (100 : Int32)) l2 ((l5 + -1) + -1) l6 σ19
set_option maxHeartbeats 4000000 in
set_option maxRecDepth 100000 in
theorem J6_getChars_ba4f3_22_s_W {σ : gS} {l0 : Int32} {l2 : Nat} {l5 : Int32} {l6 : Int32} {res : (Int32 × gS)} {ls : Array Slot} (hC : gC E D A p R s m args meth c cJ6_getChars_ba4f3 7 RJ6 "getChars" 0 0) (hQ : gQI E D A p l e R s m args below meth c Q cJ6_getChars_ba4f3 FieldType.int res) {r_22 : Int32 → Nat → Int32 → Int32 → gS → Option (Int32 × gS)} (h_22 : ∀ {l0 : Int32} {l2 : Nat} {l5 : Int32} {l6 : Int32} {σ : gS} {H : Heap} {locs : List Loc} {cells slots : Nat} {ls : Array Slot}, r_22 l0 l2 l5 l6 σ = some res → gW E D A s σ H locs → lv_has ls 7 [(0, .int l0), (2, .ref l2), (5, .int l5), (6, .int l6)] → W p l e R s m args below meth c H locs cells slots Q (F0 m 22 ls [])) (hf : J6_getChars_ba4f3_22_s E r_22 l0 l2 l5 l6 σ = some res) (hw : gW E D A s σ H locs) (hl : lv_has ls 7 [(0, .int l0), (2, .ref l2), (5, .int l5), (6, .int l6)]) : W p l e R s m args below meth c H locs cells slots Q (F0 m 22 ls []) := by
  have hC0 := hC
  obtain ⟨hx, hb, hml, hown, hts, -⟩ := hC0
  unfold J6_getChars_ba4f3_22_s at hf
  refine lv_iload_n hx hb dJ6_getChars_ba4f3_22 rfl (lv_at hl 0 rfl) ?_
  refine lv_bipush (v := -100) hx hb dJ6_getChars_ba4f3_23 (by decide) ?_
  refine lv_icmp_gt (tgt := 72) hx hb dJ6_getChars_ba4f3_25 (by decide) (fun c21 => ?_) (fun c21 => ?_)
  · replace hf := (if_pos c21).symm.trans hf
    refine lv_aload_n hx hb dJ6_getChars_ba4f3_72 rfl (lv_at hl 1 rfl) ?_
    refine lv_iinc (v := (l5 + -1)) (lv' := [(5, .int (l5 + -1)), (0, .int l0), (2, .ref l2), (6, .int l6)]) hx hb dJ6_getChars_ba4f3_73 hl (k := 2) rfl rfl (by decide) rfl (fun ls hl => ?_)
    refine lv_iload hx hb dJ6_getChars_ba4f3_76 (lv_at hl 0 rfl) ?_
    refine gg_gets hC hw (k := 4) rfl fl_J6_83 dJ6_getChars_ba4f3_78 ?_
    refine lv_iload_n hx hb dJ6_getChars_ba4f3_81 rfl (lv_at hl 1 rfl) ?_
    refine lv_ineg hx hb dJ6_getChars_ba4f3_82 ?_
    obtain ⟨x4, h5, hf⟩ := ob_some hf
    refine gg_aldB hC hw h5 dJ6_getChars_ba4f3_83 ?_
    obtain ⟨σ6, h7, hf⟩ := ob_some hf
    refine gg_astB hC hw h7 dJ6_getChars_ba4f3_84 (fun H locs hw => ?_)
    refine lv_iload_n hx hb dJ6_getChars_ba4f3_85 rfl (lv_at hl 1 rfl) ?_
    refine lv_bipush (v := -9) hx hb dJ6_getChars_ba4f3_86 (by decide) ?_
    refine lv_icmp_ge (tgt := 104) hx hb dJ6_getChars_ba4f3_88 (by decide) (fun c12 => ?_) (fun c12 => ?_)
    · replace hf := (if_pos c12).symm.trans hf
      exact J6_getChars_ba4f3_104_W hC hQ hf hw (lv_sub hl [2, 0, 3] rfl)
    · replace hf := (if_neg c12).symm.trans hf
      refine lv_aload_n hx hb dJ6_getChars_ba4f3_91 rfl (lv_at hl 2 rfl) ?_
      refine lv_iinc (v := ((l5 + -1) + -1)) (lv' := [(5, .int ((l5 + -1) + -1)), (0, .int l0), (2, .ref l2), (6, .int l6)]) hx hb dJ6_getChars_ba4f3_92 hl (k := 0) rfl rfl (by decide) rfl (fun ls hl => ?_)
      refine lv_iload hx hb dJ6_getChars_ba4f3_95 (lv_at hl 0 rfl) ?_
      refine gg_gets hC hw (k := 5) rfl fl_J6_87 dJ6_getChars_ba4f3_97 ?_
      refine lv_iload_n hx hb dJ6_getChars_ba4f3_100 rfl (lv_at hl 1 rfl) ?_
      refine lv_ineg hx hb dJ6_getChars_ba4f3_101 ?_
      obtain ⟨x8, h9, hf⟩ := ob_some hf
      refine gg_aldB hC hw h9 dJ6_getChars_ba4f3_102 ?_
      obtain ⟨σ10, h11, hf⟩ := ob_some hf
      refine gg_astB hC hw h11 dJ6_getChars_ba4f3_103 (fun H locs hw => ?_)
      exact J6_getChars_ba4f3_104_W hC hQ hf hw (lv_sub hl [2, 0, 3] rfl)
  · replace hf := (if_neg c21).symm.trans hf
    refine lv_iload_n hx hb dJ6_getChars_ba4f3_28 rfl (lv_at hl 0 rfl) ?_
    refine lv_bipush (v := 100) hx hb dJ6_getChars_ba4f3_29 (by decide) ?_
    refine lv_idiv hx hb dJ6_getChars_ba4f3_31 (by decide) ?_
    refine lv_istore_n (lv' := [(3, .int (l0 / (100 : Int32))), (0, .int l0), (2, .ref l2), (5, .int l5), (6, .int l6)]) hx hb dJ6_getChars_ba4f3_32 rfl hl (by decide) rfl (fun ls hl => ?_)
    refine lv_iload_n hx hb dJ6_getChars_ba4f3_33 rfl (lv_at hl 0 rfl) ?_
    refine lv_bipush (v := 100) hx hb dJ6_getChars_ba4f3_34 (by decide) ?_
    refine lv_imul hx hb dJ6_getChars_ba4f3_36 ?_
    refine lv_iload_n hx hb dJ6_getChars_ba4f3_37 rfl (lv_at hl 1 rfl) ?_
    refine lv_isub hx hb dJ6_getChars_ba4f3_38 ?_
    refine lv_istore (lv' := [(4, .int (((l0 / (100 : Int32)) * (100 : Int32)) - l0)), (3, .int (l0 / (100 : Int32))), (0, .int l0), (2, .ref l2), (5, .int l5), (6, .int l6)]) hx hb dJ6_getChars_ba4f3_39 hl (by decide) rfl (fun ls hl => ?_)
    refine lv_iload_n hx hb dJ6_getChars_ba4f3_41 rfl (lv_at hl 1 rfl) ?_
    refine lv_istore_n (lv' := [(0, .int (l0 / (100 : Int32))), (4, .int (((l0 / (100 : Int32)) * (100 : Int32)) - l0)), (3, .int (l0 / (100 : Int32))), (2, .ref l2), (5, .int l5), (6, .int l6)]) hx hb dJ6_getChars_ba4f3_42 rfl hl (by decide) rfl (fun ls hl => ?_)
    refine lv_aload_n hx hb dJ6_getChars_ba4f3_43 rfl (lv_at hl 3 rfl) ?_
    refine lv_iinc (v := (l5 + -1)) (lv' := [(5, .int (l5 + -1)), (0, .int (l0 / (100 : Int32))), (4, .int (((l0 / (100 : Int32)) * (100 : Int32)) - l0)), (3, .int (l0 / (100 : Int32))), (2, .ref l2), (6, .int l6)]) hx hb dJ6_getChars_ba4f3_44 hl (k := 4) rfl rfl (by decide) rfl (fun ls hl => ?_)
    refine lv_iload hx hb dJ6_getChars_ba4f3_47 (lv_at hl 0 rfl) ?_
    refine gg_gets hC hw (k := 4) rfl fl_J6_83 dJ6_getChars_ba4f3_49 ?_
    refine lv_iload hx hb dJ6_getChars_ba4f3_52 (lv_at hl 2 rfl) ?_
    obtain ⟨x13, h14, hf⟩ := ob_some hf
    refine gg_aldB hC hw h14 dJ6_getChars_ba4f3_54 ?_
    obtain ⟨σ15, h16, hf⟩ := ob_some hf
    refine gg_astB hC hw h16 dJ6_getChars_ba4f3_55 (fun H locs hw => ?_)
    refine lv_aload_n hx hb dJ6_getChars_ba4f3_56 rfl (lv_at hl 4 rfl) ?_
    refine lv_iinc (v := ((l5 + -1) + -1)) (lv' := [(5, .int ((l5 + -1) + -1)), (0, .int (l0 / (100 : Int32))), (4, .int (((l0 / (100 : Int32)) * (100 : Int32)) - l0)), (3, .int (l0 / (100 : Int32))), (2, .ref l2), (6, .int l6)]) hx hb dJ6_getChars_ba4f3_57 hl (k := 0) rfl rfl (by decide) rfl (fun ls hl => ?_)
    refine lv_iload hx hb dJ6_getChars_ba4f3_60 (lv_at hl 0 rfl) ?_
    refine gg_gets hC hw (k := 5) rfl fl_J6_87 dJ6_getChars_ba4f3_62 ?_
    refine lv_iload hx hb dJ6_getChars_ba4f3_65 (lv_at hl 2 rfl) ?_
    obtain ⟨x17, h18, hf⟩ := ob_some hf
    refine gg_aldB hC hw h18 dJ6_getChars_ba4f3_67 ?_
    obtain ⟨σ19, h20, hf⟩ := ob_some hf
    refine gg_astB hC hw h20 dJ6_getChars_ba4f3_68 (fun H locs hw => ?_)
    refine lv_goto (tgt := 22) hx hb dJ6_getChars_ba4f3_69 (by decide) ?_
    exact h_22 hf hw (lv_sub hl [1, 4, 0, 5] rfl)
def J6_getChars_ba4f3_22 (E : gE) : Nat → Int32 → Nat → Int32 → Int32 → gS → Option (Int32 × gS)
  | 0 => fun _ _ _ _ _ => none
  | n + 1 => J6_getChars_ba4f3_22_s E (J6_getChars_ba4f3_22 E n)
theorem J6_getChars_ba4f3_22_W {res : (Int32 × gS)} (hC : gC E D A p R s m args meth c cJ6_getChars_ba4f3 7 RJ6 "getChars" 0 0) (hQ : gQI E D A p l e R s m args below meth c Q cJ6_getChars_ba4f3 FieldType.int res) : ∀ (n : Nat), ∀ {l0 : Int32} {l2 : Nat} {l5 : Int32} {l6 : Int32} {σ : gS} {H : Heap} {locs : List Loc} {cells slots : Nat} {ls : Array Slot}, J6_getChars_ba4f3_22 E n l0 l2 l5 l6 σ = some res → gW E D A s σ H locs → lv_has ls 7 [(0, .int l0), (2, .ref l2), (5, .int l5), (6, .int l6)] → W p l e R s m args below meth c H locs cells slots Q (F0 m 22 ls []) := by
  intro n
  induction n with
  | zero =>
    intros
    rename_i hf _ _
    exact absurd hf (fun h => by cases (show (none : Option (Int32 × gS)) = some res from h))
  | succ n ih =>
    intros
    rename_i hf hw hl
    exact J6_getChars_ba4f3_22_s_W hC hQ ih hf hw hl

def J6_getChars_ba4f3_12 (E : gE) (l0 : Int32) (l2 : Nat) (l5 : Int32) (s0 : Int32) (σ : gS) : Option (Int32 × gS) :=
  if s0 = 0 then
    J6_getChars_ba4f3_22 E (gN E) (-l0) l2 l5 s0 σ
  else
    J6_getChars_ba4f3_22 E (gN E) l0 l2 l5 s0 σ
set_option maxHeartbeats 4000000 in
set_option maxRecDepth 100000 in
theorem J6_getChars_ba4f3_12_W {σ : gS} {l0 : Int32} {l2 : Nat} {l5 : Int32} {s0 : Int32} {res : (Int32 × gS)} {ls : Array Slot} (hC : gC E D A p R s m args meth c cJ6_getChars_ba4f3 7 RJ6 "getChars" 0 0) (hQ : gQI E D A p l e R s m args below meth c Q cJ6_getChars_ba4f3 FieldType.int res) (hf : J6_getChars_ba4f3_12 E l0 l2 l5 s0 σ = some res) (hw : gW E D A s σ H locs) (hl : lv_has ls 7 [(0, .int l0), (2, .ref l2), (5, .int l5)]) : W p l e R s m args below meth c H locs cells slots Q (F0 m 12 ls [.int s0]) := by
  have hC0 := hC
  obtain ⟨hx, hb, hml, hown, hts, -⟩ := hC0
  unfold J6_getChars_ba4f3_12 at hf
  refine lv_istore (lv' := [(6, .int s0), (0, .int l0), (2, .ref l2), (5, .int l5)]) hx hb dJ6_getChars_ba4f3_12 hl (by decide) rfl (fun ls hl => ?_)
  refine lv_iload hx hb dJ6_getChars_ba4f3_14 (lv_at hl 0 rfl) ?_
  refine lv_if_ne (tgt := 22) hx hb dJ6_getChars_ba4f3_16 (by decide) (fun c22 => ?_) (fun c22 => ?_)
  · replace hf := (if_neg c22).symm.trans hf
    exact J6_getChars_ba4f3_22_W hC hQ (gN E) hf hw (lv_sub hl [1, 2, 3, 0] rfl)
  · replace hf := (if_pos c22).symm.trans hf
    refine lv_iload_n hx hb dJ6_getChars_ba4f3_19 rfl (lv_at hl 1 rfl) ?_
    refine lv_ineg hx hb dJ6_getChars_ba4f3_20 ?_
    refine lv_istore_n (lv' := [(0, .int (-l0)), (6, .int s0), (2, .ref l2), (5, .int l5)]) hx hb dJ6_getChars_ba4f3_21 rfl hl (by decide) rfl (fun ls hl => ?_)
    exact J6_getChars_ba4f3_22_W hC hQ (gN E) hf hw (lv_sub hl [0, 2, 3, 1] rfl)

def J6_getChars_ba4f3 (E : gE) (l0 : Int32) (l1 : Int32) (l2 : Nat) (σ : gS) : Option (Int32 × gS) :=
  if 0 ≤ l0 then
    J6_getChars_ba4f3_12 E l0 l2 l1 (0 : Int32) σ
  else
    J6_getChars_ba4f3_12 E l0 l2 l1 (1 : Int32) σ
set_option maxHeartbeats 4000000 in
set_option maxRecDepth 100000 in
theorem J6_getChars_ba4f3_W {σ : gS} {l0 : Int32} {l1 : Int32} {l2 : Nat} {res : (Int32 × gS)} {ls : Array Slot} (hC : gC E D A p R s m args meth c cJ6_getChars_ba4f3 7 RJ6 "getChars" 0 0) (hQ : gQI E D A p l e R s m args below meth c Q cJ6_getChars_ba4f3 FieldType.int res) (hf : J6_getChars_ba4f3 E l0 l1 l2 σ = some res) (hw : gW E D A s σ H locs) (hl : lv_has ls 7 [(0, .int l0), (1, .int l1), (2, .ref l2)]) : W p l e R s m args below meth c H locs cells slots Q (F0 m 0 ls []) := by
  have hC0 := hC
  obtain ⟨hx, hb, hml, hown, hts, -⟩ := hC0
  unfold J6_getChars_ba4f3 at hf
  refine lv_iload_n hx hb dJ6_getChars_ba4f3_0 rfl (lv_at hl 1 rfl) ?_
  refine lv_istore (lv' := [(5, .int l1), (0, .int l0), (1, .int l1), (2, .ref l2)]) hx hb dJ6_getChars_ba4f3_1 hl (by decide) rfl (fun ls hl => ?_)
  refine lv_iload_n hx hb dJ6_getChars_ba4f3_3 rfl (lv_at hl 1 rfl) ?_
  refine lv_if_ge (tgt := 11) hx hb dJ6_getChars_ba4f3_4 (by decide) (fun c23 => ?_) (fun c23 => ?_)
  · replace hf := (if_pos c23).symm.trans hf
    refine lv_iconst (v := 0) hx hb dJ6_getChars_ba4f3_11 (by decide) ?_
    exact J6_getChars_ba4f3_12_W hC hQ hf hw (lv_sub hl [1, 3, 0] rfl)
  · replace hf := (if_neg c23).symm.trans hf
    refine lv_iconst (v := 1) hx hb dJ6_getChars_ba4f3_7 (by decide) ?_
    refine lv_goto (tgt := 12) hx hb dJ6_getChars_ba4f3_8 (by decide) ?_
    exact J6_getChars_ba4f3_12_W hC hQ hf hw (lv_sub hl [1, 3, 0] rfl)

def J6_getChars_ba4f3_f (E : gE) (l0 : Int32) (l1 : Int32) (l2 : Nat) (σ : gS) : Option (Int32 × gS) := J6_getChars_ba4f3 E l0 l1 l2 σ
set_option maxRecDepth 100000 in
theorem J6_getChars_ba4f3_M (l : Launch) (E : gE) (D : va_G) (A : Nat → Prop) {l0 : Int32} {l1 : Int32} {l2 : Nat} {σ : gS} {res : (Int32 × gS)} (hf : J6_getChars_ba4f3_f E l0 l1 l2 σ = some res) : gCI l E D A yJ6_getChars_ba4f3 cJ6_getChars_ba4f3 7 0 0 (some FieldType.int) [.int l0, .int l1, .ref l2] σ res := by
  refine gg_entI (own := RJ6) (nm := "getChars") (ty := FieldType.int) (by decide +kernel) rfl rfl (Nat.le_of_ble_eq_true rfl) rfl ?_
  intro p e R s m args below meth c Q ls hC hw hQ hl
  have hl : lv_has ls 7 [(0, .int l0), (1, .int l1), (2, .ref l2)] := hl
  exact J6_getChars_ba4f3_W hC hQ hf hw hl

def J6_stringSize_0f7a4_16_s (E : gE) (σ : gS) (r_16 : Int32 → Int32 → Int32 → Int32 → Option Int32) (l0 : Int32) (l1 : Int32) (l2 : Int32) (l3 : Int32) : Option Int32 :=
  if (10 : Int32) ≤ l3 then
    some ((10 : Int32) + l1)
  else
    if l0 ≤ l2 then
      r_16 l0 l1 ((10 : Int32) * l2) (l3 + 1)
    else
      some (l3 + l1)
set_option maxHeartbeats 4000000 in
set_option maxRecDepth 100000 in
theorem J6_stringSize_0f7a4_16_s_W {σ : gS} {l0 : Int32} {l1 : Int32} {l2 : Int32} {l3 : Int32} {res : Int32} {ls : Array Slot} (hC : gC E D A p R s m args meth c cJ6_stringSize_0f7a4 4 RJ6 "stringSize" 0 0) (hQ : gQI E D A p l e R s m args below meth c Q cJ6_stringSize_0f7a4 FieldType.int (res, σ)) {r_16 : Int32 → Int32 → Int32 → Int32 → Option Int32} (h_16 : ∀ {l0 : Int32} {l1 : Int32} {l2 : Int32} {l3 : Int32} {H : Heap} {locs : List Loc} {cells slots : Nat} {ls : Array Slot}, r_16 l0 l1 l2 l3 = some res → gW E D A s σ H locs → lv_has ls 4 [(0, .int l0), (1, .int l1), (2, .int l2), (3, .int l3)] → W p l e R s m args below meth c H locs cells slots Q (F0 m 16 ls [])) (hf : J6_stringSize_0f7a4_16_s E σ r_16 l0 l1 l2 l3 = some res) (hw : gW E D A s σ H locs) (hl : lv_has ls 4 [(0, .int l0), (1, .int l1), (2, .int l2), (3, .int l3)]) : W p l e R s m args below meth c H locs cells slots Q (F0 m 16 ls []) := by
  have hC0 := hC
  obtain ⟨hx, hb, hml, hown, hts, -⟩ := hC0
  unfold J6_stringSize_0f7a4_16_s at hf
  refine lv_iload_n hx hb dJ6_stringSize_0f7a4_16 rfl (lv_at hl 3 rfl) ?_
  refine lv_bipush (v := 10) hx hb dJ6_stringSize_0f7a4_17 (by decide) ?_
  refine lv_icmp_ge (tgt := 42) hx hb dJ6_stringSize_0f7a4_19 (by decide) (fun c2 => ?_) (fun c2 => ?_)
  · replace hf := (if_pos c2).symm.trans hf
    refine lv_bipush (v := 10) hx hb dJ6_stringSize_0f7a4_42 (by decide) ?_
    refine lv_iload_n hx hb dJ6_stringSize_0f7a4_44 rfl (lv_at hl 1 rfl) ?_
    refine lv_iadd hx hb dJ6_stringSize_0f7a4_45 ?_
    cases hf
    exact hQ _ _ _ _ _ _ dJ6_stringSize_0f7a4_46 rfl hw
  · replace hf := (if_neg c2).symm.trans hf
    refine lv_iload_n hx hb dJ6_stringSize_0f7a4_22 rfl (lv_at hl 0 rfl) ?_
    refine lv_iload_n hx hb dJ6_stringSize_0f7a4_23 rfl (lv_at hl 2 rfl) ?_
    refine lv_icmp_le (tgt := 31) hx hb dJ6_stringSize_0f7a4_24 (by decide) (fun c1 => ?_) (fun c1 => ?_)
    · replace hf := (if_pos c1).symm.trans hf
      refine lv_bipush (v := 10) hx hb dJ6_stringSize_0f7a4_31 (by decide) ?_
      refine lv_iload_n hx hb dJ6_stringSize_0f7a4_33 rfl (lv_at hl 2 rfl) ?_
      refine lv_imul hx hb dJ6_stringSize_0f7a4_34 ?_
      refine lv_istore_n (lv' := [(2, .int ((10 : Int32) * l2)), (0, .int l0), (1, .int l1), (3, .int l3)]) hx hb dJ6_stringSize_0f7a4_35 rfl hl (by decide) rfl (fun ls hl => ?_)
      refine lv_iinc (v := (l3 + 1)) (lv' := [(3, .int (l3 + 1)), (2, .int ((10 : Int32) * l2)), (0, .int l0), (1, .int l1)]) hx hb dJ6_stringSize_0f7a4_36 hl (k := 3) rfl rfl (by decide) rfl (fun ls hl => ?_)
      refine lv_goto (tgt := 16) hx hb dJ6_stringSize_0f7a4_39 (by decide) ?_
      exact h_16 hf hw (lv_sub hl [2, 3, 1, 0] rfl)
    · replace hf := (if_neg c1).symm.trans hf
      refine lv_iload_n hx hb dJ6_stringSize_0f7a4_27 rfl (lv_at hl 3 rfl) ?_
      refine lv_iload_n hx hb dJ6_stringSize_0f7a4_28 rfl (lv_at hl 1 rfl) ?_
      refine lv_iadd hx hb dJ6_stringSize_0f7a4_29 ?_
      cases hf
      exact hQ _ _ _ _ _ _ dJ6_stringSize_0f7a4_30 rfl hw
def J6_stringSize_0f7a4_16 (E : gE) (σ : gS) : Nat → Int32 → Int32 → Int32 → Int32 → Option Int32
  | 0 => fun _ _ _ _ => none
  | n + 1 => J6_stringSize_0f7a4_16_s E σ (J6_stringSize_0f7a4_16 E σ n)
theorem J6_stringSize_0f7a4_16_W {σ : gS} {res : Int32} (hC : gC E D A p R s m args meth c cJ6_stringSize_0f7a4 4 RJ6 "stringSize" 0 0) (hQ : gQI E D A p l e R s m args below meth c Q cJ6_stringSize_0f7a4 FieldType.int (res, σ)) : ∀ (n : Nat), ∀ {l0 : Int32} {l1 : Int32} {l2 : Int32} {l3 : Int32} {H : Heap} {locs : List Loc} {cells slots : Nat} {ls : Array Slot}, J6_stringSize_0f7a4_16 E σ n l0 l1 l2 l3 = some res → gW E D A s σ H locs → lv_has ls 4 [(0, .int l0), (1, .int l1), (2, .int l2), (3, .int l3)] → W p l e R s m args below meth c H locs cells slots Q (F0 m 16 ls []) := by
  intro n
  induction n with
  | zero =>
    intros
    rename_i hf _ _
    exact absurd hf (fun h => by cases (show (none : Option Int32) = some res from h))
  | succ n ih =>
    intros
    rename_i hf hw hl
    exact J6_stringSize_0f7a4_16_s_W hC hQ ih hf hw hl

def J6_stringSize_0f7a4_11 (E : gE) (σ : gS) (l0 : Int32) (l1 : Int32) : Option Int32 :=
  J6_stringSize_0f7a4_16 E σ (gN E) l0 l1 (-10 : Int32) (1 : Int32)
set_option maxHeartbeats 4000000 in
set_option maxRecDepth 100000 in
theorem J6_stringSize_0f7a4_11_W {σ : gS} {l0 : Int32} {l1 : Int32} {res : Int32} {ls : Array Slot} (hC : gC E D A p R s m args meth c cJ6_stringSize_0f7a4 4 RJ6 "stringSize" 0 0) (hQ : gQI E D A p l e R s m args below meth c Q cJ6_stringSize_0f7a4 FieldType.int (res, σ)) (hf : J6_stringSize_0f7a4_11 E σ l0 l1 = some res) (hw : gW E D A s σ H locs) (hl : lv_has ls 4 [(0, .int l0), (1, .int l1)]) : W p l e R s m args below meth c H locs cells slots Q (F0 m 11 ls []) := by
  have hC0 := hC
  obtain ⟨hx, hb, hml, hown, hts, -⟩ := hC0
  unfold J6_stringSize_0f7a4_11 at hf
  refine lv_bipush (v := -10) hx hb dJ6_stringSize_0f7a4_11 (by decide) ?_
  refine lv_istore_n (lv' := [(2, .int (-10 : Int32)), (0, .int l0), (1, .int l1)]) hx hb dJ6_stringSize_0f7a4_13 rfl hl (by decide) rfl (fun ls hl => ?_)
  refine lv_iconst (v := 1) hx hb dJ6_stringSize_0f7a4_14 (by decide) ?_
  refine lv_istore_n (lv' := [(3, .int (1 : Int32)), (2, .int (-10 : Int32)), (0, .int l0), (1, .int l1)]) hx hb dJ6_stringSize_0f7a4_15 rfl hl (by decide) rfl (fun ls hl => ?_)
  exact J6_stringSize_0f7a4_16_W hC hQ (gN E) hf hw (lv_sub hl [2, 3, 1, 0] rfl)

def J6_stringSize_0f7a4 (E : gE) (σ : gS) (l0 : Int32) : Option Int32 :=
  if l0 < 0 then
    J6_stringSize_0f7a4_11 E σ l0 (1 : Int32)
  else
    J6_stringSize_0f7a4_11 E σ (-l0) (0 : Int32)
set_option maxHeartbeats 4000000 in
set_option maxRecDepth 100000 in
theorem J6_stringSize_0f7a4_W {σ : gS} {l0 : Int32} {res : Int32} {ls : Array Slot} (hC : gC E D A p R s m args meth c cJ6_stringSize_0f7a4 4 RJ6 "stringSize" 0 0) (hQ : gQI E D A p l e R s m args below meth c Q cJ6_stringSize_0f7a4 FieldType.int (res, σ)) (hf : J6_stringSize_0f7a4 E σ l0 = some res) (hw : gW E D A s σ H locs) (hl : lv_has ls 4 [(0, .int l0)]) : W p l e R s m args below meth c H locs cells slots Q (F0 m 0 ls []) := by
  have hC0 := hC
  obtain ⟨hx, hb, hml, hown, hts, -⟩ := hC0
  unfold J6_stringSize_0f7a4 at hf
  refine lv_iconst (v := 1) hx hb dJ6_stringSize_0f7a4_0 (by decide) ?_
  refine lv_istore_n (lv' := [(1, .int (1 : Int32)), (0, .int l0)]) hx hb dJ6_stringSize_0f7a4_1 rfl hl (by decide) rfl (fun ls hl => ?_)
  refine lv_iload_n hx hb dJ6_stringSize_0f7a4_2 rfl (lv_at hl 1 rfl) ?_
  refine lv_if_lt (tgt := 11) hx hb dJ6_stringSize_0f7a4_3 (by decide) (fun c3 => ?_) (fun c3 => ?_)
  · replace hf := (if_pos c3).symm.trans hf
    exact J6_stringSize_0f7a4_11_W hC hQ hf hw (lv_sub hl [1, 0] rfl)
  · replace hf := (if_neg c3).symm.trans hf
    refine lv_iconst (v := 0) hx hb dJ6_stringSize_0f7a4_6 (by decide) ?_
    refine lv_istore_n (lv' := [(1, .int (0 : Int32)), (0, .int l0)]) hx hb dJ6_stringSize_0f7a4_7 rfl hl (by decide) rfl (fun ls hl => ?_)
    refine lv_iload_n hx hb dJ6_stringSize_0f7a4_8 rfl (lv_at hl 1 rfl) ?_
    refine lv_ineg hx hb dJ6_stringSize_0f7a4_9 ?_
    refine lv_istore_n (lv' := [(0, .int (-l0)), (1, .int (0 : Int32))]) hx hb dJ6_stringSize_0f7a4_10 rfl hl (by decide) rfl (fun ls hl => ?_)
    exact J6_stringSize_0f7a4_11_W hC hQ hf hw (lv_sub hl [0, 1] rfl)

def J6_stringSize_0f7a4_f (E : gE) (σ : gS) (l0 : Int32) : Option Int32 := J6_stringSize_0f7a4 E σ l0
set_option maxRecDepth 100000 in
theorem J6_stringSize_0f7a4_M (l : Launch) (E : gE) (D : va_G) (A : Nat → Prop) {l0 : Int32} {σ : gS} {res : Int32} (hf : J6_stringSize_0f7a4_f E σ l0 = some res) : gCI l E D A yJ6_stringSize_0f7a4 cJ6_stringSize_0f7a4 4 0 0 (some FieldType.int) [.int l0] σ (res, σ) := by
  refine gg_entI (own := RJ6) (nm := "stringSize") (ty := FieldType.int) (by decide +kernel) rfl rfl (Nat.le_of_ble_eq_true rfl) rfl ?_
  intro p e R s m args below meth c Q ls hC hw hQ hl
  have hl : lv_has ls 4 [(0, .int l0)] := hl
  exact J6_stringSize_0f7a4_W hC hQ hf hw hl

def J6_signum_0f7a4 (E : gE) (σ : gS) (l0 : Int32) : Option Int32 :=
  some ((l0 >>> ((31 : Int32) &&& 31)) ||| (gushr (-l0) (31 : Int32)))
set_option maxHeartbeats 4000000 in
set_option maxRecDepth 100000 in
theorem J6_signum_0f7a4_W {σ : gS} {l0 : Int32} {res : Int32} {ls : Array Slot} (hC : gC E D A p R s m args meth c cJ6_signum_0f7a4 1 RJ6 "signum" 0 0) (hQ : gQI E D A p l e R s m args below meth c Q cJ6_signum_0f7a4 FieldType.int (res, σ)) (hf : J6_signum_0f7a4 E σ l0 = some res) (hw : gW E D A s σ H locs) (hl : lv_has ls 1 [(0, .int l0)]) : W p l e R s m args below meth c H locs cells slots Q (F0 m 0 ls []) := by
  have hC0 := hC
  obtain ⟨hx, hb, hml, hown, hts, -⟩ := hC0
  unfold J6_signum_0f7a4 at hf
  refine lv_iload_n hx hb dJ6_signum_0f7a4_0 rfl (lv_at hl 0 rfl) ?_
  refine lv_bipush (v := 31) hx hb dJ6_signum_0f7a4_1 (by decide) ?_
  refine lv_ishr hx hb dJ6_signum_0f7a4_3 ?_
  refine lv_iload_n hx hb dJ6_signum_0f7a4_4 rfl (lv_at hl 0 rfl) ?_
  refine lv_ineg hx hb dJ6_signum_0f7a4_5 ?_
  refine lv_bipush (v := 31) hx hb dJ6_signum_0f7a4_6 (by decide) ?_
  refine lv_iushr (v := gushr (-l0) (31 : Int32)) hx hb dJ6_signum_0f7a4_8 rfl ?_
  refine lv_ior hx hb dJ6_signum_0f7a4_9 ?_
  cases hf
  exact hQ _ _ _ _ _ _ dJ6_signum_0f7a4_10 rfl hw

def J6_signum_0f7a4_f (E : gE) (σ : gS) (l0 : Int32) : Option Int32 := J6_signum_0f7a4 E σ l0
set_option maxRecDepth 100000 in
theorem J6_signum_0f7a4_M (l : Launch) (E : gE) (D : va_G) (A : Nat → Prop) {l0 : Int32} {σ : gS} {res : Int32} (hf : J6_signum_0f7a4_f E σ l0 = some res) : gCI l E D A yJ6_signum_0f7a4 cJ6_signum_0f7a4 1 0 0 (some FieldType.int) [.int l0] σ (res, σ) := by
  refine gg_entI (own := RJ6) (nm := "signum") (ty := FieldType.int) (by decide +kernel) rfl rfl (Nat.le_of_ble_eq_true rfl) rfl ?_
  intro p e R s m args below meth c Q ls hC hw hQ hl
  have hl : lv_has ls 1 [(0, .int l0)] := hl
  exact J6_signum_0f7a4_W hC hQ hf hw hl

def J0_coder_7d493 (E : gE) (σ : gS) (l0 : Nat) : Option Int32 :=
  if (1 : Int32) = 0 then
    some (1 : Int32)
  else
    ob (gxI E l0 100 1) fun x1 =>
    ob (gby x1) fun _ =>
    some x1
set_option maxHeartbeats 4000000 in
set_option maxRecDepth 100000 in
theorem J0_coder_7d493_W {σ : gS} {l0 : Nat} {res : Int32} {ls : Array Slot} (hC : gC E D A p R s m args meth c cJ0_coder_7d493 1 RJ0 "coder" 0 0) (hQ : gQI E D A p l e R s m args below meth c Q cJ0_coder_7d493 FieldType.byte (res, σ)) (hf : J0_coder_7d493 E σ l0 = some res) (hw : gW E D A s σ H locs) (hl : lv_has ls 1 [(0, .ref l0)]) : W p l e R s m args below meth c H locs cells slots Q (F0 m 0 ls []) := by
  have hC0 := hC
  obtain ⟨hx, hb, hml, hown, hts, -⟩ := hC0
  unfold J0_coder_7d493 at hf
  refine gg_gets hC hw (k := 2) rfl fl_J0_38 dJ0_coder_7d493_0 ?_
  refine lv_if_eq (tgt := 13) hx hb dJ0_coder_7d493_3 (by decide) (fun c4 => ?_) (fun c4 => ?_)
  · replace hf := (if_pos c4).symm.trans hf
    refine lv_iconst (v := 1) hx hb dJ0_coder_7d493_13 (by decide) ?_
    cases hf
    exact hQ _ _ _ _ _ _ dJ0_coder_7d493_14 rfl hw
  · replace hf := (if_neg c4).symm.trans hf
    refine lv_aload_n hx hb dJ0_coder_7d493_6 rfl (lv_at hl 0 rfl) ?_
    obtain ⟨x1, h2, hf⟩ := ob_some hf
    obtain ⟨hro, fs, he, hv⟩ := gxI_some h2
    refine gg_xget hC hw hro he hv rfl fl_J0_15 dJ0_coder_7d493_7 ?_
    refine lv_goto (tgt := 14) hx hb dJ0_coder_7d493_10 (by decide) ?_
    obtain ⟨_, h3, hf⟩ := ob_some hf
    cases hf
    exact hQ _ _ _ _ _ _ dJ0_coder_7d493_14 (gby_some h3) hw

def J0_coder_7d493_f (E : gE) (σ : gS) (l0 : Nat) : Option Int32 := J0_coder_7d493 E σ l0
set_option maxRecDepth 100000 in
theorem J0_coder_7d493_M (l : Launch) (E : gE) (D : va_G) (A : Nat → Prop) {l0 : Nat} {σ : gS} {res : Int32} (hf : J0_coder_7d493_f E σ l0 = some res) : gCI l E D A yJ0_coder_7d493 cJ0_coder_7d493 1 0 0 (some FieldType.byte) [.ref l0] σ (res, σ) := by
  refine gg_entI (own := RJ0) (nm := "coder") (ty := FieldType.byte) (by decide +kernel) rfl rfl (Nat.le_of_ble_eq_true rfl) rfl ?_
  intro p e R s m args below meth c Q ls hC hw hQ hl
  have hl : lv_has ls 1 [(0, .ref l0)] := hl
  exact J0_coder_7d493_W hC hQ hf hw hl

def J0_isLatin1_aae02_17 (E : gE) (σ : gS) : Option Int32 :=
  some (0 : Int32)
set_option maxHeartbeats 4000000 in
set_option maxRecDepth 100000 in
theorem J0_isLatin1_aae02_17_W {σ : gS} {res : Int32} {ls : Array Slot} (hC : gC E D A p R s m args meth c cJ0_isLatin1_aae02 1 RJ0 "isLatin1" 0 0) (hQ : gQI E D A p l e R s m args below meth c Q cJ0_isLatin1_aae02 FieldType.boolean (res, σ)) (hf : J0_isLatin1_aae02_17 E σ = some res) (hw : gW E D A s σ H locs) (hl : lv_has ls 1 []) : W p l e R s m args below meth c H locs cells slots Q (F0 m 17 ls []) := by
  have hC0 := hC
  obtain ⟨hx, hb, hml, hown, hts, -⟩ := hC0
  unfold J0_isLatin1_aae02_17 at hf
  refine lv_iconst (v := 0) hx hb dJ0_isLatin1_aae02_17 (by decide) ?_
  cases hf
  exact hQ _ _ _ _ _ _ dJ0_isLatin1_aae02_18 gz0 hw

def J0_isLatin1_aae02 (E : gE) (σ : gS) (l0 : Nat) : Option Int32 :=
  if (1 : Int32) = 0 then
    J0_isLatin1_aae02_17 E σ
  else
    ob (gxI E l0 100 1) fun x1 =>
    if x1 = 0 then
      some (1 : Int32)
    else
      J0_isLatin1_aae02_17 E σ
set_option maxHeartbeats 4000000 in
set_option maxRecDepth 100000 in
theorem J0_isLatin1_aae02_W {σ : gS} {l0 : Nat} {res : Int32} {ls : Array Slot} (hC : gC E D A p R s m args meth c cJ0_isLatin1_aae02 1 RJ0 "isLatin1" 0 0) (hQ : gQI E D A p l e R s m args below meth c Q cJ0_isLatin1_aae02 FieldType.boolean (res, σ)) (hf : J0_isLatin1_aae02 E σ l0 = some res) (hw : gW E D A s σ H locs) (hl : lv_has ls 1 [(0, .ref l0)]) : W p l e R s m args below meth c H locs cells slots Q (F0 m 0 ls []) := by
  have hC0 := hC
  obtain ⟨hx, hb, hml, hown, hts, -⟩ := hC0
  unfold J0_isLatin1_aae02 at hf
  refine gg_gets hC hw (k := 2) rfl fl_J0_38 dJ0_isLatin1_aae02_0 ?_
  refine lv_if_eq (tgt := 17) hx hb dJ0_isLatin1_aae02_3 (by decide) (fun c4 => ?_) (fun c4 => ?_)
  · replace hf := (if_pos c4).symm.trans hf
    exact J0_isLatin1_aae02_17_W hC hQ hf hw (lv_sub hl [] rfl)
  · replace hf := (if_neg c4).symm.trans hf
    refine lv_aload_n hx hb dJ0_isLatin1_aae02_6 rfl (lv_at hl 0 rfl) ?_
    obtain ⟨x1, h2, hf⟩ := ob_some hf
    obtain ⟨hro, fs, he, hv⟩ := gxI_some h2
    refine gg_xget hC hw hro he hv rfl fl_J0_15 dJ0_isLatin1_aae02_7 ?_
    refine lv_if_ne (tgt := 17) hx hb dJ0_isLatin1_aae02_10 (by decide) (fun c3 => ?_) (fun c3 => ?_)
    · replace hf := (if_neg c3).symm.trans hf
      exact J0_isLatin1_aae02_17_W hC hQ hf hw (lv_sub hl [] rfl)
    · replace hf := (if_pos c3).symm.trans hf
      refine lv_iconst (v := 1) hx hb dJ0_isLatin1_aae02_13 (by decide) ?_
      refine lv_goto (tgt := 18) hx hb dJ0_isLatin1_aae02_14 (by decide) ?_
      cases hf
      exact hQ _ _ _ _ _ _ dJ0_isLatin1_aae02_18 gz1 hw

def J0_isLatin1_aae02_f (E : gE) (σ : gS) (l0 : Nat) : Option Int32 := J0_isLatin1_aae02 E σ l0
set_option maxRecDepth 100000 in
theorem J0_isLatin1_aae02_M (l : Launch) (E : gE) (D : va_G) (A : Nat → Prop) {l0 : Nat} {σ : gS} {res : Int32} (hf : J0_isLatin1_aae02_f E σ l0 = some res) : gCI l E D A yJ0_isLatin1_aae02 cJ0_isLatin1_aae02 1 0 0 (some FieldType.boolean) [.ref l0] σ (res, σ) := by
  refine gg_entI (own := RJ0) (nm := "isLatin1") (ty := FieldType.boolean) (by decide +kernel) rfl rfl (Nat.le_of_ble_eq_true rfl) rfl ?_
  intro p e R s m args below meth c Q ls hC hw hQ hl
  have hl : lv_has ls 1 [(0, .ref l0)] := hl
  exact J0_isLatin1_aae02_W hC hQ hf hw hl

def J4_init_da8c8 (E : gE) (l0 : Nat) (σ : gS) : Option gS :=
  ob (J5_init_d00df_f E l0 (16 : Int32) σ) fun x1 =>
  some x1
set_option maxHeartbeats 4000000 in
set_option maxRecDepth 100000 in
theorem J4_init_da8c8_W {σ : gS} {l0 : Nat} {σz : gS} {ls : Array Slot} (hC : gC E D A p R s m args meth c cJ4_init_da8c8 1 RJ4 "<init>" 4 101) (hQ : gQV E D A p l e R s m args below meth c Q cJ4_init_da8c8 σz) (hf : J4_init_da8c8 E l0 σ = some σz) (hw : gW E D A s σ H locs) (hl : lv_has ls 1 [(0, .ref l0)]) : W p l e R s m args below meth c H locs cells slots Q (F0 m 0 ls []) := by
  have hC0 := hC
  obtain ⟨hx, hb, hml, hown, hts, -⟩ := hC0
  unfold J4_init_da8c8 at hf
  refine lv_aload_n hx hb dJ4_init_da8c8_0 rfl (lv_at hl 0 rfl) ?_
  refine lv_bipush (v := 16) hx hb dJ4_init_da8c8_1 (by decide) ?_
  obtain ⟨x1, h2, hf⟩ := ob_some hf
  refine gg_cIV (rt := none) (As := [.int (16 : Int32)]) hC hw (J5_init_d00df_M l E D A h2) co_J5_init_d00df in_J5 ml_J4_1 im_J5_init_d00df rfl hd_J5_init_d00df.2 (Nat.le_of_ble_eq_true rfl) (Nat.le_of_ble_eq_true rfl) hl.1 rfl (Nat.le_of_ble_eq_true rfl) dJ4_init_da8c8_3 (fun H locs cells slots hw => ?_)
  cases hf
  exact hQ _ _ _ _ _ _ dJ4_init_da8c8_6 hw

def J4_init_da8c8_f (E : gE) (l0 : Nat) (σ : gS) : Option gS := J4_init_da8c8 E l0 σ
set_option maxRecDepth 100000 in
theorem J4_init_da8c8_M (l : Launch) (E : gE) (D : va_G) (A : Nat → Prop) {l0 : Nat} {σ : gS} {σz : gS} (hf : J4_init_da8c8_f E l0 σ = some σz) : gCV l E D A yJ4_init_da8c8 cJ4_init_da8c8 1 4 101 none [.ref l0] σ σz := by
  refine gg_entV (own := RJ4) (nm := "<init>") (by decide +kernel) rfl rfl (Nat.le_of_ble_eq_true rfl) rfl ?_
  intro p e R s m args below meth c Q ls hC hw hQ hl
  have hl : lv_has ls 1 [(0, .ref l0)] := hl
  exact J4_init_da8c8_W hC hQ hf hw hl

def J4_length_8abf5 (E : gE) (σ : gS) (l0 : Nat) : Option Int32 :=
  ob (gcl σ l0 11) fun _ =>
  ob (J5_length_8abf5_f E σ l0) fun x1 =>
  some x1
set_option maxHeartbeats 4000000 in
set_option maxRecDepth 100000 in
theorem J4_length_8abf5_W {σ : gS} {l0 : Nat} {res : Int32} {ls : Array Slot} (hC : gC E D A p R s m args meth c cJ4_length_8abf5 1 RJ4 "length" 1 20) (hQ : gQI E D A p l e R s m args below meth c Q cJ4_length_8abf5 FieldType.int (res, σ)) (hf : J4_length_8abf5 E σ l0 = some res) (hw : gW E D A s σ H locs) (hl : lv_has ls 1 [(0, .ref l0)]) : W p l e R s m args below meth c H locs cells slots Q (F0 m 0 ls []) := by
  have hC0 := hC
  obtain ⟨hx, hb, hml, hown, hts, -⟩ := hC0
  unfold J4_length_8abf5 at hf
  refine lv_aload_n hx hb dJ4_length_8abf5_0 rfl (lv_at hl 0 rfl) ?_
  obtain ⟨_, h3, hf⟩ := ob_some hf
  obtain ⟨x1, h2, hf⟩ := ob_some hf
  refine gg_jSI (As := []) hC hw (J5_length_8abf5_M l E D A h2) h3 rfl js_ml_J4_343 hs_J5_length_8abf5 (Nat.le_of_ble_eq_true rfl) (Nat.le_of_ble_eq_true rfl) hl.1 rfl (Nat.le_of_ble_eq_true rfl) dJ4_length_8abf5_1 (fun H locs cells slots hw => ?_)
  cases hf
  exact hQ _ _ _ _ _ _ dJ4_length_8abf5_4 rfl hw

def J4_length_8abf5_f (E : gE) (σ : gS) (l0 : Nat) : Option Int32 := J4_length_8abf5 E σ l0
set_option maxRecDepth 100000 in
theorem J4_length_8abf5_M (l : Launch) (E : gE) (D : va_G) (A : Nat → Prop) {l0 : Nat} {σ : gS} {res : Int32} (hf : J4_length_8abf5_f E σ l0 = some res) : gCI l E D A yJ4_length_8abf5 cJ4_length_8abf5 1 1 20 (some FieldType.int) [.ref l0] σ (res, σ) := by
  refine gg_entI (own := RJ4) (nm := "length") (ty := FieldType.int) (by decide +kernel) rfl rfl (Nat.le_of_ble_eq_true rfl) rfl ?_
  intro p e R s m args below meth c Q ls hC hw hQ hl
  have hl : lv_has ls 1 [(0, .ref l0)] := hl
  exact J4_length_8abf5_W hC hQ hf hw hl

def J1_canEncode_fc78d (E : gE) (σ : gS) (l0 : Int32) : Option Int32 :=
  if (255 : Int32) < l0 then
    some (0 : Int32)
  else
    some (1 : Int32)
set_option maxHeartbeats 4000000 in
set_option maxRecDepth 100000 in
theorem J1_canEncode_fc78d_W {σ : gS} {l0 : Int32} {res : Int32} {ls : Array Slot} (hC : gC E D A p R s m args meth c cJ1_canEncode_fc78d 1 RJ1 "canEncode" 0 0) (hQ : gQI E D A p l e R s m args below meth c Q cJ1_canEncode_fc78d FieldType.boolean (res, σ)) (hf : J1_canEncode_fc78d E σ l0 = some res) (hw : gW E D A s σ H locs) (hl : lv_has ls 1 [(0, .int l0)]) : W p l e R s m args below meth c H locs cells slots Q (F0 m 0 ls []) := by
  have hC0 := hC
  obtain ⟨hx, hb, hml, hown, hts, -⟩ := hC0
  unfold J1_canEncode_fc78d at hf
  refine lv_iload_n hx hb dJ1_canEncode_fc78d_0 rfl (lv_at hl 0 rfl) ?_
  refine lv_sipush (v := 255) hx hb dJ1_canEncode_fc78d_1 (by decide) ?_
  refine lv_icmp_gt (tgt := 11) hx hb dJ1_canEncode_fc78d_4 (by decide) (fun c1 => ?_) (fun c1 => ?_)
  · replace hf := (if_pos c1).symm.trans hf
    refine lv_iconst (v := 0) hx hb dJ1_canEncode_fc78d_11 (by decide) ?_
    cases hf
    exact hQ _ _ _ _ _ _ dJ1_canEncode_fc78d_12 gz0 hw
  · replace hf := (if_neg c1).symm.trans hf
    refine lv_iconst (v := 1) hx hb dJ1_canEncode_fc78d_7 (by decide) ?_
    refine lv_goto (tgt := 12) hx hb dJ1_canEncode_fc78d_8 (by decide) ?_
    cases hf
    exact hQ _ _ _ _ _ _ dJ1_canEncode_fc78d_12 gz1 hw

def J1_canEncode_fc78d_f (E : gE) (σ : gS) (l0 : Int32) : Option Int32 := J1_canEncode_fc78d E σ l0
set_option maxRecDepth 100000 in
theorem J1_canEncode_fc78d_M (l : Launch) (E : gE) (D : va_G) (A : Nat → Prop) {l0 : Int32} {σ : gS} {res : Int32} (hf : J1_canEncode_fc78d_f E σ l0 = some res) : gCI l E D A yJ1_canEncode_fc78d cJ1_canEncode_fc78d 1 0 0 (some FieldType.boolean) [.int l0] σ (res, σ) := by
  refine gg_entI (own := RJ1) (nm := "canEncode") (ty := FieldType.boolean) (by decide +kernel) rfl rfl (Nat.le_of_ble_eq_true rfl) rfl ?_
  intro p e R s m args below meth c Q ls hC hw hQ hl
  have hl : lv_has ls 1 [(0, .int l0)] := hl
  exact J1_canEncode_fc78d_W hC hQ hf hw hl

def J7_fill_d0a16_6_s (E : gE) (r_6 : Nat → Int64 → Int32 → Int32 → gS → Option gS) (l0 : Nat) (l1 : Int64) (l3 : Int32) (l4 : Int32) (σ : gS) : Option gS :=
  if l4 ≤ l3 then
    some σ
  else
    ob (gwaJ E σ l0 l3 l1) fun σ1 =>
    r_6 l0 l1 (l3 + 1) l4 σ1
set_option maxHeartbeats 4000000 in
set_option maxRecDepth 100000 in
theorem J7_fill_d0a16_6_s_W {σ : gS} {l0 : Nat} {l1 : Int64} {l3 : Int32} {l4 : Int32} {σz : gS} {ls : Array Slot} (hC : gC E D A p R s m args meth c cJ7_fill_d0a16 5 RJ7 "fill" 0 0) (hQ : gQV E D A p l e R s m args below meth c Q cJ7_fill_d0a16 σz) {r_6 : Nat → Int64 → Int32 → Int32 → gS → Option gS} (h_6 : ∀ {l0 : Nat} {l1 : Int64} {l3 : Int32} {l4 : Int32} {σ : gS} {H : Heap} {locs : List Loc} {cells slots : Nat} {ls : Array Slot}, r_6 l0 l1 l3 l4 σ = some σz → gW E D A s σ H locs → lv_has ls 5 [(0, .ref l0), (1, .long l1), (3, .int l3), (4, .int l4)] → W p l e R s m args below meth c H locs cells slots Q (F0 m 6 ls [])) (hf : J7_fill_d0a16_6_s E r_6 l0 l1 l3 l4 σ = some σz) (hw : gW E D A s σ H locs) (hl : lv_has ls 5 [(0, .ref l0), (1, .long l1), (3, .int l3), (4, .int l4)]) : W p l e R s m args below meth c H locs cells slots Q (F0 m 6 ls []) := by
  have hC0 := hC
  obtain ⟨hx, hb, hml, hown, hts, -⟩ := hC0
  unfold J7_fill_d0a16_6_s at hf
  refine lv_iload_n hx hb dJ7_fill_d0a16_6 rfl (lv_at hl 2 rfl) ?_
  refine lv_iload hx hb dJ7_fill_d0a16_7 (lv_at hl 3 rfl) ?_
  refine lv_icmp_ge (tgt := 22) hx hb dJ7_fill_d0a16_9 (by decide) (fun c3 => ?_) (fun c3 => ?_)
  · replace hf := (if_pos c3).symm.trans hf
    cases hf
    exact hQ _ _ _ _ _ _ dJ7_fill_d0a16_22 hw
  · replace hf := (if_neg c3).symm.trans hf
    refine lv_aload_n hx hb dJ7_fill_d0a16_12 rfl (lv_at hl 0 rfl) ?_
    refine lv_iload_n hx hb dJ7_fill_d0a16_13 rfl (lv_at hl 2 rfl) ?_
    refine lv_lload_n hx hb dJ7_fill_d0a16_14 rfl (lv_at hl 1 rfl) ?_
    obtain ⟨σ1, h2, hf⟩ := ob_some hf
    refine gg_astJ hC hw h2 dJ7_fill_d0a16_15 (fun H locs hw => ?_)
    refine lv_iinc (v := (l3 + 1)) (lv' := [(3, .int (l3 + 1)), (0, .ref l0), (1, .long l1), (4, .int l4)]) hx hb dJ7_fill_d0a16_16 hl (k := 2) rfl rfl (by decide) rfl (fun ls hl => ?_)
    refine lv_goto (tgt := 6) hx hb dJ7_fill_d0a16_19 (by decide) ?_
    exact h_6 hf hw (lv_sub hl [1, 2, 0, 3] rfl)
def J7_fill_d0a16_6 (E : gE) : Nat → Nat → Int64 → Int32 → Int32 → gS → Option gS
  | 0 => fun _ _ _ _ _ => none
  | n + 1 => J7_fill_d0a16_6_s E (J7_fill_d0a16_6 E n)
theorem J7_fill_d0a16_6_W {σz : gS} (hC : gC E D A p R s m args meth c cJ7_fill_d0a16 5 RJ7 "fill" 0 0) (hQ : gQV E D A p l e R s m args below meth c Q cJ7_fill_d0a16 σz) : ∀ (n : Nat), ∀ {l0 : Nat} {l1 : Int64} {l3 : Int32} {l4 : Int32} {σ : gS} {H : Heap} {locs : List Loc} {cells slots : Nat} {ls : Array Slot}, J7_fill_d0a16_6 E n l0 l1 l3 l4 σ = some σz → gW E D A s σ H locs → lv_has ls 5 [(0, .ref l0), (1, .long l1), (3, .int l3), (4, .int l4)] → W p l e R s m args below meth c H locs cells slots Q (F0 m 6 ls []) := by
  intro n
  induction n with
  | zero =>
    intros
    rename_i hf _ _
    exact absurd hf (fun h => by cases (show (none : Option gS) = some σz from h))
  | succ n ih =>
    intros
    rename_i hf hw hl
    exact J7_fill_d0a16_6_s_W hC hQ ih hf hw hl

def J7_fill_d0a16 (E : gE) (l0 : Nat) (l1 : Int64) (σ : gS) : Option gS :=
  ob (gal E 2 σ l0) fun x4 =>
  J7_fill_d0a16_6 E (gN E) l0 l1 (0 : Int32) x4 σ
set_option maxHeartbeats 4000000 in
set_option maxRecDepth 100000 in
theorem J7_fill_d0a16_W {σ : gS} {l0 : Nat} {l1 : Int64} {σz : gS} {ls : Array Slot} (hC : gC E D A p R s m args meth c cJ7_fill_d0a16 5 RJ7 "fill" 0 0) (hQ : gQV E D A p l e R s m args below meth c Q cJ7_fill_d0a16 σz) (hf : J7_fill_d0a16 E l0 l1 σ = some σz) (hw : gW E D A s σ H locs) (hl : lv_has ls 5 [(0, .ref l0), (1, .long l1)]) : W p l e R s m args below meth c H locs cells slots Q (F0 m 0 ls []) := by
  have hC0 := hC
  obtain ⟨hx, hb, hml, hown, hts, -⟩ := hC0
  unfold J7_fill_d0a16 at hf
  refine lv_iconst (v := 0) hx hb dJ7_fill_d0a16_0 (by decide) ?_
  refine lv_istore_n (lv' := [(3, .int (0 : Int32)), (0, .ref l0), (1, .long l1)]) hx hb dJ7_fill_d0a16_1 rfl hl (by decide) rfl (fun ls hl => ?_)
  refine lv_aload_n hx hb dJ7_fill_d0a16_2 rfl (lv_at hl 1 rfl) ?_
  obtain ⟨x4, h5, hf⟩ := ob_some hf
  refine gg_alen hC hw h5 (Or.inr rfl) dJ7_fill_d0a16_3 ?_
  refine lv_istore (lv' := [(4, .int x4), (3, .int (0 : Int32)), (0, .ref l0), (1, .long l1)]) hx hb dJ7_fill_d0a16_4 hl (by decide) rfl (fun ls hl => ?_)
  exact J7_fill_d0a16_6_W hC hQ (gN E) hf hw (lv_sub hl [2, 3, 1, 0] rfl)

def J7_fill_d0a16_f (E : gE) (l0 : Nat) (l1 : Int64) (σ : gS) : Option gS := J7_fill_d0a16 E l0 l1 σ
set_option maxRecDepth 100000 in
theorem J7_fill_d0a16_M (l : Launch) (E : gE) (D : va_G) (A : Nat → Prop) {l0 : Nat} {l1 : Int64} {σ : gS} {σz : gS} (hf : J7_fill_d0a16_f E l0 l1 σ = some σz) : gCV l E D A yJ7_fill_d0a16 cJ7_fill_d0a16 5 0 0 none [.ref l0, .long l1] σ σz := by
  refine gg_entV (own := RJ7) (nm := "fill") (by decide +kernel) rfl rfl (Nat.le_of_ble_eq_true rfl) rfl ?_
  intro p e R s m args below meth c Q ls hC hw hQ hl
  have hl : lv_has ls 5 [(0, .ref l0), (1, .long l1)] := hl
  exact J7_fill_d0a16_W hC hQ hf hw hl

def J7_copyOf_9075b (E : gE) (l0 : Nat) (l1 : Int32) (σ : gS) : Option (Nat × gS) :=
  ob (gal E 1 σ l0) fun x1 =>
  if l1 = x1 then
    ob (gclB E σ l0) fun q13 =>
    ob (gcaB E q13.2 q13.1) fun _ =>
    some (q13.1, q13.2)
  else
    ob (gnaB E σ l1) fun q3 =>
    ob (gal E 1 q3.2 l0) fun x5 =>
    ob (gcopyB E q3.2 l0 (0 : Int32) q3.1 (0 : Int32) (gmin x5 l1)) fun x9 =>
    some (q3.1, x9)
set_option maxHeartbeats 4000000 in
set_option maxRecDepth 100000 in
theorem J7_copyOf_9075b_W {σ : gS} {l0 : Nat} {l1 : Int32} {res : (Nat × gS)} {ls : Array Slot} (hC : gC E D A p R s m args meth c cJ7_copyOf_9075b 3 RJ7 "copyOf" 3 80) (hQ : gQR E D A p l e R s m args below meth c Q cJ7_copyOf_9075b res) (hf : J7_copyOf_9075b E l0 l1 σ = some res) (hw : gW E D A s σ H locs) (hl : lv_has ls 3 [(0, .ref l0), (1, .int l1)]) : W p l e R s m args below meth c H locs cells slots Q (F0 m 0 ls []) := by
  have hC0 := hC
  obtain ⟨hx, hb, hml, hown, hts, -⟩ := hC0
  unfold J7_copyOf_9075b at hf
  refine lv_iload_n hx hb dJ7_copyOf_9075b_0 rfl (lv_at hl 1 rfl) ?_
  refine lv_aload_n hx hb dJ7_copyOf_9075b_1 rfl (lv_at hl 0 rfl) ?_
  obtain ⟨x1, h2, hf⟩ := ob_some hf
  refine gg_alen hC hw h2 (Or.inr rfl) dJ7_copyOf_9075b_2 ?_
  refine lv_icmp_ne (tgt := 14) hx hb dJ7_copyOf_9075b_3 (by decide) (fun c15 => ?_) (fun c15 => ?_)
  · replace hf := (if_neg c15).symm.trans hf
    refine lv_iload_n hx hb dJ7_copyOf_9075b_14 rfl (lv_at hl 1 rfl) ?_
    obtain ⟨q3, h4, hf⟩ := ob_some hf
    refine gg_naB hC hw h4 dJ7_copyOf_9075b_15 (fun H locs cells slots hw => ?_)
    refine lv_astore_n (lv' := [(2, .ref q3.1), (0, .ref l0), (1, .int l1)]) hx hb dJ7_copyOf_9075b_17 rfl hl (by decide) rfl (fun ls hl => ?_)
    refine lv_aload_n hx hb dJ7_copyOf_9075b_18 rfl (lv_at hl 1 rfl) ?_
    refine lv_iconst (v := 0) hx hb dJ7_copyOf_9075b_19 (by decide) ?_
    refine lv_aload_n hx hb dJ7_copyOf_9075b_20 rfl (lv_at hl 0 rfl) ?_
    refine lv_iconst (v := 0) hx hb dJ7_copyOf_9075b_21 (by decide) ?_
    refine lv_aload_n hx hb dJ7_copyOf_9075b_22 rfl (lv_at hl 1 rfl) ?_
    obtain ⟨x5, h6, hf⟩ := ob_some hf
    refine gg_alen hC hw h6 (Or.inr rfl) dJ7_copyOf_9075b_23 ?_
    refine lv_iload_n hx hb dJ7_copyOf_9075b_24 rfl (lv_at hl 2 rfl) ?_
    refine gg_mmin hC hw ml_J7_304 rfl hl.1 (Nat.le_of_ble_eq_true rfl) (Nat.le_of_ble_eq_true rfl) (Nat.le_of_ble_eq_true rfl) dJ7_copyOf_9075b_25 (fun cells slots => ?_)
    obtain ⟨x9, h10, hf⟩ := ob_some hf
    refine gg_copyB hC hw h10 ml_J7_150 hl.1 rfl (Nat.le_of_ble_eq_true rfl) (Nat.le_of_ble_eq_true rfl) (Nat.le_of_ble_eq_true rfl) dJ7_copyOf_9075b_28 (fun H locs hw => ?_)
    refine lv_aload_n hx hb dJ7_copyOf_9075b_31 rfl (lv_at hl 0 rfl) ?_
    cases hf
    exact hQ _ _ _ _ _ _ dJ7_copyOf_9075b_32 hw
  · replace hf := (if_pos c15).symm.trans hf
    refine lv_aload_n hx hb dJ7_copyOf_9075b_6 rfl (lv_at hl 0 rfl) ?_
    obtain ⟨q13, h12, hf⟩ := ob_some hf
    refine gg_clB hC hw h12 ml_J7_310 hl.1 (Nat.le_of_ble_eq_true rfl) (Nat.le_of_ble_eq_true rfl) (Nat.le_of_ble_eq_true rfl) dJ7_copyOf_9075b_7 (fun H locs cells slots hw => ?_)
    obtain ⟨_, h14, hf⟩ := ob_some hf
    refine gg_castB hC hw h14 cl_J7_311 dJ7_copyOf_9075b_10 ?_
    cases hf
    exact hQ _ _ _ _ _ _ dJ7_copyOf_9075b_13 hw

def J7_copyOf_9075b_f (E : gE) (l0 : Nat) (l1 : Int32) (σ : gS) : Option (Nat × gS) := J7_copyOf_9075b E l0 l1 σ
set_option maxRecDepth 100000 in
theorem J7_copyOf_9075b_M (l : Launch) (E : gE) (D : va_G) (A : Nat → Prop) {l0 : Nat} {l1 : Int32} {σ : gS} {res : (Nat × gS)} (hf : J7_copyOf_9075b_f E l0 l1 σ = some res) : gCR l E D A yJ7_copyOf_9075b cJ7_copyOf_9075b 3 3 80 (some (FieldType.array FieldType.byte)) [.ref l0, .int l1] σ res := by
  refine gg_entR (own := RJ7) (nm := "copyOf") (ty := ((FieldType.array FieldType.byte))) (by decide +kernel) rfl rfl (Nat.le_of_ble_eq_true rfl) rfl (by first | exact Or.inl ⟨_, rfl⟩ | exact Or.inr ⟨_, rfl⟩) ?_
  intro p e R s m args below meth c Q ls hC hw hQ hl
  have hl : lv_has ls 3 [(0, .ref l0), (1, .int l1)] := hl
  exact J7_copyOf_9075b_W hC hQ hf hw hl

def J7_copyOf_59c91 (E : gE) (l0 : Nat) (l1 : Int32) (σ : gS) : Option (Nat × gS) :=
  ob (gal E 0 σ l0) fun x1 =>
  if l1 = x1 then
    none
  else
    ob (gnaI E σ l1) fun q3 =>
    ob (gal E 0 q3.2 l0) fun x5 =>
    ob (gcopy E q3.2 l0 (0 : Int32) q3.1 (0 : Int32) (gmin x5 l1)) fun x9 =>
    some (q3.1, x9)
set_option maxHeartbeats 4000000 in
set_option maxRecDepth 100000 in
theorem J7_copyOf_59c91_W {σ : gS} {l0 : Nat} {l1 : Int32} {res : (Nat × gS)} {ls : Array Slot} (hC : gC E D A p R s m args meth c cJ7_copyOf_59c91 3 RJ7 "copyOf" 3 80) (hQ : gQR E D A p l e R s m args below meth c Q cJ7_copyOf_59c91 res) (hf : J7_copyOf_59c91 E l0 l1 σ = some res) (hw : gW E D A s σ H locs) (hl : lv_has ls 3 [(0, .ref l0), (1, .int l1)]) : W p l e R s m args below meth c H locs cells slots Q (F0 m 0 ls []) := by
  have hC0 := hC
  obtain ⟨hx, hb, hml, hown, hts, -⟩ := hC0
  unfold J7_copyOf_59c91 at hf
  refine lv_iload_n hx hb dJ7_copyOf_59c91_0 rfl (lv_at hl 1 rfl) ?_
  refine lv_aload_n hx hb dJ7_copyOf_59c91_1 rfl (lv_at hl 0 rfl) ?_
  obtain ⟨x1, h2, hf⟩ := ob_some hf
  refine gg_alen hC hw h2 (Or.inr rfl) dJ7_copyOf_59c91_2 ?_
  refine lv_icmp_ne (tgt := 14) hx hb dJ7_copyOf_59c91_3 (by decide) (fun c13 => ?_) (fun c13 => ?_)
  · replace hf := (if_neg c13).symm.trans hf
    refine lv_iload_n hx hb dJ7_copyOf_59c91_14 rfl (lv_at hl 1 rfl) ?_
    obtain ⟨q3, h4, hf⟩ := ob_some hf
    refine gg_naI hC hw h4 dJ7_copyOf_59c91_15 (fun H locs cells slots hw => ?_)
    refine lv_astore_n (lv' := [(2, .ref q3.1), (0, .ref l0), (1, .int l1)]) hx hb dJ7_copyOf_59c91_17 rfl hl (by decide) rfl (fun ls hl => ?_)
    refine lv_aload_n hx hb dJ7_copyOf_59c91_18 rfl (lv_at hl 1 rfl) ?_
    refine lv_iconst (v := 0) hx hb dJ7_copyOf_59c91_19 (by decide) ?_
    refine lv_aload_n hx hb dJ7_copyOf_59c91_20 rfl (lv_at hl 0 rfl) ?_
    refine lv_iconst (v := 0) hx hb dJ7_copyOf_59c91_21 (by decide) ?_
    refine lv_aload_n hx hb dJ7_copyOf_59c91_22 rfl (lv_at hl 1 rfl) ?_
    obtain ⟨x5, h6, hf⟩ := ob_some hf
    refine gg_alen hC hw h6 (Or.inr rfl) dJ7_copyOf_59c91_23 ?_
    refine lv_iload_n hx hb dJ7_copyOf_59c91_24 rfl (lv_at hl 2 rfl) ?_
    refine gg_mmin hC hw ml_J7_304 rfl hl.1 (Nat.le_of_ble_eq_true rfl) (Nat.le_of_ble_eq_true rfl) (Nat.le_of_ble_eq_true rfl) dJ7_copyOf_59c91_25 (fun cells slots => ?_)
    obtain ⟨x9, h10, hf⟩ := ob_some hf
    refine gg_copy hC hw h10 ml_J7_150 hl.1 rfl (Nat.le_of_ble_eq_true rfl) (Nat.le_of_ble_eq_true rfl) (Nat.le_of_ble_eq_true rfl) dJ7_copyOf_59c91_28 (fun H locs hw => ?_)
    refine lv_aload_n hx hb dJ7_copyOf_59c91_31 rfl (lv_at hl 0 rfl) ?_
    cases hf
    exact hQ _ _ _ _ _ _ dJ7_copyOf_59c91_32 hw
  · replace hf := (if_pos c13).symm.trans hf
    refine lv_aload_n hx hb dJ7_copyOf_59c91_6 rfl (lv_at hl 0 rfl) ?_
    cases hf

def J7_copyOf_59c91_f (E : gE) (l0 : Nat) (l1 : Int32) (σ : gS) : Option (Nat × gS) := J7_copyOf_59c91 E l0 l1 σ
set_option maxRecDepth 100000 in
theorem J7_copyOf_59c91_M (l : Launch) (E : gE) (D : va_G) (A : Nat → Prop) {l0 : Nat} {l1 : Int32} {σ : gS} {res : (Nat × gS)} (hf : J7_copyOf_59c91_f E l0 l1 σ = some res) : gCR l E D A yJ7_copyOf_59c91 cJ7_copyOf_59c91 3 3 80 (some (FieldType.array FieldType.int)) [.ref l0, .int l1] σ res := by
  refine gg_entR (own := RJ7) (nm := "copyOf") (ty := ((FieldType.array FieldType.int))) (by decide +kernel) rfl rfl (Nat.le_of_ble_eq_true rfl) rfl (by first | exact Or.inl ⟨_, rfl⟩ | exact Or.inr ⟨_, rfl⟩) ?_
  intro p e R s m args below meth c Q ls hC hw hQ hl
  have hl : lv_has ls 3 [(0, .ref l0), (1, .int l1)] := hl
  exact J7_copyOf_59c91_W hC hQ hf hw hl

def J7_checkLength_df160 (E : gE) (l0 : Int32) (l1 : Int32) (σ : gS) : Option gS :=
  if l0 ≤ l1 then
    some σ
  else
    none
set_option maxHeartbeats 4000000 in
set_option maxRecDepth 100000 in
theorem J7_checkLength_df160_W {σ : gS} {l0 : Int32} {l1 : Int32} {σz : gS} {ls : Array Slot} (hC : gC E D A p R s m args meth c cJ7_checkLength_df160 2 RJ7 "checkLength" 0 0) (hQ : gQV E D A p l e R s m args below meth c Q cJ7_checkLength_df160 σz) (hf : J7_checkLength_df160 E l0 l1 σ = some σz) (hw : gW E D A s σ H locs) (hl : lv_has ls 2 [(0, .int l0), (1, .int l1)]) : W p l e R s m args below meth c H locs cells slots Q (F0 m 0 ls []) := by
  have hC0 := hC
  obtain ⟨hx, hb, hml, hown, hts, -⟩ := hC0
  unfold J7_checkLength_df160 at hf
  refine lv_iload_n hx hb dJ7_checkLength_df160_0 rfl (lv_at hl 1 rfl) ?_
  refine lv_iload_n hx hb dJ7_checkLength_df160_1 rfl (lv_at hl 0 rfl) ?_
  refine lv_icmp_ge (tgt := 37) hx hb dJ7_checkLength_df160_2 (by decide) (fun c1 => ?_) (fun c1 => ?_)
  · replace hf := (if_pos c1).symm.trans hf
    cases hf
    exact hQ _ _ _ _ _ _ dJ7_checkLength_df160_37 hw
  · replace hf := (if_neg c1).symm.trans hf
    cases hf

def J7_checkLength_df160_f (E : gE) (l0 : Int32) (l1 : Int32) (σ : gS) : Option gS := J7_checkLength_df160 E l0 l1 σ
set_option maxRecDepth 100000 in
theorem J7_checkLength_df160_M (l : Launch) (E : gE) (D : va_G) (A : Nat → Prop) {l0 : Int32} {l1 : Int32} {σ : gS} {σz : gS} (hf : J7_checkLength_df160_f E l0 l1 σ = some σz) : gCV l E D A yJ7_checkLength_df160 cJ7_checkLength_df160 2 0 0 none [.int l0, .int l1] σ σz := by
  refine gg_entV (own := RJ7) (nm := "checkLength") (by decide +kernel) rfl rfl (Nat.le_of_ble_eq_true rfl) rfl ?_
  intro p e R s m args below meth c Q ls hC hw hQ hl
  have hl : lv_has ls 2 [(0, .int l0), (1, .int l1)] := hl
  exact J7_checkLength_df160_W hC hQ hf hw hl

def J7_copyOfRangeByte_39247 (E : gE) (l0 : Nat) (l1 : Int32) (l2 : Int32) (σ : gS) : Option (Nat × gS) :=
  ob (J7_checkLength_df160_f E l1 l2 σ) fun x1 =>
  ob (gnaB E x1 (l2 - l1)) fun q3 =>
  ob (gal E 1 q3.2 l0) fun x5 =>
  ob (gcopyB E q3.2 l0 l1 q3.1 (0 : Int32) (gmin (x5 - l1) (l2 - l1))) fun x9 =>
  some (q3.1, x9)
set_option maxHeartbeats 4000000 in
set_option maxRecDepth 100000 in
theorem J7_copyOfRangeByte_39247_W {σ : gS} {l0 : Nat} {l1 : Int32} {l2 : Int32} {res : (Nat × gS)} {ls : Array Slot} (hC : gC E D A p R s m args meth c cJ7_copyOfRangeByte_39247 5 RJ7 "copyOfRangeByte" 3 80) (hQ : gQR E D A p l e R s m args below meth c Q cJ7_copyOfRangeByte_39247 res) (hf : J7_copyOfRangeByte_39247 E l0 l1 l2 σ = some res) (hw : gW E D A s σ H locs) (hl : lv_has ls 5 [(0, .ref l0), (1, .int l1), (2, .int l2)]) : W p l e R s m args below meth c H locs cells slots Q (F0 m 0 ls []) := by
  have hC0 := hC
  obtain ⟨hx, hb, hml, hown, hts, -⟩ := hC0
  unfold J7_copyOfRangeByte_39247 at hf
  refine lv_iload_n hx hb dJ7_copyOfRangeByte_39247_0 rfl (lv_at hl 1 rfl) ?_
  refine lv_iload_n hx hb dJ7_copyOfRangeByte_39247_1 rfl (lv_at hl 2 rfl) ?_
  obtain ⟨x1, h2, hf⟩ := ob_some hf
  refine gg_cSV (As := [.int l1, .int l2]) hC hw (J7_checkLength_df160_M l E D A h2) g_ml_J7_343 hd_J7_checkLength_df160.2 (Nat.le_of_ble_eq_true rfl) (Nat.le_of_ble_eq_true rfl) hl.1 rfl (Nat.le_of_ble_eq_true rfl) dJ7_copyOfRangeByte_39247_2 (fun H locs cells slots hw => ?_)
  refine lv_iload_n hx hb dJ7_copyOfRangeByte_39247_5 rfl (lv_at hl 2 rfl) ?_
  refine lv_iload_n hx hb dJ7_copyOfRangeByte_39247_6 rfl (lv_at hl 1 rfl) ?_
  refine lv_isub hx hb dJ7_copyOfRangeByte_39247_7 ?_
  refine lv_istore_n (lv' := [(3, .int (l2 - l1)), (0, .ref l0), (1, .int l1), (2, .int l2)]) hx hb dJ7_copyOfRangeByte_39247_8 rfl hl (by decide) rfl (fun ls hl => ?_)
  refine lv_iload_n hx hb dJ7_copyOfRangeByte_39247_9 rfl (lv_at hl 0 rfl) ?_
  obtain ⟨q3, h4, hf⟩ := ob_some hf
  refine gg_naB hC hw h4 dJ7_copyOfRangeByte_39247_10 (fun H locs cells slots hw => ?_)
  refine lv_astore (lv' := [(4, .ref q3.1), (3, .int (l2 - l1)), (0, .ref l0), (1, .int l1), (2, .int l2)]) hx hb dJ7_copyOfRangeByte_39247_12 hl (by decide) rfl (fun ls hl => ?_)
  refine lv_aload_n hx hb dJ7_copyOfRangeByte_39247_14 rfl (lv_at hl 2 rfl) ?_
  refine lv_iload_n hx hb dJ7_copyOfRangeByte_39247_15 rfl (lv_at hl 3 rfl) ?_
  refine lv_aload hx hb dJ7_copyOfRangeByte_39247_16 (lv_at hl 0 rfl) ?_
  refine lv_iconst (v := 0) hx hb dJ7_copyOfRangeByte_39247_18 (by decide) ?_
  refine lv_aload_n hx hb dJ7_copyOfRangeByte_39247_19 rfl (lv_at hl 2 rfl) ?_
  obtain ⟨x5, h6, hf⟩ := ob_some hf
  refine gg_alen hC hw h6 (Or.inr rfl) dJ7_copyOfRangeByte_39247_20 ?_
  refine lv_iload_n hx hb dJ7_copyOfRangeByte_39247_21 rfl (lv_at hl 3 rfl) ?_
  refine lv_isub hx hb dJ7_copyOfRangeByte_39247_22 ?_
  refine lv_iload_n hx hb dJ7_copyOfRangeByte_39247_23 rfl (lv_at hl 1 rfl) ?_
  refine gg_mmin hC hw ml_J7_304 rfl hl.1 (Nat.le_of_ble_eq_true rfl) (Nat.le_of_ble_eq_true rfl) (Nat.le_of_ble_eq_true rfl) dJ7_copyOfRangeByte_39247_24 (fun cells slots => ?_)
  obtain ⟨x9, h10, hf⟩ := ob_some hf
  refine gg_copyB hC hw h10 ml_J7_150 hl.1 rfl (Nat.le_of_ble_eq_true rfl) (Nat.le_of_ble_eq_true rfl) (Nat.le_of_ble_eq_true rfl) dJ7_copyOfRangeByte_39247_27 (fun H locs hw => ?_)
  refine lv_aload hx hb dJ7_copyOfRangeByte_39247_30 (lv_at hl 0 rfl) ?_
  cases hf
  exact hQ _ _ _ _ _ _ dJ7_copyOfRangeByte_39247_32 hw

def J7_copyOfRangeByte_39247_f (E : gE) (l0 : Nat) (l1 : Int32) (l2 : Int32) (σ : gS) : Option (Nat × gS) := J7_copyOfRangeByte_39247 E l0 l1 l2 σ
set_option maxRecDepth 100000 in
theorem J7_copyOfRangeByte_39247_M (l : Launch) (E : gE) (D : va_G) (A : Nat → Prop) {l0 : Nat} {l1 : Int32} {l2 : Int32} {σ : gS} {res : (Nat × gS)} (hf : J7_copyOfRangeByte_39247_f E l0 l1 l2 σ = some res) : gCR l E D A yJ7_copyOfRangeByte_39247 cJ7_copyOfRangeByte_39247 5 3 80 (some (FieldType.array FieldType.byte)) [.ref l0, .int l1, .int l2] σ res := by
  refine gg_entR (own := RJ7) (nm := "copyOfRangeByte") (ty := ((FieldType.array FieldType.byte))) (by decide +kernel) rfl rfl (Nat.le_of_ble_eq_true rfl) rfl (by first | exact Or.inl ⟨_, rfl⟩ | exact Or.inr ⟨_, rfl⟩) ?_
  intro p e R s m args below meth c Q ls hC hw hQ hl
  have hl : lv_has ls 5 [(0, .ref l0), (1, .int l1), (2, .int l2)] := hl
  exact J7_copyOfRangeByte_39247_W hC hQ hf hw hl

def J8_newLength_cabcc_21 (E : gE) (l0 : Int32) (l1 : Int32) (σ : gS) : Option (Int32 × gS) :=
  none
set_option maxHeartbeats 4000000 in
set_option maxRecDepth 100000 in
theorem J8_newLength_cabcc_21_W {σ : gS} {l0 : Int32} {l1 : Int32} {res : (Int32 × gS)} {ls : Array Slot} (hC : gC E D A p R s m args meth c cJ8_newLength_cabcc 4 RJ8 "newLength" 3 80) (hQ : gQI E D A p l e R s m args below meth c Q cJ8_newLength_cabcc FieldType.int res) (hf : J8_newLength_cabcc_21 E l0 l1 σ = some res) (hw : gW E D A s σ H locs) (hl : lv_has ls 4 [(0, .int l0), (1, .int l1)]) : W p l e R s m args below meth c H locs cells slots Q (F0 m 21 ls []) := by
  have hC0 := hC
  obtain ⟨hx, hb, hml, hown, hts, -⟩ := hC0
  unfold J8_newLength_cabcc_21 at hf
  refine lv_iload_n hx hb dJ8_newLength_cabcc_21 rfl (lv_at hl 0 rfl) ?_
  refine lv_iload_n hx hb dJ8_newLength_cabcc_22 rfl (lv_at hl 1 rfl) ?_
  cases hf

def J8_newLength_cabcc (E : gE) (l0 : Int32) (l1 : Int32) (l2 : Int32) (σ : gS) : Option (Int32 × gS) :=
  if (l0 + (gmax l1 l2)) ≤ (0 : Int32) then
    J8_newLength_cabcc_21 E l0 l1 σ
  else
    if (2147483639 : Int32) < (l0 + (gmax l1 l2)) then
      J8_newLength_cabcc_21 E l0 l1 σ
    else
      some ((l0 + (gmax l1 l2)), σ)
set_option maxHeartbeats 4000000 in
set_option maxRecDepth 100000 in
theorem J8_newLength_cabcc_W {σ : gS} {l0 : Int32} {l1 : Int32} {l2 : Int32} {res : (Int32 × gS)} {ls : Array Slot} (hC : gC E D A p R s m args meth c cJ8_newLength_cabcc 4 RJ8 "newLength" 3 80) (hQ : gQI E D A p l e R s m args below meth c Q cJ8_newLength_cabcc FieldType.int res) (hf : J8_newLength_cabcc E l0 l1 l2 σ = some res) (hw : gW E D A s σ H locs) (hl : lv_has ls 4 [(0, .int l0), (1, .int l1), (2, .int l2)]) : W p l e R s m args below meth c H locs cells slots Q (F0 m 0 ls []) := by
  have hC0 := hC
  obtain ⟨hx, hb, hml, hown, hts, -⟩ := hC0
  unfold J8_newLength_cabcc at hf
  refine lv_iload_n hx hb dJ8_newLength_cabcc_0 rfl (lv_at hl 0 rfl) ?_
  refine lv_iload_n hx hb dJ8_newLength_cabcc_1 rfl (lv_at hl 1 rfl) ?_
  refine lv_iload_n hx hb dJ8_newLength_cabcc_2 rfl (lv_at hl 2 rfl) ?_
  refine gg_mmax hC hw ml_J8_194 rfl hl.1 (Nat.le_of_ble_eq_true rfl) (Nat.le_of_ble_eq_true rfl) (Nat.le_of_ble_eq_true rfl) dJ8_newLength_cabcc_3 (fun cells slots => ?_)
  refine lv_iadd hx hb dJ8_newLength_cabcc_6 ?_
  refine lv_istore_n (lv' := [(3, .int (l0 + (gmax l1 l2))), (0, .int l0), (1, .int l1), (2, .int l2)]) hx hb dJ8_newLength_cabcc_7 rfl hl (by decide) rfl (fun ls hl => ?_)
  refine lv_iconst (v := 0) hx hb dJ8_newLength_cabcc_8 (by decide) ?_
  refine lv_iload_n hx hb dJ8_newLength_cabcc_9 rfl (lv_at hl 0 rfl) ?_
  refine lv_icmp_ge (tgt := 21) hx hb dJ8_newLength_cabcc_10 (by decide) (fun c6 => ?_) (fun c6 => ?_)
  · replace hf := (if_pos c6).symm.trans hf
    exact J8_newLength_cabcc_21_W hC hQ hf hw (lv_sub hl [1, 2] rfl)
  · replace hf := (if_neg c6).symm.trans hf
    refine lv_iload_n hx hb dJ8_newLength_cabcc_13 rfl (lv_at hl 0 rfl) ?_
    refine lv_ldc (v := 2147483639) hx hb hown (hts _ kc_J8_200) dJ8_newLength_cabcc_14 ?_
    refine lv_icmp_gt (tgt := 21) hx hb dJ8_newLength_cabcc_16 (by decide) (fun c5 => ?_) (fun c5 => ?_)
    · replace hf := (if_pos c5).symm.trans hf
      exact J8_newLength_cabcc_21_W hC hQ hf hw (lv_sub hl [1, 2] rfl)
    · replace hf := (if_neg c5).symm.trans hf
      refine lv_iload_n hx hb dJ8_newLength_cabcc_19 rfl (lv_at hl 0 rfl) ?_
      cases hf
      exact hQ _ _ _ _ _ _ dJ8_newLength_cabcc_20 rfl hw

def J8_newLength_cabcc_f (E : gE) (l0 : Int32) (l1 : Int32) (l2 : Int32) (σ : gS) : Option (Int32 × gS) := J8_newLength_cabcc E l0 l1 l2 σ
set_option maxRecDepth 100000 in
theorem J8_newLength_cabcc_M (l : Launch) (E : gE) (D : va_G) (A : Nat → Prop) {l0 : Int32} {l1 : Int32} {l2 : Int32} {σ : gS} {res : (Int32 × gS)} (hf : J8_newLength_cabcc_f E l0 l1 l2 σ = some res) : gCI l E D A yJ8_newLength_cabcc cJ8_newLength_cabcc 4 3 80 (some FieldType.int) [.int l0, .int l1, .int l2] σ res := by
  refine gg_entI (own := RJ8) (nm := "newLength") (ty := FieldType.int) (by decide +kernel) rfl rfl (Nat.le_of_ble_eq_true rfl) rfl ?_
  intro p e R s m args below meth c Q ls hC hw hQ hl
  have hl : lv_has ls 4 [(0, .int l0), (1, .int l1), (2, .int l2)] := hl
  exact J8_newLength_cabcc_W hC hQ hf hw hl

def J3_checkIndex_8e157_9 (E : gE) (σ : gS) (l0 : Int32) (l1 : Int32) (l2 : Option Nat) : Option Int32 :=
  none
set_option maxHeartbeats 4000000 in
set_option maxRecDepth 100000 in
theorem J3_checkIndex_8e157_9_W {σ : gS} {l0 : Int32} {l1 : Int32} {l2 : Option Nat} {res : Int32} {ls : Array Slot} (hC : gC E D A p R s m args meth c cJ3_checkIndex_8e157 3 RJ3 "checkIndex" 0 0) (hQ : gQI E D A p l e R s m args below meth c Q cJ3_checkIndex_8e157 FieldType.int (res, σ)) (hf : J3_checkIndex_8e157_9 E σ l0 l1 l2 = some res) (hw : gW E D A s σ H locs) (hl : lv_has ls 3 [(0, .int l0), (1, .int l1), (2, va_rf l2)]) : W p l e R s m args below meth c H locs cells slots Q (F0 m 9 ls []) := by
  have hC0 := hC
  obtain ⟨hx, hb, hml, hown, hts, -⟩ := hC0
  unfold J3_checkIndex_8e157_9 at hf
  cases hf

def J3_checkIndex_8e157 (E : gE) (σ : gS) (l0 : Int32) (l1 : Int32) (l2 : Option Nat) : Option Int32 :=
  if l0 < 0 then
    J3_checkIndex_8e157_9 E σ l0 l1 l2
  else
    if l0 < l1 then
      some l0
    else
      J3_checkIndex_8e157_9 E σ l0 l1 l2
set_option maxHeartbeats 4000000 in
set_option maxRecDepth 100000 in
theorem J3_checkIndex_8e157_W {σ : gS} {l0 : Int32} {l1 : Int32} {l2 : Option Nat} {res : Int32} {ls : Array Slot} (hC : gC E D A p R s m args meth c cJ3_checkIndex_8e157 3 RJ3 "checkIndex" 0 0) (hQ : gQI E D A p l e R s m args below meth c Q cJ3_checkIndex_8e157 FieldType.int (res, σ)) (hf : J3_checkIndex_8e157 E σ l0 l1 l2 = some res) (hw : gW E D A s σ H locs) (hl : lv_has ls 3 [(0, .int l0), (1, .int l1), (2, va_rf l2)]) : W p l e R s m args below meth c H locs cells slots Q (F0 m 0 ls []) := by
  have hC0 := hC
  obtain ⟨hx, hb, hml, hown, hts, -⟩ := hC0
  unfold J3_checkIndex_8e157 at hf
  refine lv_iload_n hx hb dJ3_checkIndex_8e157_0 rfl (lv_at hl 0 rfl) ?_
  refine lv_if_lt (tgt := 9) hx hb dJ3_checkIndex_8e157_1 (by decide) (fun c2 => ?_) (fun c2 => ?_)
  · replace hf := (if_pos c2).symm.trans hf
    exact J3_checkIndex_8e157_9_W hC hQ hf hw (lv_sub hl [0, 1, 2] rfl)
  · replace hf := (if_neg c2).symm.trans hf
    refine lv_iload_n hx hb dJ3_checkIndex_8e157_4 rfl (lv_at hl 0 rfl) ?_
    refine lv_iload_n hx hb dJ3_checkIndex_8e157_5 rfl (lv_at hl 1 rfl) ?_
    refine lv_icmp_lt (tgt := 16) hx hb dJ3_checkIndex_8e157_6 (by decide) (fun c1 => ?_) (fun c1 => ?_)
    · replace hf := (if_pos c1).symm.trans hf
      refine lv_iload_n hx hb dJ3_checkIndex_8e157_16 rfl (lv_at hl 0 rfl) ?_
      cases hf
      exact hQ _ _ _ _ _ _ dJ3_checkIndex_8e157_17 rfl hw
    · replace hf := (if_neg c1).symm.trans hf
      exact J3_checkIndex_8e157_9_W hC hQ hf hw (lv_sub hl [0, 1, 2] rfl)

def J3_checkIndex_8e157_f (E : gE) (σ : gS) (l0 : Int32) (l1 : Int32) (l2 : Option Nat) : Option Int32 := J3_checkIndex_8e157 E σ l0 l1 l2
set_option maxRecDepth 100000 in
theorem J3_checkIndex_8e157_M (l : Launch) (E : gE) (D : va_G) (A : Nat → Prop) {l0 : Int32} {l1 : Int32} {l2 : Option Nat} {σ : gS} {res : Int32} (hf : J3_checkIndex_8e157_f E σ l0 l1 l2 = some res) : gCI l E D A yJ3_checkIndex_8e157 cJ3_checkIndex_8e157 3 0 0 (some FieldType.int) [.int l0, .int l1, va_rf l2] σ (res, σ) := by
  cases l2 <;> (
  refine gg_entI (own := RJ3) (nm := "checkIndex") (ty := FieldType.int) (by decide +kernel) rfl rfl (Nat.le_of_ble_eq_true rfl) rfl ?_
  intro p e R s m args below meth c Q ls hC hw hQ hl
  exact J3_checkIndex_8e157_W hC hQ hf hw hl)

def J0_coder_7d493m (E : gE) (σ : gS) (l0 : Nat) : Option Int32 :=
  if (1 : Int32) = 0 then
    some (1 : Int32)
  else
    ob (gfI σ l0 12 1) fun x1 =>
    ob (gby x1) fun _ =>
    some x1
set_option maxHeartbeats 4000000 in
set_option maxRecDepth 100000 in
theorem J0_coder_7d493m_W {σ : gS} {l0 : Nat} {res : Int32} {ls : Array Slot} (hC : gC E D A p R s m args meth c cJ0_coder_7d493 1 RJ0 "coder" 0 0) (hQ : gQI E D A p l e R s m args below meth c Q cJ0_coder_7d493 FieldType.byte (res, σ)) (hf : J0_coder_7d493m E σ l0 = some res) (hw : gW E D A s σ H locs) (hl : lv_has ls 1 [(0, .ref l0)]) : W p l e R s m args below meth c H locs cells slots Q (F0 m 0 ls []) := by
  have hC0 := hC
  obtain ⟨hx, hb, hml, hown, hts, -⟩ := hC0
  unfold J0_coder_7d493m at hf
  refine gg_gets hC hw (k := 2) rfl fl_J0_38 dJ0_coder_7d493_0 ?_
  refine lv_if_eq (tgt := 13) hx hb dJ0_coder_7d493_3 (by decide) (fun c4 => ?_) (fun c4 => ?_)
  · replace hf := (if_pos c4).symm.trans hf
    refine lv_iconst (v := 1) hx hb dJ0_coder_7d493_13 (by decide) ?_
    cases hf
    exact hQ _ _ _ _ _ _ dJ0_coder_7d493_14 rfl hw
  · replace hf := (if_neg c4).symm.trans hf
    refine lv_aload_n hx hb dJ0_coder_7d493_6 rfl (lv_at hl 0 rfl) ?_
    obtain ⟨x1, h2, hf⟩ := ob_some hf
    refine rI_fl_J0_15 hC hw h2 dJ0_coder_7d493_7 ?_
    refine lv_goto (tgt := 14) hx hb dJ0_coder_7d493_10 (by decide) ?_
    obtain ⟨_, h3, hf⟩ := ob_some hf
    cases hf
    exact hQ _ _ _ _ _ _ dJ0_coder_7d493_14 (gby_some h3) hw

def J0_coder_7d493m_f (E : gE) (σ : gS) (l0 : Nat) : Option Int32 := J0_coder_7d493m E σ l0
set_option maxRecDepth 100000 in
theorem J0_coder_7d493m_M (l : Launch) (E : gE) (D : va_G) (A : Nat → Prop) {l0 : Nat} {σ : gS} {res : Int32} (hf : J0_coder_7d493m_f E σ l0 = some res) : gCI l E D A yJ0_coder_7d493 cJ0_coder_7d493 1 0 0 (some FieldType.byte) [.ref l0] σ (res, σ) := by
  refine gg_entI (own := RJ0) (nm := "coder") (ty := FieldType.byte) (by decide +kernel) rfl rfl (Nat.le_of_ble_eq_true rfl) rfl ?_
  intro p e R s m args below meth c Q ls hC hw hQ hl
  have hl : lv_has ls 1 [(0, .ref l0)] := hl
  exact J0_coder_7d493m_W hC hQ hf hw hl

def J0_isLatin1_aae02m_17 (E : gE) (σ : gS) : Option Int32 :=
  some (0 : Int32)
set_option maxHeartbeats 4000000 in
set_option maxRecDepth 100000 in
theorem J0_isLatin1_aae02m_17_W {σ : gS} {res : Int32} {ls : Array Slot} (hC : gC E D A p R s m args meth c cJ0_isLatin1_aae02 1 RJ0 "isLatin1" 0 0) (hQ : gQI E D A p l e R s m args below meth c Q cJ0_isLatin1_aae02 FieldType.boolean (res, σ)) (hf : J0_isLatin1_aae02m_17 E σ = some res) (hw : gW E D A s σ H locs) (hl : lv_has ls 1 []) : W p l e R s m args below meth c H locs cells slots Q (F0 m 17 ls []) := by
  have hC0 := hC
  obtain ⟨hx, hb, hml, hown, hts, -⟩ := hC0
  unfold J0_isLatin1_aae02m_17 at hf
  refine lv_iconst (v := 0) hx hb dJ0_isLatin1_aae02_17 (by decide) ?_
  cases hf
  exact hQ _ _ _ _ _ _ dJ0_isLatin1_aae02_18 gz0 hw

def J0_isLatin1_aae02m (E : gE) (σ : gS) (l0 : Nat) : Option Int32 :=
  if (1 : Int32) = 0 then
    J0_isLatin1_aae02m_17 E σ
  else
    ob (gfI σ l0 12 1) fun x1 =>
    if x1 = 0 then
      some (1 : Int32)
    else
      J0_isLatin1_aae02m_17 E σ
set_option maxHeartbeats 4000000 in
set_option maxRecDepth 100000 in
theorem J0_isLatin1_aae02m_W {σ : gS} {l0 : Nat} {res : Int32} {ls : Array Slot} (hC : gC E D A p R s m args meth c cJ0_isLatin1_aae02 1 RJ0 "isLatin1" 0 0) (hQ : gQI E D A p l e R s m args below meth c Q cJ0_isLatin1_aae02 FieldType.boolean (res, σ)) (hf : J0_isLatin1_aae02m E σ l0 = some res) (hw : gW E D A s σ H locs) (hl : lv_has ls 1 [(0, .ref l0)]) : W p l e R s m args below meth c H locs cells slots Q (F0 m 0 ls []) := by
  have hC0 := hC
  obtain ⟨hx, hb, hml, hown, hts, -⟩ := hC0
  unfold J0_isLatin1_aae02m at hf
  refine gg_gets hC hw (k := 2) rfl fl_J0_38 dJ0_isLatin1_aae02_0 ?_
  refine lv_if_eq (tgt := 17) hx hb dJ0_isLatin1_aae02_3 (by decide) (fun c4 => ?_) (fun c4 => ?_)
  · replace hf := (if_pos c4).symm.trans hf
    exact J0_isLatin1_aae02m_17_W hC hQ hf hw (lv_sub hl [] rfl)
  · replace hf := (if_neg c4).symm.trans hf
    refine lv_aload_n hx hb dJ0_isLatin1_aae02_6 rfl (lv_at hl 0 rfl) ?_
    obtain ⟨x1, h2, hf⟩ := ob_some hf
    refine rI_fl_J0_15 hC hw h2 dJ0_isLatin1_aae02_7 ?_
    refine lv_if_ne (tgt := 17) hx hb dJ0_isLatin1_aae02_10 (by decide) (fun c3 => ?_) (fun c3 => ?_)
    · replace hf := (if_neg c3).symm.trans hf
      exact J0_isLatin1_aae02m_17_W hC hQ hf hw (lv_sub hl [] rfl)
    · replace hf := (if_pos c3).symm.trans hf
      refine lv_iconst (v := 1) hx hb dJ0_isLatin1_aae02_13 (by decide) ?_
      refine lv_goto (tgt := 18) hx hb dJ0_isLatin1_aae02_14 (by decide) ?_
      cases hf
      exact hQ _ _ _ _ _ _ dJ0_isLatin1_aae02_18 gz1 hw

def J0_isLatin1_aae02m_f (E : gE) (σ : gS) (l0 : Nat) : Option Int32 := J0_isLatin1_aae02m E σ l0
set_option maxRecDepth 100000 in
theorem J0_isLatin1_aae02m_M (l : Launch) (E : gE) (D : va_G) (A : Nat → Prop) {l0 : Nat} {σ : gS} {res : Int32} (hf : J0_isLatin1_aae02m_f E σ l0 = some res) : gCI l E D A yJ0_isLatin1_aae02 cJ0_isLatin1_aae02 1 0 0 (some FieldType.boolean) [.ref l0] σ (res, σ) := by
  refine gg_entI (own := RJ0) (nm := "isLatin1") (ty := FieldType.boolean) (by decide +kernel) rfl rfl (Nat.le_of_ble_eq_true rfl) rfl ?_
  intro p e R s m args below meth c Q ls hC hw hQ hl
  have hl : lv_has ls 1 [(0, .ref l0)] := hl
  exact J0_isLatin1_aae02m_W hC hQ hf hw hl

def X1_init (E : gE) (l0 : Nat) (σ : gS) : Option gS :=
  ob (gnaI E σ (60 : Int32)) fun q1 =>
  ob (gpf E q1.2 l0 0 0 (.ref q1.1)) fun σ3 =>
  ob (gnew E σ3 2 [.null, .int 0]) fun q5 =>
  ob (X3_init_f E q5.1 q5.2) fun x7 =>
  ob (gpf E x7 l0 0 1 (.ref q5.1)) fun σ9 =>
  some σ9
set_option maxHeartbeats 4000000 in
set_option maxRecDepth 100000 in
theorem X1_init_W {σ : gS} {l0 : Nat} {σz : gS} {ls : Array Slot} (hC : gC E D A p R s m args meth c cX1_init 1 RX1 "<init>" 4 100) (hQ : gQV E D A p l e R s m args below meth c Q cX1_init σz) (hf : X1_init E l0 σ = some σz) (hw : gW E D A s σ H locs) (hl : lv_has ls 1 [(0, .ref l0)]) : W p l e R s m args below meth c H locs cells slots Q (F0 m 0 ls []) := by
  have hC0 := hC
  obtain ⟨hx, hb, hml, hown, hts, -⟩ := hC0
  unfold X1_init at hf
  refine lv_aload_n hx hb dX1_init_0 rfl (lv_at hl 0 rfl) ?_
  refine gg_obj hC rfl (hts _ ml_X1_3) hl.1 (Nat.le_of_ble_eq_true rfl) dX1_init_1 (Nat.le_of_ble_eq_true rfl) (Nat.le_of_ble_eq_true rfl) ?_
  refine lv_aload_n hx hb dX1_init_4 rfl (lv_at hl 0 rfl) ?_
  refine lv_bipush (v := 60) hx hb dX1_init_5 (by decide) ?_
  obtain ⟨q1, h2, hf⟩ := ob_some hf
  refine gg_naI hC hw h2 dX1_init_7 (fun H locs cells slots hw => ?_)
  obtain ⟨σ3, h4, hf⟩ := ob_some hf
  refine pF_fl_X1_9 hC hw h4 rfl rfl dX1_init_9 (fun H locs hw => ?_)
  refine lv_aload_n hx hb dX1_init_12 rfl (lv_at hl 0 rfl) ?_
  obtain ⟨q5, h6, hf⟩ := ob_some hf
  refine n_cl_X1_15 hC hw h6 dX1_init_13 (fun H locs cells slots hw => ?_)
  refine lv_dup hx hb dX1_init_16 rfl ?_
  obtain ⟨x7, h8, hf⟩ := ob_some hf
  refine gg_cNV (As := []) hC hw (X3_init_M l E D A h8) co_X3_init in_X3 mn_X1_17 im_X3_init rfl hd_X3_init.2 (Nat.le_of_ble_eq_true rfl) (Nat.le_of_ble_eq_true rfl) hl.1 rfl (Nat.le_of_ble_eq_true rfl) dX1_init_17 (fun H locs cells slots hw => ?_)
  obtain ⟨σ9, h10, hf⟩ := ob_some hf
  refine pF_fl_X1_18 hC hw h10 rfl rfl dX1_init_20 (fun H locs hw => ?_)
  cases hf
  exact hQ _ _ _ _ _ _ dX1_init_23 hw

def X1_init_f (E : gE) (l0 : Nat) (σ : gS) : Option gS := X1_init E l0 σ
set_option maxRecDepth 100000 in
theorem X1_init_M (l : Launch) (E : gE) (D : va_G) (A : Nat → Prop) {l0 : Nat} {σ : gS} {σz : gS} (hf : X1_init_f E l0 σ = some σz) : gCV l E D A yX1_init cX1_init 1 4 100 none [.ref l0] σ σz := by
  refine gg_entV (own := RX1) (nm := "<init>") (by decide +kernel) rfl rfl (Nat.le_of_ble_eq_true rfl) rfl ?_
  intro p e R s m args below meth c Q ls hC hw hQ hl
  have hl : lv_has ls 1 [(0, .ref l0)] := hl
  exact X1_init_W hC hQ hf hw hl

def X1_codeAt (E : gE) (σ : gS) (l0 : Nat) (l1 : Int32) : Option Int32 :=
  ob (gfR σ l0 0 1) fun x1 =>
  ob (gfR σ l0 0 0) fun x3 =>
  ob (graI E 0 σ x3 l1) fun x5 =>
  ob (gcl σ x1 2) fun _ =>
  ob (X3_find_f E σ x1 x5) fun x7 =>
  some x7
set_option maxHeartbeats 4000000 in
set_option maxRecDepth 100000 in
theorem X1_codeAt_W {σ : gS} {l0 : Nat} {l1 : Int32} {res : Int32} {ls : Array Slot} (hC : gC E D A p R s m args meth c cX1_codeAt 2 RX1 "codeAt" 2 46) (hQ : gQI E D A p l e R s m args below meth c Q cX1_codeAt FieldType.int (res, σ)) (hf : X1_codeAt E σ l0 l1 = some res) (hw : gW E D A s σ H locs) (hl : lv_has ls 2 [(0, .ref l0), (1, .int l1)]) : W p l e R s m args below meth c H locs cells slots Q (F0 m 0 ls []) := by
  have hC0 := hC
  obtain ⟨hx, hb, hml, hown, hts, -⟩ := hC0
  unfold X1_codeAt at hf
  refine lv_aload_n hx hb dX1_codeAt_0 rfl (lv_at hl 0 rfl) ?_
  obtain ⟨x1, h2, hf⟩ := ob_some hf
  refine rR_fl_X1_18 hC hw h2 dX1_codeAt_1 ?_
  refine lv_aload_n hx hb dX1_codeAt_4 rfl (lv_at hl 0 rfl) ?_
  obtain ⟨x3, h4, hf⟩ := ob_some hf
  refine rR_fl_X1_9 hC hw h4 dX1_codeAt_5 ?_
  refine lv_iload_n hx hb dX1_codeAt_8 rfl (lv_at hl 1 rfl) ?_
  obtain ⟨x5, h6, hf⟩ := ob_some hf
  refine gg_aldI hC hw h6 dX1_codeAt_9 ?_
  obtain ⟨_, h9, hf⟩ := ob_some hf
  obtain ⟨x7, h8, hf⟩ := ob_some hf
  refine gg_cVI (As := [.int x5]) hC hw (X3_find_M l E D A h8) h9 rfl g_ml_X1_26 hd_X3_find (Nat.le_of_ble_eq_true rfl) (Nat.le_of_ble_eq_true rfl) hl.1 rfl (Nat.le_of_ble_eq_true rfl) dX1_codeAt_10 (fun H locs cells slots hw => ?_)
  cases hf
  exact hQ _ _ _ _ _ _ dX1_codeAt_13 rfl hw

def X1_codeAt_f (E : gE) (σ : gS) (l0 : Nat) (l1 : Int32) : Option Int32 := X1_codeAt E σ l0 l1
set_option maxRecDepth 100000 in
theorem X1_codeAt_M (l : Launch) (E : gE) (D : va_G) (A : Nat → Prop) {l0 : Nat} {l1 : Int32} {σ : gS} {res : Int32} (hf : X1_codeAt_f E σ l0 l1 = some res) : gCI l E D A yX1_codeAt cX1_codeAt 2 2 46 (some FieldType.int) [.ref l0, .int l1] σ (res, σ) := by
  refine gg_entI (own := RX1) (nm := "codeAt") (ty := FieldType.int) (by decide +kernel) rfl rfl (Nat.le_of_ble_eq_true rfl) rfl ?_
  intro p e R s m args below meth c Q ls hC hw hQ hl
  have hl : lv_has ls 2 [(0, .ref l0), (1, .int l1)] := hl
  exact X1_codeAt_W hC hQ hf hw hl

def X1_clear (E : gE) (l0 : Nat) (σ : gS) : Option gS :=
  ob (gpf E σ l0 0 2 (.int (0 : Int32))) fun σ1 =>
  ob (gfR σ1 l0 0 1) fun x3 =>
  ob (gcl σ1 x3 2) fun _ =>
  ob (X3_clear_f E x3 σ1) fun x5 =>
  some x5
set_option maxHeartbeats 4000000 in
set_option maxRecDepth 100000 in
theorem X1_clear_W {σ : gS} {l0 : Nat} {σz : gS} {ls : Array Slot} (hC : gC E D A p R s m args meth c cX1_clear 1 RX1 "clear" 1 20) (hQ : gQV E D A p l e R s m args below meth c Q cX1_clear σz) (hf : X1_clear E l0 σ = some σz) (hw : gW E D A s σ H locs) (hl : lv_has ls 1 [(0, .ref l0)]) : W p l e R s m args below meth c H locs cells slots Q (F0 m 0 ls []) := by
  have hC0 := hC
  obtain ⟨hx, hb, hml, hown, hts, -⟩ := hC0
  unfold X1_clear at hf
  refine lv_aload_n hx hb dX1_clear_0 rfl (lv_at hl 0 rfl) ?_
  refine lv_iconst (v := 0) hx hb dX1_clear_1 (by decide) ?_
  obtain ⟨σ1, h2, hf⟩ := ob_some hf
  refine p_fl_X1_22 hC hw h2 rfl rfl dX1_clear_2 (fun H locs hw => ?_)
  refine lv_aload_n hx hb dX1_clear_5 rfl (lv_at hl 0 rfl) ?_
  obtain ⟨x3, h4, hf⟩ := ob_some hf
  refine rR_fl_X1_18 hC hw h4 dX1_clear_6 ?_
  obtain ⟨_, h7, hf⟩ := ob_some hf
  obtain ⟨x5, h6, hf⟩ := ob_some hf
  refine gg_cVV (As := []) hC hw (X3_clear_M l E D A h6) h7 rfl g_ml_X1_30 hd_X3_clear (Nat.le_of_ble_eq_true rfl) (Nat.le_of_ble_eq_true rfl) hl.1 rfl (Nat.le_of_ble_eq_true rfl) dX1_clear_9 (fun H locs cells slots hw => ?_)
  cases hf
  exact hQ _ _ _ _ _ _ dX1_clear_12 hw

def X1_clear_f (E : gE) (l0 : Nat) (σ : gS) : Option gS := X1_clear E l0 σ
set_option maxRecDepth 100000 in
theorem X1_clear_M (l : Launch) (E : gE) (D : va_G) (A : Nat → Prop) {l0 : Nat} {σ : gS} {σz : gS} (hf : X1_clear_f E l0 σ = some σz) : gCV l E D A yX1_clear cX1_clear 1 1 20 none [.ref l0] σ σz := by
  refine gg_entV (own := RX1) (nm := "clear") (by decide +kernel) rfl rfl (Nat.le_of_ble_eq_true rfl) rfl ?_
  intro p e R s m args below meth c Q ls hC hw hQ hl
  have hl : lv_has ls 1 [(0, .ref l0)] := hl
  exact X1_clear_W hC hQ hf hw hl

def X1_reorder (E : gE) (l0 : Nat) (l1 : Nat) (σ : gS) : Option gS :=
  ob (gfR σ l0 0 0) fun x1 =>
  ob (gcl σ l1 8) fun _ =>
  ob (X10_applyTo_f E l1 x1 σ) fun x3 =>
  some x3
set_option maxHeartbeats 4000000 in
set_option maxRecDepth 100000 in
theorem X1_reorder_W {σ : gS} {l0 : Nat} {l1 : Nat} {σz : gS} {ls : Array Slot} (hC : gC E D A p R s m args meth c cX1_reorder 2 RX1 "reorder" 4 102) (hQ : gQV E D A p l e R s m args below meth c Q cX1_reorder σz) (hf : X1_reorder E l0 l1 σ = some σz) (hw : gW E D A s σ H locs) (hl : lv_has ls 2 [(0, .ref l0), (1, .ref l1)]) : W p l e R s m args below meth c H locs cells slots Q (F0 m 0 ls []) := by
  have hC0 := hC
  obtain ⟨hx, hb, hml, hown, hts, -⟩ := hC0
  unfold X1_reorder at hf
  refine lv_aload_n hx hb dX1_reorder_0 rfl (lv_at hl 1 rfl) ?_
  refine lv_aload_n hx hb dX1_reorder_1 rfl (lv_at hl 0 rfl) ?_
  obtain ⟨x1, h2, hf⟩ := ob_some hf
  refine rR_fl_X1_9 hC hw h2 dX1_reorder_2 ?_
  obtain ⟨_, h5, hf⟩ := ob_some hf
  obtain ⟨x3, h4, hf⟩ := ob_some hf
  refine gg_cVV (As := [.ref x1]) hC hw (X10_applyTo_M l E D A h4) h5 rfl g_ml_X1_37 hd_X10_applyTo (Nat.le_of_ble_eq_true rfl) (Nat.le_of_ble_eq_true rfl) hl.1 rfl (Nat.le_of_ble_eq_true rfl) dX1_reorder_5 (fun H locs cells slots hw => ?_)
  cases hf
  exact hQ _ _ _ _ _ _ dX1_reorder_8 hw

def X1_reorder_f (E : gE) (l0 : Nat) (l1 : Nat) (σ : gS) : Option gS := X1_reorder E l0 l1 σ
set_option maxRecDepth 100000 in
theorem X1_reorder_M (l : Launch) (E : gE) (D : va_G) (A : Nat → Prop) {l0 : Nat} {l1 : Nat} {σ : gS} {σz : gS} (hf : X1_reorder_f E l0 l1 σ = some σz) : gCV l E D A yX1_reorder cX1_reorder 2 4 102 none [.ref l0, .ref l1] σ σz := by
  refine gg_entV (own := RX1) (nm := "reorder") (by decide +kernel) rfl rfl (Nat.le_of_ble_eq_true rfl) rfl ?_
  intro p e R s m args below meth c Q ls hC hw hQ hl
  have hl : lv_has ls 2 [(0, .ref l0), (1, .ref l1)] := hl
  exact X1_reorder_W hC hQ hf hw hl

def X1_commonest_58 (E : gE) (σ : gS) (r_6 : Nat → Int32 → Int32 → Int32 → Option Int32) (l0 : Nat) (l1 : Int32) (l2 : Int32) (l3 : Int32) : Option Int32 :=
  r_6 l0 l1 l2 (l3 + 1)
set_option maxHeartbeats 4000000 in
set_option maxRecDepth 100000 in
theorem X1_commonest_58_W {σ : gS} {l0 : Nat} {l1 : Int32} {l2 : Int32} {l3 : Int32} {res : Int32} {ls : Array Slot} (hC : gC E D A p R s m args meth c cX1_commonest 5 RX1 "commonest" 2 46) (hQ : gQI E D A p l e R s m args below meth c Q cX1_commonest FieldType.int (res, σ)) {r_6 : Nat → Int32 → Int32 → Int32 → Option Int32} (h_6 : ∀ {l0 : Nat} {l1 : Int32} {l2 : Int32} {l3 : Int32} {H : Heap} {locs : List Loc} {cells slots : Nat} {ls : Array Slot}, r_6 l0 l1 l2 l3 = some res → gW E D A s σ H locs → lv_has ls 5 [(0, .ref l0), (1, .int l1), (2, .int l2), (3, .int l3)] → W p l e R s m args below meth c H locs cells slots Q (F0 m 6 ls [])) (hf : X1_commonest_58 E σ r_6 l0 l1 l2 l3 = some res) (hw : gW E D A s σ H locs) (hl : lv_has ls 5 [(0, .ref l0), (1, .int l1), (2, .int l2), (3, .int l3)]) : W p l e R s m args below meth c H locs cells slots Q (F0 m 58 ls []) := by
  have hC0 := hC
  obtain ⟨hx, hb, hml, hown, hts, -⟩ := hC0
  unfold X1_commonest_58 at hf
  refine lv_iinc (v := (l3 + 1)) (lv' := [(3, .int (l3 + 1)), (0, .ref l0), (1, .int l1), (2, .int l2)]) hx hb dX1_commonest_58 hl (k := 3) rfl rfl (by decide) rfl (fun ls hl => ?_)
  refine lv_goto (tgt := 6) hx hb dX1_commonest_61 (by decide) ?_
  exact h_6 hf hw (lv_sub hl [1, 2, 3, 0] rfl)

def X1_commonest_48 (E : gE) (σ : gS) (r_6 : Nat → Int32 → Int32 → Int32 → Option Int32) (l0 : Nat) (l3 : Int32) (l4 : Int32) : Option Int32 :=
  ob (gfR σ l0 0 0) fun x1 =>
  ob (graI E 0 σ x1 l3) fun x3 =>
  X1_commonest_58 E σ r_6 l0 l4 x3 l3
set_option maxHeartbeats 4000000 in
set_option maxRecDepth 100000 in
theorem X1_commonest_48_W {σ : gS} {l0 : Nat} {l3 : Int32} {l4 : Int32} {res : Int32} {ls : Array Slot} (hC : gC E D A p R s m args meth c cX1_commonest 5 RX1 "commonest" 2 46) (hQ : gQI E D A p l e R s m args below meth c Q cX1_commonest FieldType.int (res, σ)) {r_6 : Nat → Int32 → Int32 → Int32 → Option Int32} (h_6 : ∀ {l0 : Nat} {l1 : Int32} {l2 : Int32} {l3 : Int32} {H : Heap} {locs : List Loc} {cells slots : Nat} {ls : Array Slot}, r_6 l0 l1 l2 l3 = some res → gW E D A s σ H locs → lv_has ls 5 [(0, .ref l0), (1, .int l1), (2, .int l2), (3, .int l3)] → W p l e R s m args below meth c H locs cells slots Q (F0 m 6 ls [])) (hf : X1_commonest_48 E σ r_6 l0 l3 l4 = some res) (hw : gW E D A s σ H locs) (hl : lv_has ls 5 [(0, .ref l0), (3, .int l3), (4, .int l4)]) : W p l e R s m args below meth c H locs cells slots Q (F0 m 48 ls []) := by
  have hC0 := hC
  obtain ⟨hx, hb, hml, hown, hts, -⟩ := hC0
  unfold X1_commonest_48 at hf
  refine lv_iload hx hb dX1_commonest_48 (lv_at hl 2 rfl) ?_
  refine lv_istore_n (lv' := [(1, .int l4), (0, .ref l0), (3, .int l3), (4, .int l4)]) hx hb dX1_commonest_50 rfl hl (by decide) rfl (fun ls hl => ?_)
  refine lv_aload_n hx hb dX1_commonest_51 rfl (lv_at hl 1 rfl) ?_
  obtain ⟨x1, h2, hf⟩ := ob_some hf
  refine rR_fl_X1_9 hC hw h2 dX1_commonest_52 ?_
  refine lv_iload_n hx hb dX1_commonest_55 rfl (lv_at hl 2 rfl) ?_
  obtain ⟨x3, h4, hf⟩ := ob_some hf
  refine gg_aldI hC hw h4 dX1_commonest_56 ?_
  refine lv_istore_n (lv' := [(2, .int x3), (1, .int l4), (0, .ref l0), (3, .int l3), (4, .int l4)]) hx hb dX1_commonest_57 rfl hl (by decide) rfl (fun ls hl => ?_)
  exact X1_commonest_58_W hC hQ h_6 hf hw (lv_sub hl [2, 1, 0, 3] rfl)

def X1_commonest_6_s (E : gE) (σ : gS) (r_6 : Nat → Int32 → Int32 → Int32 → Option Int32) (l0 : Nat) (l1 : Int32) (l2 : Int32) (l3 : Int32) : Option Int32 :=
  ob (gfI σ l0 0 2) fun x5 =>
  if x5 ≤ l3 then
    if l1 ≤ 0 then
      some (-1 : Int32)
    else
      ob (gfR σ l0 0 1) fun x7 =>
      ob (gcl σ x7 2) fun _ =>
      ob (X3_find_f E σ x7 l2) fun x9 =>
      some x9
  else
    ob (gfR σ l0 0 0) fun x13 =>
    ob (graI E 0 σ x13 l3) fun x15 =>
    ob (gcl σ l0 0) fun _ =>
    ob (X1_occurrences_f E σ l0 x15) fun x17 =>
    if l1 < x17 then
      X1_commonest_48 E σ r_6 l0 l3 x17
    else
      if x17 = l1 then
        ob (gfR σ l0 0 0) fun x20 =>
        ob (graI E 0 σ x20 l3) fun x22 =>
        if l2 ≤ x22 then
          X1_commonest_58 E σ r_6 l0 l1 l2 l3
        else
          X1_commonest_48 E σ r_6 l0 l3 x17
      else
        X1_commonest_58 E σ r_6 l0 l1 l2 l3
set_option maxHeartbeats 4000000 in
set_option maxRecDepth 100000 in
theorem X1_commonest_6_s_W {σ : gS} {l0 : Nat} {l1 : Int32} {l2 : Int32} {l3 : Int32} {res : Int32} {ls : Array Slot} (hC : gC E D A p R s m args meth c cX1_commonest 5 RX1 "commonest" 2 46) (hQ : gQI E D A p l e R s m args below meth c Q cX1_commonest FieldType.int (res, σ)) {r_6 : Nat → Int32 → Int32 → Int32 → Option Int32} (h_6 : ∀ {l0 : Nat} {l1 : Int32} {l2 : Int32} {l3 : Int32} {H : Heap} {locs : List Loc} {cells slots : Nat} {ls : Array Slot}, r_6 l0 l1 l2 l3 = some res → gW E D A s σ H locs → lv_has ls 5 [(0, .ref l0), (1, .int l1), (2, .int l2), (3, .int l3)] → W p l e R s m args below meth c H locs cells slots Q (F0 m 6 ls [])) (hf : X1_commonest_6_s E σ r_6 l0 l1 l2 l3 = some res) (hw : gW E D A s σ H locs) (hl : lv_has ls 5 [(0, .ref l0), (1, .int l1), (2, .int l2), (3, .int l3)]) : W p l e R s m args below meth c H locs cells slots Q (F0 m 6 ls []) := by
  have hC0 := hC
  obtain ⟨hx, hb, hml, hown, hts, -⟩ := hC0
  unfold X1_commonest_6_s at hf
  refine lv_iload_n hx hb dX1_commonest_6 rfl (lv_at hl 3 rfl) ?_
  refine lv_aload_n hx hb dX1_commonest_7 rfl (lv_at hl 0 rfl) ?_
  obtain ⟨x5, h6, hf⟩ := ob_some hf
  refine rI_fl_X1_22 hC hw h6 dX1_commonest_8 ?_
  refine lv_icmp_ge (tgt := 64) hx hb dX1_commonest_11 (by decide) (fun c27 => ?_) (fun c27 => ?_)
  · replace hf := (if_pos c27).symm.trans hf
    refine lv_iload_n hx hb dX1_commonest_64 rfl (lv_at hl 1 rfl) ?_
    refine lv_if_le (tgt := 79) hx hb dX1_commonest_65 (by decide) (fun c12 => ?_) (fun c12 => ?_)
    · replace hf := (if_pos c12).symm.trans hf
      refine lv_iconst (v := -1) hx hb dX1_commonest_79 (by decide) ?_
      cases hf
      exact hQ _ _ _ _ _ _ dX1_commonest_80 rfl hw
    · replace hf := (if_neg c12).symm.trans hf
      refine lv_aload_n hx hb dX1_commonest_68 rfl (lv_at hl 0 rfl) ?_
      obtain ⟨x7, h8, hf⟩ := ob_some hf
      refine rR_fl_X1_18 hC hw h8 dX1_commonest_69 ?_
      refine lv_iload_n hx hb dX1_commonest_72 rfl (lv_at hl 2 rfl) ?_
      obtain ⟨_, h11, hf⟩ := ob_some hf
      obtain ⟨x9, h10, hf⟩ := ob_some hf
      refine gg_cVI (As := [.int l2]) hC hw (X3_find_M l E D A h10) h11 rfl g_ml_X1_26 hd_X3_find (Nat.le_of_ble_eq_true rfl) (Nat.le_of_ble_eq_true rfl) hl.1 rfl (Nat.le_of_ble_eq_true rfl) dX1_commonest_73 (fun H locs cells slots hw => ?_)
      refine lv_goto (tgt := 80) hx hb dX1_commonest_76 (by decide) ?_
      cases hf
      exact hQ _ _ _ _ _ _ dX1_commonest_80 rfl hw
  · replace hf := (if_neg c27).symm.trans hf
    refine lv_aload_n hx hb dX1_commonest_14 rfl (lv_at hl 0 rfl) ?_
    refine lv_aload_n hx hb dX1_commonest_15 rfl (lv_at hl 0 rfl) ?_
    obtain ⟨x13, h14, hf⟩ := ob_some hf
    refine rR_fl_X1_9 hC hw h14 dX1_commonest_16 ?_
    refine lv_iload_n hx hb dX1_commonest_19 rfl (lv_at hl 3 rfl) ?_
    obtain ⟨x15, h16, hf⟩ := ob_some hf
    refine gg_aldI hC hw h16 dX1_commonest_20 ?_
    obtain ⟨_, h19, hf⟩ := ob_some hf
    obtain ⟨x17, h18, hf⟩ := ob_some hf
    refine gg_cVI (As := [.int x15]) hC hw (X1_occurrences_M l E D A h18) h19 rfl g_ml_X1_47 hd_X1_occurrences (Nat.le_of_ble_eq_true rfl) (Nat.le_of_ble_eq_true rfl) hl.1 rfl (Nat.le_of_ble_eq_true rfl) dX1_commonest_21 (fun H locs cells slots hw => ?_)
    refine lv_istore (lv' := [(4, .int x17), (0, .ref l0), (1, .int l1), (2, .int l2), (3, .int l3)]) hx hb dX1_commonest_24 hl (by decide) rfl (fun ls hl => ?_)
    refine lv_iload hx hb dX1_commonest_26 (lv_at hl 0 rfl) ?_
    refine lv_iload_n hx hb dX1_commonest_28 rfl (lv_at hl 2 rfl) ?_
    refine lv_icmp_gt (tgt := 48) hx hb dX1_commonest_29 (by decide) (fun c26 => ?_) (fun c26 => ?_)
    · replace hf := (if_pos c26).symm.trans hf
      exact X1_commonest_48_W hC hQ h_6 hf hw (lv_sub hl [1, 4, 0] rfl)
    · replace hf := (if_neg c26).symm.trans hf
      refine lv_iload hx hb dX1_commonest_32 (lv_at hl 0 rfl) ?_
      refine lv_iload_n hx hb dX1_commonest_34 rfl (lv_at hl 2 rfl) ?_
      refine lv_icmp_ne (tgt := 58) hx hb dX1_commonest_35 (by decide) (fun c25 => ?_) (fun c25 => ?_)
      · replace hf := (if_neg c25).symm.trans hf
        exact X1_commonest_58_W hC hQ h_6 hf hw (lv_sub hl [1, 2, 3, 4] rfl)
      · replace hf := (if_pos c25).symm.trans hf
        refine lv_aload_n hx hb dX1_commonest_38 rfl (lv_at hl 1 rfl) ?_
        obtain ⟨x20, h21, hf⟩ := ob_some hf
        refine rR_fl_X1_9 hC hw h21 dX1_commonest_39 ?_
        refine lv_iload_n hx hb dX1_commonest_42 rfl (lv_at hl 4 rfl) ?_
        obtain ⟨x22, h23, hf⟩ := ob_some hf
        refine gg_aldI hC hw h23 dX1_commonest_43 ?_
        refine lv_iload_n hx hb dX1_commonest_44 rfl (lv_at hl 3 rfl) ?_
        refine lv_icmp_ge (tgt := 58) hx hb dX1_commonest_45 (by decide) (fun c24 => ?_) (fun c24 => ?_)
        · replace hf := (if_pos c24).symm.trans hf
          exact X1_commonest_58_W hC hQ h_6 hf hw (lv_sub hl [1, 2, 3, 4] rfl)
        · replace hf := (if_neg c24).symm.trans hf
          exact X1_commonest_48_W hC hQ h_6 hf hw (lv_sub hl [1, 4, 0] rfl)
def X1_commonest_6 (E : gE) (σ : gS) : Nat → Nat → Int32 → Int32 → Int32 → Option Int32
  | 0 => fun _ _ _ _ => none
  | n + 1 => X1_commonest_6_s E σ (X1_commonest_6 E σ n)
theorem X1_commonest_6_W {σ : gS} {res : Int32} (hC : gC E D A p R s m args meth c cX1_commonest 5 RX1 "commonest" 2 46) (hQ : gQI E D A p l e R s m args below meth c Q cX1_commonest FieldType.int (res, σ)) : ∀ (n : Nat), ∀ {l0 : Nat} {l1 : Int32} {l2 : Int32} {l3 : Int32} {H : Heap} {locs : List Loc} {cells slots : Nat} {ls : Array Slot}, X1_commonest_6 E σ n l0 l1 l2 l3 = some res → gW E D A s σ H locs → lv_has ls 5 [(0, .ref l0), (1, .int l1), (2, .int l2), (3, .int l3)] → W p l e R s m args below meth c H locs cells slots Q (F0 m 6 ls []) := by
  intro n
  induction n with
  | zero =>
    intros
    rename_i hf _ _
    exact absurd hf (fun h => by cases (show (none : Option Int32) = some res from h))
  | succ n ih =>
    intros
    rename_i hf hw hl
    exact X1_commonest_6_s_W hC hQ ih hf hw hl

def X1_commonest (E : gE) (σ : gS) (l0 : Nat) : Option Int32 :=
  X1_commonest_6 E σ (gN E) l0 (0 : Int32) (0 : Int32) (0 : Int32)
set_option maxHeartbeats 4000000 in
set_option maxRecDepth 100000 in
theorem X1_commonest_W {σ : gS} {l0 : Nat} {res : Int32} {ls : Array Slot} (hC : gC E D A p R s m args meth c cX1_commonest 5 RX1 "commonest" 2 46) (hQ : gQI E D A p l e R s m args below meth c Q cX1_commonest FieldType.int (res, σ)) (hf : X1_commonest E σ l0 = some res) (hw : gW E D A s σ H locs) (hl : lv_has ls 5 [(0, .ref l0)]) : W p l e R s m args below meth c H locs cells slots Q (F0 m 0 ls []) := by
  have hC0 := hC
  obtain ⟨hx, hb, hml, hown, hts, -⟩ := hC0
  unfold X1_commonest at hf
  refine lv_iconst (v := 0) hx hb dX1_commonest_0 (by decide) ?_
  refine lv_istore_n (lv' := [(1, .int (0 : Int32)), (0, .ref l0)]) hx hb dX1_commonest_1 rfl hl (by decide) rfl (fun ls hl => ?_)
  refine lv_iconst (v := 0) hx hb dX1_commonest_2 (by decide) ?_
  refine lv_istore_n (lv' := [(2, .int (0 : Int32)), (1, .int (0 : Int32)), (0, .ref l0)]) hx hb dX1_commonest_3 rfl hl (by decide) rfl (fun ls hl => ?_)
  refine lv_iconst (v := 0) hx hb dX1_commonest_4 (by decide) ?_
  refine lv_istore_n (lv' := [(3, .int (0 : Int32)), (2, .int (0 : Int32)), (1, .int (0 : Int32)), (0, .ref l0)]) hx hb dX1_commonest_5 rfl hl (by decide) rfl (fun ls hl => ?_)
  exact X1_commonest_6_W hC hQ (gN E) hf hw (lv_sub hl [3, 2, 1, 0] rfl)

def X1_commonest_f (E : gE) (σ : gS) (l0 : Nat) : Option Int32 := X1_commonest E σ l0
set_option maxRecDepth 100000 in
theorem X1_commonest_M (l : Launch) (E : gE) (D : va_G) (A : Nat → Prop) {l0 : Nat} {σ : gS} {res : Int32} (hf : X1_commonest_f E σ l0 = some res) : gCI l E D A yX1_commonest cX1_commonest 5 2 46 (some FieldType.int) [.ref l0] σ (res, σ) := by
  refine gg_entI (own := RX1) (nm := "commonest") (ty := FieldType.int) (by decide +kernel) rfl rfl (Nat.le_of_ble_eq_true rfl) rfl ?_
  intro p e R s m args below meth c Q ls hC hw hQ hl
  have hl : lv_has ls 5 [(0, .ref l0)] := hl
  exact X1_commonest_W hC hQ hf hw hl

def X1_runsIn_44 (E : gE) (σ : gS) (r_4 : Nat → Nat → Int32 → Int32 → Option Int32) (l0 : Nat) (l1 : Nat) (l2 : Int32) (l3 : Int32) : Option Int32 :=
  r_4 l0 l1 l2 (l3 + 1)
set_option maxHeartbeats 4000000 in
set_option maxRecDepth 100000 in
theorem X1_runsIn_44_W {σ : gS} {l0 : Nat} {l1 : Nat} {l2 : Int32} {l3 : Int32} {res : Int32} {ls : Array Slot} (hC : gC E D A p R s m args meth c cX1_runsIn 4 RX1 "runsIn" 1 21) (hQ : gQI E D A p l e R s m args below meth c Q cX1_runsIn FieldType.int (res, σ)) {r_4 : Nat → Nat → Int32 → Int32 → Option Int32} (h_4 : ∀ {l0 : Nat} {l1 : Nat} {l2 : Int32} {l3 : Int32} {H : Heap} {locs : List Loc} {cells slots : Nat} {ls : Array Slot}, r_4 l0 l1 l2 l3 = some res → gW E D A s σ H locs → lv_has ls 4 [(0, .ref l0), (1, .ref l1), (2, .int l2), (3, .int l3)] → W p l e R s m args below meth c H locs cells slots Q (F0 m 4 ls [])) (hf : X1_runsIn_44 E σ r_4 l0 l1 l2 l3 = some res) (hw : gW E D A s σ H locs) (hl : lv_has ls 4 [(0, .ref l0), (1, .ref l1), (2, .int l2), (3, .int l3)]) : W p l e R s m args below meth c H locs cells slots Q (F0 m 44 ls []) := by
  have hC0 := hC
  obtain ⟨hx, hb, hml, hown, hts, -⟩ := hC0
  unfold X1_runsIn_44 at hf
  refine lv_iinc (v := (l3 + 1)) (lv' := [(3, .int (l3 + 1)), (0, .ref l0), (1, .ref l1), (2, .int l2)]) hx hb dX1_runsIn_44 hl (k := 3) rfl rfl (by decide) rfl (fun ls hl => ?_)
  refine lv_goto (tgt := 4) hx hb dX1_runsIn_47 (by decide) ?_
  exact h_4 hf hw (lv_sub hl [1, 2, 3, 0] rfl)

def X1_runsIn_41 (E : gE) (σ : gS) (r_4 : Nat → Nat → Int32 → Int32 → Option Int32) (l0 : Nat) (l1 : Nat) (l2 : Int32) (l3 : Int32) : Option Int32 :=
  X1_runsIn_44 E σ r_4 l0 l1 (l2 + 1) l3
set_option maxHeartbeats 4000000 in
set_option maxRecDepth 100000 in
theorem X1_runsIn_41_W {σ : gS} {l0 : Nat} {l1 : Nat} {l2 : Int32} {l3 : Int32} {res : Int32} {ls : Array Slot} (hC : gC E D A p R s m args meth c cX1_runsIn 4 RX1 "runsIn" 1 21) (hQ : gQI E D A p l e R s m args below meth c Q cX1_runsIn FieldType.int (res, σ)) {r_4 : Nat → Nat → Int32 → Int32 → Option Int32} (h_4 : ∀ {l0 : Nat} {l1 : Nat} {l2 : Int32} {l3 : Int32} {H : Heap} {locs : List Loc} {cells slots : Nat} {ls : Array Slot}, r_4 l0 l1 l2 l3 = some res → gW E D A s σ H locs → lv_has ls 4 [(0, .ref l0), (1, .ref l1), (2, .int l2), (3, .int l3)] → W p l e R s m args below meth c H locs cells slots Q (F0 m 4 ls [])) (hf : X1_runsIn_41 E σ r_4 l0 l1 l2 l3 = some res) (hw : gW E D A s σ H locs) (hl : lv_has ls 4 [(0, .ref l0), (1, .ref l1), (2, .int l2), (3, .int l3)]) : W p l e R s m args below meth c H locs cells slots Q (F0 m 41 ls []) := by
  have hC0 := hC
  obtain ⟨hx, hb, hml, hown, hts, -⟩ := hC0
  unfold X1_runsIn_41 at hf
  refine lv_iinc (v := (l2 + 1)) (lv' := [(2, .int (l2 + 1)), (0, .ref l0), (1, .ref l1), (3, .int l3)]) hx hb dX1_runsIn_41 hl (k := 2) rfl rfl (by decide) rfl (fun ls hl => ?_)
  exact X1_runsIn_44_W hC hQ h_4 hf hw (lv_sub hl [1, 2, 0, 3] rfl)

def X1_runsIn_4_s (E : gE) (σ : gS) (r_4 : Nat → Nat → Int32 → Int32 → Option Int32) (l0 : Nat) (l1 : Nat) (l2 : Int32) (l3 : Int32) : Option Int32 :=
  ob (gfI σ l0 0 2) fun x1 =>
  if x1 ≤ l3 then
    some l2
  else
    if l3 = 0 then
      X1_runsIn_41 E σ r_4 l0 l1 l2 l3
    else
      ob (gfR σ l0 0 0) fun x3 =>
      ob (gcl σ l1 8) fun _ =>
      ob (X10_source_f E σ l1 l3) fun x5 =>
      ob (graI E 0 σ x3 x5) fun x8 =>
      ob (gfR σ l0 0 0) fun x10 =>
      ob (gcl σ l1 8) fun _ =>
      ob (X10_source_f E σ l1 (l3 - (1 : Int32))) fun x12 =>
      ob (graI E 0 σ x10 x12) fun x15 =>
      if x8 = x15 then
        X1_runsIn_44 E σ r_4 l0 l1 l2 l3
      else
        X1_runsIn_41 E σ r_4 l0 l1 l2 l3
set_option maxHeartbeats 4000000 in
set_option maxRecDepth 100000 in
theorem X1_runsIn_4_s_W {σ : gS} {l0 : Nat} {l1 : Nat} {l2 : Int32} {l3 : Int32} {res : Int32} {ls : Array Slot} (hC : gC E D A p R s m args meth c cX1_runsIn 4 RX1 "runsIn" 1 21) (hQ : gQI E D A p l e R s m args below meth c Q cX1_runsIn FieldType.int (res, σ)) {r_4 : Nat → Nat → Int32 → Int32 → Option Int32} (h_4 : ∀ {l0 : Nat} {l1 : Nat} {l2 : Int32} {l3 : Int32} {H : Heap} {locs : List Loc} {cells slots : Nat} {ls : Array Slot}, r_4 l0 l1 l2 l3 = some res → gW E D A s σ H locs → lv_has ls 4 [(0, .ref l0), (1, .ref l1), (2, .int l2), (3, .int l3)] → W p l e R s m args below meth c H locs cells slots Q (F0 m 4 ls [])) (hf : X1_runsIn_4_s E σ r_4 l0 l1 l2 l3 = some res) (hw : gW E D A s σ H locs) (hl : lv_has ls 4 [(0, .ref l0), (1, .ref l1), (2, .int l2), (3, .int l3)]) : W p l e R s m args below meth c H locs cells slots Q (F0 m 4 ls []) := by
  have hC0 := hC
  obtain ⟨hx, hb, hml, hown, hts, -⟩ := hC0
  unfold X1_runsIn_4_s at hf
  refine lv_iload_n hx hb dX1_runsIn_4 rfl (lv_at hl 3 rfl) ?_
  refine lv_aload_n hx hb dX1_runsIn_5 rfl (lv_at hl 0 rfl) ?_
  obtain ⟨x1, h2, hf⟩ := ob_some hf
  refine rI_fl_X1_22 hC hw h2 dX1_runsIn_6 ?_
  refine lv_icmp_ge (tgt := 50) hx hb dX1_runsIn_9 (by decide) (fun c19 => ?_) (fun c19 => ?_)
  · replace hf := (if_pos c19).symm.trans hf
    refine lv_iload_n hx hb dX1_runsIn_50 rfl (lv_at hl 2 rfl) ?_
    cases hf
    exact hQ _ _ _ _ _ _ dX1_runsIn_51 rfl hw
  · replace hf := (if_neg c19).symm.trans hf
    refine lv_iload_n hx hb dX1_runsIn_12 rfl (lv_at hl 3 rfl) ?_
    refine lv_if_eq (tgt := 41) hx hb dX1_runsIn_13 (by decide) (fun c18 => ?_) (fun c18 => ?_)
    · replace hf := (if_pos c18).symm.trans hf
      exact X1_runsIn_41_W hC hQ h_4 hf hw (lv_sub hl [0, 1, 2, 3] rfl)
    · replace hf := (if_neg c18).symm.trans hf
      refine lv_aload_n hx hb dX1_runsIn_16 rfl (lv_at hl 0 rfl) ?_
      obtain ⟨x3, h4, hf⟩ := ob_some hf
      refine rR_fl_X1_9 hC hw h4 dX1_runsIn_17 ?_
      refine lv_aload_n hx hb dX1_runsIn_20 rfl (lv_at hl 1 rfl) ?_
      refine lv_iload_n hx hb dX1_runsIn_21 rfl (lv_at hl 3 rfl) ?_
      obtain ⟨_, h7, hf⟩ := ob_some hf
      obtain ⟨x5, h6, hf⟩ := ob_some hf
      refine gg_cVI (As := [.int l3]) hC hw (X10_source_M l E D A h6) h7 rfl g_ml_X1_50 hd_X10_source (Nat.le_of_ble_eq_true rfl) (Nat.le_of_ble_eq_true rfl) hl.1 rfl (Nat.le_of_ble_eq_true rfl) dX1_runsIn_22 (fun H locs cells slots hw => ?_)
      obtain ⟨x8, h9, hf⟩ := ob_some hf
      refine gg_aldI hC hw h9 dX1_runsIn_25 ?_
      refine lv_aload_n hx hb dX1_runsIn_26 rfl (lv_at hl 0 rfl) ?_
      obtain ⟨x10, h11, hf⟩ := ob_some hf
      refine rR_fl_X1_9 hC hw h11 dX1_runsIn_27 ?_
      refine lv_aload_n hx hb dX1_runsIn_30 rfl (lv_at hl 1 rfl) ?_
      refine lv_iload_n hx hb dX1_runsIn_31 rfl (lv_at hl 3 rfl) ?_
      refine lv_iconst (v := 1) hx hb dX1_runsIn_32 (by decide) ?_
      refine lv_isub hx hb dX1_runsIn_33 ?_
      obtain ⟨_, h14, hf⟩ := ob_some hf
      obtain ⟨x12, h13, hf⟩ := ob_some hf
      refine gg_cVI (As := [.int (l3 - (1 : Int32))]) hC hw (X10_source_M l E D A h13) h14 rfl g_ml_X1_50 hd_X10_source (Nat.le_of_ble_eq_true rfl) (Nat.le_of_ble_eq_true rfl) hl.1 rfl (Nat.le_of_ble_eq_true rfl) dX1_runsIn_34 (fun H locs cells slots hw => ?_)
      obtain ⟨x15, h16, hf⟩ := ob_some hf
      refine gg_aldI hC hw h16 dX1_runsIn_37 ?_
      refine lv_icmp_eq (tgt := 44) hx hb dX1_runsIn_38 (by decide) (fun c17 => ?_) (fun c17 => ?_)
      · replace hf := (if_pos c17).symm.trans hf
        exact X1_runsIn_44_W hC hQ h_4 hf hw (lv_sub hl [0, 1, 2, 3] rfl)
      · replace hf := (if_neg c17).symm.trans hf
        exact X1_runsIn_41_W hC hQ h_4 hf hw (lv_sub hl [0, 1, 2, 3] rfl)
def X1_runsIn_4 (E : gE) (σ : gS) : Nat → Nat → Nat → Int32 → Int32 → Option Int32
  | 0 => fun _ _ _ _ => none
  | n + 1 => X1_runsIn_4_s E σ (X1_runsIn_4 E σ n)
theorem X1_runsIn_4_W {σ : gS} {res : Int32} (hC : gC E D A p R s m args meth c cX1_runsIn 4 RX1 "runsIn" 1 21) (hQ : gQI E D A p l e R s m args below meth c Q cX1_runsIn FieldType.int (res, σ)) : ∀ (n : Nat), ∀ {l0 : Nat} {l1 : Nat} {l2 : Int32} {l3 : Int32} {H : Heap} {locs : List Loc} {cells slots : Nat} {ls : Array Slot}, X1_runsIn_4 E σ n l0 l1 l2 l3 = some res → gW E D A s σ H locs → lv_has ls 4 [(0, .ref l0), (1, .ref l1), (2, .int l2), (3, .int l3)] → W p l e R s m args below meth c H locs cells slots Q (F0 m 4 ls []) := by
  intro n
  induction n with
  | zero =>
    intros
    rename_i hf _ _
    exact absurd hf (fun h => by cases (show (none : Option Int32) = some res from h))
  | succ n ih =>
    intros
    rename_i hf hw hl
    exact X1_runsIn_4_s_W hC hQ ih hf hw hl

def X1_runsIn (E : gE) (σ : gS) (l0 : Nat) (l1 : Nat) : Option Int32 :=
  X1_runsIn_4 E σ (gN E) l0 l1 (0 : Int32) (0 : Int32)
set_option maxHeartbeats 4000000 in
set_option maxRecDepth 100000 in
theorem X1_runsIn_W {σ : gS} {l0 : Nat} {l1 : Nat} {res : Int32} {ls : Array Slot} (hC : gC E D A p R s m args meth c cX1_runsIn 4 RX1 "runsIn" 1 21) (hQ : gQI E D A p l e R s m args below meth c Q cX1_runsIn FieldType.int (res, σ)) (hf : X1_runsIn E σ l0 l1 = some res) (hw : gW E D A s σ H locs) (hl : lv_has ls 4 [(0, .ref l0), (1, .ref l1)]) : W p l e R s m args below meth c H locs cells slots Q (F0 m 0 ls []) := by
  have hC0 := hC
  obtain ⟨hx, hb, hml, hown, hts, -⟩ := hC0
  unfold X1_runsIn at hf
  refine lv_iconst (v := 0) hx hb dX1_runsIn_0 (by decide) ?_
  refine lv_istore_n (lv' := [(2, .int (0 : Int32)), (0, .ref l0), (1, .ref l1)]) hx hb dX1_runsIn_1 rfl hl (by decide) rfl (fun ls hl => ?_)
  refine lv_iconst (v := 0) hx hb dX1_runsIn_2 (by decide) ?_
  refine lv_istore_n (lv' := [(3, .int (0 : Int32)), (2, .int (0 : Int32)), (0, .ref l0), (1, .ref l1)]) hx hb dX1_runsIn_3 rfl hl (by decide) rfl (fun ls hl => ?_)
  exact X1_runsIn_4_W hC hQ (gN E) hf hw (lv_sub hl [2, 3, 1, 0] rfl)

def X1_runsIn_f (E : gE) (σ : gS) (l0 : Nat) (l1 : Nat) : Option Int32 := X1_runsIn E σ l0 l1
set_option maxRecDepth 100000 in
theorem X1_runsIn_M (l : Launch) (E : gE) (D : va_G) (A : Nat → Prop) {l0 : Nat} {l1 : Nat} {σ : gS} {res : Int32} (hf : X1_runsIn_f E σ l0 l1 = some res) : gCI l E D A yX1_runsIn cX1_runsIn 4 1 21 (some FieldType.int) [.ref l0, .ref l1] σ (res, σ) := by
  refine gg_entI (own := RX1) (nm := "runsIn") (ty := FieldType.int) (by decide +kernel) rfl rfl (Nat.le_of_ble_eq_true rfl) rfl ?_
  intro p e R s m args below meth c Q ls hC hw hQ hl
  have hl : lv_has ls 4 [(0, .ref l0), (1, .ref l1)] := hl
  exact X1_runsIn_W hC hQ hf hw hl

def X1_copyFrom (E : gE) (l0 : Nat) (l1 : Nat) (σ : gS) : Option gS :=
  ob (gfR σ l1 0 0) fun x1 =>
  ob (gfR σ l0 0 0) fun x3 =>
  ob (gfI σ l1 0 2) fun x5 =>
  ob (gcopy E σ x1 (0 : Int32) x3 (0 : Int32) x5) fun x7 =>
  ob (gfI x7 l1 0 2) fun x9 =>
  ob (gpf E x7 l0 0 2 (.int x9)) fun σ11 =>
  ob (gfR σ11 l0 0 1) fun x13 =>
  ob (gfR σ11 l1 0 1) fun x15 =>
  ob (gcl σ11 x13 2) fun _ =>
  ob (X3_copyFrom_f E x13 x15 σ11) fun x17 =>
  some x17
set_option maxHeartbeats 4000000 in
set_option maxRecDepth 100000 in
theorem X1_copyFrom_W {σ : gS} {l0 : Nat} {l1 : Nat} {σz : gS} {ls : Array Slot} (hC : gC E D A p R s m args meth c cX1_copyFrom 2 RX1 "copyFrom" 4 101) (hQ : gQV E D A p l e R s m args below meth c Q cX1_copyFrom σz) (hf : X1_copyFrom E l0 l1 σ = some σz) (hw : gW E D A s σ H locs) (hl : lv_has ls 2 [(0, .ref l0), (1, .ref l1)]) : W p l e R s m args below meth c H locs cells slots Q (F0 m 0 ls []) := by
  have hC0 := hC
  obtain ⟨hx, hb, hml, hown, hts, -⟩ := hC0
  unfold X1_copyFrom at hf
  refine lv_aload_n hx hb dX1_copyFrom_0 rfl (lv_at hl 1 rfl) ?_
  obtain ⟨x1, h2, hf⟩ := ob_some hf
  refine rR_fl_X1_9 hC hw h2 dX1_copyFrom_1 ?_
  refine lv_iconst (v := 0) hx hb dX1_copyFrom_4 (by decide) ?_
  refine lv_aload_n hx hb dX1_copyFrom_5 rfl (lv_at hl 0 rfl) ?_
  obtain ⟨x3, h4, hf⟩ := ob_some hf
  refine rR_fl_X1_9 hC hw h4 dX1_copyFrom_6 ?_
  refine lv_iconst (v := 0) hx hb dX1_copyFrom_9 (by decide) ?_
  refine lv_aload_n hx hb dX1_copyFrom_10 rfl (lv_at hl 1 rfl) ?_
  obtain ⟨x5, h6, hf⟩ := ob_some hf
  refine rI_fl_X1_22 hC hw h6 dX1_copyFrom_11 ?_
  obtain ⟨x7, h8, hf⟩ := ob_some hf
  refine gg_copy hC hw h8 ml_X1_59 hl.1 rfl (Nat.le_of_ble_eq_true rfl) (Nat.le_of_ble_eq_true rfl) (Nat.le_of_ble_eq_true rfl) dX1_copyFrom_14 (fun H locs hw => ?_)
  refine lv_aload_n hx hb dX1_copyFrom_17 rfl (lv_at hl 0 rfl) ?_
  refine lv_aload_n hx hb dX1_copyFrom_18 rfl (lv_at hl 1 rfl) ?_
  obtain ⟨x9, h10, hf⟩ := ob_some hf
  refine rI_fl_X1_22 hC hw h10 dX1_copyFrom_19 ?_
  obtain ⟨σ11, h12, hf⟩ := ob_some hf
  refine p_fl_X1_22 hC hw h12 rfl rfl dX1_copyFrom_22 (fun H locs hw => ?_)
  refine lv_aload_n hx hb dX1_copyFrom_25 rfl (lv_at hl 0 rfl) ?_
  obtain ⟨x13, h14, hf⟩ := ob_some hf
  refine rR_fl_X1_18 hC hw h14 dX1_copyFrom_26 ?_
  refine lv_aload_n hx hb dX1_copyFrom_29 rfl (lv_at hl 1 rfl) ?_
  obtain ⟨x15, h16, hf⟩ := ob_some hf
  refine rR_fl_X1_18 hC hw h16 dX1_copyFrom_30 ?_
  obtain ⟨_, h19, hf⟩ := ob_some hf
  obtain ⟨x17, h18, hf⟩ := ob_some hf
  refine gg_cVV (As := [.ref x15]) hC hw (X3_copyFrom_M l E D A h18) h19 rfl g_ml_X1_65 hd_X3_copyFrom (Nat.le_of_ble_eq_true rfl) (Nat.le_of_ble_eq_true rfl) hl.1 rfl (Nat.le_of_ble_eq_true rfl) dX1_copyFrom_33 (fun H locs cells slots hw => ?_)
  cases hf
  exact hQ _ _ _ _ _ _ dX1_copyFrom_36 hw

def X1_copyFrom_f (E : gE) (l0 : Nat) (l1 : Nat) (σ : gS) : Option gS := X1_copyFrom E l0 l1 σ
set_option maxRecDepth 100000 in
theorem X1_copyFrom_M (l : Launch) (E : gE) (D : va_G) (A : Nat → Prop) {l0 : Nat} {l1 : Nat} {σ : gS} {σz : gS} (hf : X1_copyFrom_f E l0 l1 σ = some σz) : gCV l E D A yX1_copyFrom cX1_copyFrom 2 4 101 none [.ref l0, .ref l1] σ σz := by
  refine gg_entV (own := RX1) (nm := "copyFrom") (by decide +kernel) rfl rfl (Nat.le_of_ble_eq_true rfl) rfl ?_
  intro p e R s m args below meth c Q ls hC hw hQ hl
  have hl : lv_has ls 2 [(0, .ref l0), (1, .ref l1)] := hl
  exact X1_copyFrom_W hC hQ hf hw hl

def X3_holds (E : gE) (σ : gS) (l0 : Nat) (l1 : Int32) : Option Int32 :=
  ob (gcl σ l0 2) fun _ =>
  ob (X3_find_f E σ l0 l1) fun x1 =>
  if x1 < 0 then
    some (0 : Int32)
  else
    some (1 : Int32)
set_option maxHeartbeats 4000000 in
set_option maxRecDepth 100000 in
theorem X3_holds_W {σ : gS} {l0 : Nat} {l1 : Int32} {res : Int32} {ls : Array Slot} (hC : gC E D A p R s m args meth c cX3_holds 2 RX3 "holds" 2 46) (hQ : gQI E D A p l e R s m args below meth c Q cX3_holds FieldType.boolean (res, σ)) (hf : X3_holds E σ l0 l1 = some res) (hw : gW E D A s σ H locs) (hl : lv_has ls 2 [(0, .ref l0), (1, .int l1)]) : W p l e R s m args below meth c H locs cells slots Q (F0 m 0 ls []) := by
  have hC0 := hC
  obtain ⟨hx, hb, hml, hown, hts, -⟩ := hC0
  unfold X3_holds at hf
  refine lv_aload_n hx hb dX3_holds_0 rfl (lv_at hl 0 rfl) ?_
  refine lv_iload_n hx hb dX3_holds_1 rfl (lv_at hl 1 rfl) ?_
  obtain ⟨_, h3, hf⟩ := ob_some hf
  obtain ⟨x1, h2, hf⟩ := ob_some hf
  refine gg_cVI (As := [.int l1]) hC hw (X3_find_M l E D A h2) h3 rfl g_ml_X3_21 hd_X3_find (Nat.le_of_ble_eq_true rfl) (Nat.le_of_ble_eq_true rfl) hl.1 rfl (Nat.le_of_ble_eq_true rfl) dX3_holds_2 (fun H locs cells slots hw => ?_)
  refine lv_if_lt (tgt := 12) hx hb dX3_holds_5 (by decide) (fun c4 => ?_) (fun c4 => ?_)
  · replace hf := (if_pos c4).symm.trans hf
    refine lv_iconst (v := 0) hx hb dX3_holds_12 (by decide) ?_
    cases hf
    exact hQ _ _ _ _ _ _ dX3_holds_13 gz0 hw
  · replace hf := (if_neg c4).symm.trans hf
    refine lv_iconst (v := 1) hx hb dX3_holds_8 (by decide) ?_
    refine lv_goto (tgt := 13) hx hb dX3_holds_9 (by decide) ?_
    cases hf
    exact hQ _ _ _ _ _ _ dX3_holds_13 gz1 hw

def X3_holds_f (E : gE) (σ : gS) (l0 : Nat) (l1 : Int32) : Option Int32 := X3_holds E σ l0 l1
set_option maxRecDepth 100000 in
theorem X3_holds_M (l : Launch) (E : gE) (D : va_G) (A : Nat → Prop) {l0 : Nat} {l1 : Int32} {σ : gS} {res : Int32} (hf : X3_holds_f E σ l0 l1 = some res) : gCI l E D A yX3_holds cX3_holds 2 2 46 (some FieldType.boolean) [.ref l0, .int l1] σ (res, σ) := by
  refine gg_entI (own := RX3) (nm := "holds") (ty := FieldType.boolean) (by decide +kernel) rfl rfl (Nat.le_of_ble_eq_true rfl) rfl ?_
  intro p e R s m args below meth c Q ls hC hw hQ hl
  have hl : lv_has ls 2 [(0, .ref l0), (1, .int l1)] := hl
  exact X3_holds_W hC hQ hf hw hl

def X3_insert_54 (E : gE) (l0 : Nat) (l1 : Int32) (l2 : Int32) (σ : gS) : Option gS :=
  ob (gfR σ l0 2 0) fun x1 =>
  ob (gfR σ l0 2 0) fun x3 =>
  ob (gfI σ l0 2 1) fun x5 =>
  ob (gcopy E σ x1 l2 x3 (l2 + (1 : Int32)) (x5 - l2)) fun x7 =>
  ob (gfR x7 l0 2 0) fun x9 =>
  ob (gwaI E x7 x9 l2 l1) fun σ11 =>
  ob (gfI σ11 l0 2 1) fun x13 =>
  ob (gpf E σ11 l0 2 1 (.int (x13 + (1 : Int32)))) fun σ15 =>
  some σ15
set_option maxHeartbeats 4000000 in
set_option maxRecDepth 100000 in
theorem X3_insert_54_W {σ : gS} {l0 : Nat} {l1 : Int32} {l2 : Int32} {σz : gS} {ls : Array Slot} (hC : gC E D A p R s m args meth c cX3_insert 3 RX3 "insert" 4 102) (hQ : gQV E D A p l e R s m args below meth c Q cX3_insert σz) (hf : X3_insert_54 E l0 l1 l2 σ = some σz) (hw : gW E D A s σ H locs) (hl : lv_has ls 3 [(0, .ref l0), (1, .int l1), (2, .int l2)]) : W p l e R s m args below meth c H locs cells slots Q (F0 m 54 ls []) := by
  have hC0 := hC
  obtain ⟨hx, hb, hml, hown, hts, -⟩ := hC0
  unfold X3_insert_54 at hf
  refine lv_aload_n hx hb dX3_insert_54 rfl (lv_at hl 0 rfl) ?_
  obtain ⟨x1, h2, hf⟩ := ob_some hf
  refine rR_fl_X3_9 hC hw h2 dX3_insert_55 ?_
  refine lv_iload_n hx hb dX3_insert_58 rfl (lv_at hl 2 rfl) ?_
  refine lv_aload_n hx hb dX3_insert_59 rfl (lv_at hl 0 rfl) ?_
  obtain ⟨x3, h4, hf⟩ := ob_some hf
  refine rR_fl_X3_9 hC hw h4 dX3_insert_60 ?_
  refine lv_iload_n hx hb dX3_insert_63 rfl (lv_at hl 2 rfl) ?_
  refine lv_iconst (v := 1) hx hb dX3_insert_64 (by decide) ?_
  refine lv_iadd hx hb dX3_insert_65 ?_
  refine lv_aload_n hx hb dX3_insert_66 rfl (lv_at hl 0 rfl) ?_
  obtain ⟨x5, h6, hf⟩ := ob_some hf
  refine rI_fl_X3_13 hC hw h6 dX3_insert_67 ?_
  refine lv_iload_n hx hb dX3_insert_70 rfl (lv_at hl 2 rfl) ?_
  refine lv_isub hx hb dX3_insert_71 ?_
  obtain ⟨x7, h8, hf⟩ := ob_some hf
  refine gg_copy hC hw h8 ml_X3_33 hl.1 rfl (Nat.le_of_ble_eq_true rfl) (Nat.le_of_ble_eq_true rfl) (Nat.le_of_ble_eq_true rfl) dX3_insert_72 (fun H locs hw => ?_)
  refine lv_aload_n hx hb dX3_insert_75 rfl (lv_at hl 0 rfl) ?_
  obtain ⟨x9, h10, hf⟩ := ob_some hf
  refine rR_fl_X3_9 hC hw h10 dX3_insert_76 ?_
  refine lv_iload_n hx hb dX3_insert_79 rfl (lv_at hl 2 rfl) ?_
  refine lv_iload_n hx hb dX3_insert_80 rfl (lv_at hl 1 rfl) ?_
  obtain ⟨σ11, h12, hf⟩ := ob_some hf
  refine gg_astI hC hw h12 dX3_insert_81 (fun H locs hw => ?_)
  refine lv_aload_n hx hb dX3_insert_82 rfl (lv_at hl 0 rfl) ?_
  refine lv_dup hx hb dX3_insert_83 rfl ?_
  obtain ⟨x13, h14, hf⟩ := ob_some hf
  refine rI_fl_X3_13 hC hw h14 dX3_insert_84 ?_
  refine lv_iconst (v := 1) hx hb dX3_insert_87 (by decide) ?_
  refine lv_iadd hx hb dX3_insert_88 ?_
  obtain ⟨σ15, h16, hf⟩ := ob_some hf
  refine p_fl_X3_13 hC hw h16 rfl rfl dX3_insert_89 (fun H locs hw => ?_)
  cases hf
  exact hQ _ _ _ _ _ _ dX3_insert_92 hw

def X3_insert_25 (E : gE) (l0 : Nat) (l1 : Int32) (l2 : Int32) (σ : gS) : Option gS :=
  ob (gfI σ l0 2 1) fun x17 =>
  ob (gfR σ l0 2 0) fun x19 =>
  ob (gal E 0 σ x19) fun x21 =>
  if x17 = x21 then
    ob (gfR σ l0 2 0) fun x23 =>
    ob (gfI σ l0 2 1) fun x25 =>
    ob (J7_copyOf_59c91_f E x23 ((2 : Int32) * x25) σ) fun x27 =>
    ob (gpf E x27.2 l0 2 0 (.ref x27.1)) fun σ29 =>
    X3_insert_54 E l0 l1 l2 σ29
  else
    X3_insert_54 E l0 l1 l2 σ
set_option maxHeartbeats 4000000 in
set_option maxRecDepth 100000 in
theorem X3_insert_25_W {σ : gS} {l0 : Nat} {l1 : Int32} {l2 : Int32} {σz : gS} {ls : Array Slot} (hC : gC E D A p R s m args meth c cX3_insert 3 RX3 "insert" 4 102) (hQ : gQV E D A p l e R s m args below meth c Q cX3_insert σz) (hf : X3_insert_25 E l0 l1 l2 σ = some σz) (hw : gW E D A s σ H locs) (hl : lv_has ls 3 [(0, .ref l0), (1, .int l1), (2, .int l2)]) : W p l e R s m args below meth c H locs cells slots Q (F0 m 25 ls []) := by
  have hC0 := hC
  obtain ⟨hx, hb, hml, hown, hts, -⟩ := hC0
  unfold X3_insert_25 at hf
  refine lv_aload_n hx hb dX3_insert_25 rfl (lv_at hl 0 rfl) ?_
  obtain ⟨x17, h18, hf⟩ := ob_some hf
  refine rI_fl_X3_13 hC hw h18 dX3_insert_26 ?_
  refine lv_aload_n hx hb dX3_insert_29 rfl (lv_at hl 0 rfl) ?_
  obtain ⟨x19, h20, hf⟩ := ob_some hf
  refine rR_fl_X3_9 hC hw h20 dX3_insert_30 ?_
  obtain ⟨x21, h22, hf⟩ := ob_some hf
  refine gg_alen hC hw h22 (Or.inr rfl) dX3_insert_33 ?_
  refine lv_icmp_ne (tgt := 54) hx hb dX3_insert_34 (by decide) (fun c31 => ?_) (fun c31 => ?_)
  · replace hf := (if_neg c31).symm.trans hf
    exact X3_insert_54_W hC hQ hf hw (lv_sub hl [0, 1, 2] rfl)
  · replace hf := (if_pos c31).symm.trans hf
    refine lv_aload_n hx hb dX3_insert_37 rfl (lv_at hl 0 rfl) ?_
    refine lv_aload_n hx hb dX3_insert_38 rfl (lv_at hl 0 rfl) ?_
    obtain ⟨x23, h24, hf⟩ := ob_some hf
    refine rR_fl_X3_9 hC hw h24 dX3_insert_39 ?_
    refine lv_iconst (v := 2) hx hb dX3_insert_42 (by decide) ?_
    refine lv_aload_n hx hb dX3_insert_43 rfl (lv_at hl 0 rfl) ?_
    obtain ⟨x25, h26, hf⟩ := ob_some hf
    refine rI_fl_X3_13 hC hw h26 dX3_insert_44 ?_
    refine lv_imul hx hb dX3_insert_47 ?_
    obtain ⟨x27, h28, hf⟩ := ob_some hf
    refine gg_cSR (As := [.ref x23, .int ((2 : Int32) * x25)]) hC hw (J7_copyOf_59c91_M l E D A h28) g_ml_X3_27 hd_J7_copyOf_59c91.2 (Nat.le_of_ble_eq_true rfl) (Nat.le_of_ble_eq_true rfl) hl.1 rfl (Nat.le_of_ble_eq_true rfl) dX3_insert_48 (fun H locs cells slots hw => ?_)
    obtain ⟨σ29, h30, hf⟩ := ob_some hf
    refine p_fl_X3_9 hC hw h30 rfl rfl dX3_insert_51 (fun H locs hw => ?_)
    exact X3_insert_54_W hC hQ hf hw (lv_sub hl [0, 1, 2] rfl)

def X3_insert (E : gE) (l0 : Nat) (l1 : Int32) (σ : gS) : Option gS :=
  ob (gcl σ l0 2) fun _ =>
  ob (X3_countBelow_f E σ l0 l1) fun x32 =>
  ob (gfI σ l0 2 1) fun x35 =>
  if x35 ≤ x32 then
    X3_insert_25 E l0 l1 x32 σ
  else
    ob (gfR σ l0 2 0) fun x37 =>
    ob (graI E 0 σ x37 x32) fun x39 =>
    if x39 = l1 then
      some σ
    else
      X3_insert_25 E l0 l1 x32 σ
set_option maxHeartbeats 4000000 in
set_option maxRecDepth 100000 in
theorem X3_insert_W {σ : gS} {l0 : Nat} {l1 : Int32} {σz : gS} {ls : Array Slot} (hC : gC E D A p R s m args meth c cX3_insert 3 RX3 "insert" 4 102) (hQ : gQV E D A p l e R s m args below meth c Q cX3_insert σz) (hf : X3_insert E l0 l1 σ = some σz) (hw : gW E D A s σ H locs) (hl : lv_has ls 3 [(0, .ref l0), (1, .int l1)]) : W p l e R s m args below meth c H locs cells slots Q (F0 m 0 ls []) := by
  have hC0 := hC
  obtain ⟨hx, hb, hml, hown, hts, -⟩ := hC0
  unfold X3_insert at hf
  refine lv_aload_n hx hb dX3_insert_0 rfl (lv_at hl 0 rfl) ?_
  refine lv_iload_n hx hb dX3_insert_1 rfl (lv_at hl 1 rfl) ?_
  obtain ⟨_, h34, hf⟩ := ob_some hf
  obtain ⟨x32, h33, hf⟩ := ob_some hf
  refine gg_cVI (As := [.int l1]) hC hw (X3_countBelow_M l E D A h33) h34 rfl g_ml_X3_24 hd_X3_countBelow (Nat.le_of_ble_eq_true rfl) (Nat.le_of_ble_eq_true rfl) hl.1 rfl (Nat.le_of_ble_eq_true rfl) dX3_insert_2 (fun H locs cells slots hw => ?_)
  refine lv_istore_n (lv' := [(2, .int x32), (0, .ref l0), (1, .int l1)]) hx hb dX3_insert_5 rfl hl (by decide) rfl (fun ls hl => ?_)
  refine lv_iload_n hx hb dX3_insert_6 rfl (lv_at hl 0 rfl) ?_
  refine lv_aload_n hx hb dX3_insert_7 rfl (lv_at hl 1 rfl) ?_
  obtain ⟨x35, h36, hf⟩ := ob_some hf
  refine rI_fl_X3_13 hC hw h36 dX3_insert_8 ?_
  refine lv_icmp_ge (tgt := 25) hx hb dX3_insert_11 (by decide) (fun c42 => ?_) (fun c42 => ?_)
  · replace hf := (if_pos c42).symm.trans hf
    exact X3_insert_25_W hC hQ hf hw (lv_sub hl [1, 2, 0] rfl)
  · replace hf := (if_neg c42).symm.trans hf
    refine lv_aload_n hx hb dX3_insert_14 rfl (lv_at hl 1 rfl) ?_
    obtain ⟨x37, h38, hf⟩ := ob_some hf
    refine rR_fl_X3_9 hC hw h38 dX3_insert_15 ?_
    refine lv_iload_n hx hb dX3_insert_18 rfl (lv_at hl 0 rfl) ?_
    obtain ⟨x39, h40, hf⟩ := ob_some hf
    refine gg_aldI hC hw h40 dX3_insert_19 ?_
    refine lv_iload_n hx hb dX3_insert_20 rfl (lv_at hl 2 rfl) ?_
    refine lv_icmp_ne (tgt := 25) hx hb dX3_insert_21 (by decide) (fun c41 => ?_) (fun c41 => ?_)
    · replace hf := (if_neg c41).symm.trans hf
      exact X3_insert_25_W hC hQ hf hw (lv_sub hl [1, 2, 0] rfl)
    · replace hf := (if_pos c41).symm.trans hf
      cases hf
      exact hQ _ _ _ _ _ _ dX3_insert_24 hw

def X3_insert_f (E : gE) (l0 : Nat) (l1 : Int32) (σ : gS) : Option gS := X3_insert E l0 l1 σ
set_option maxRecDepth 100000 in
theorem X3_insert_M (l : Launch) (E : gE) (D : va_G) (A : Nat → Prop) {l0 : Nat} {l1 : Int32} {σ : gS} {σz : gS} (hf : X3_insert_f E l0 l1 σ = some σz) : gCV l E D A yX3_insert cX3_insert 3 4 102 none [.ref l0, .int l1] σ σz := by
  refine gg_entV (own := RX3) (nm := "insert") (by decide +kernel) rfl rfl (Nat.le_of_ble_eq_true rfl) rfl ?_
  intro p e R s m args below meth c Q ls hC hw hQ hl
  have hl : lv_has ls 3 [(0, .ref l0), (1, .int l1)] := hl
  exact X3_insert_W hC hQ hf hw hl

def X4_allows (E : gE) (σ : gS) (l0 : Nat) (l1 : Int32) (l2 : Int32) : Option Int32 :=
  ob (gfR σ l0 3 1) fun x1 =>
  ob (graI E 0 σ x1 l1) fun x3 =>
  ob (J6_signum_0f7a4_f E σ (l2 - x3)) fun x5 =>
  ob (gfR σ l0 3 2) fun x7 =>
  ob (graI E 0 σ x7 l1) fun x9 =>
  if x5 = x9 then
    some (1 : Int32)
  else
    some (0 : Int32)
set_option maxHeartbeats 4000000 in
set_option maxRecDepth 100000 in
theorem X4_allows_W {σ : gS} {l0 : Nat} {l1 : Int32} {l2 : Int32} {res : Int32} {ls : Array Slot} (hC : gC E D A p R s m args meth c cX4_allows 3 RX4 "allows" 1 20) (hQ : gQI E D A p l e R s m args below meth c Q cX4_allows FieldType.boolean (res, σ)) (hf : X4_allows E σ l0 l1 l2 = some res) (hw : gW E D A s σ H locs) (hl : lv_has ls 3 [(0, .ref l0), (1, .int l1), (2, .int l2)]) : W p l e R s m args below meth c H locs cells slots Q (F0 m 0 ls []) := by
  have hC0 := hC
  obtain ⟨hx, hb, hml, hown, hts, -⟩ := hC0
  unfold X4_allows at hf
  refine lv_iload_n hx hb dX4_allows_0 rfl (lv_at hl 2 rfl) ?_
  refine lv_aload_n hx hb dX4_allows_1 rfl (lv_at hl 0 rfl) ?_
  obtain ⟨x1, h2, hf⟩ := ob_some hf
  refine rR_fl_X4_15 hC hw h2 dX4_allows_2 ?_
  refine lv_iload_n hx hb dX4_allows_5 rfl (lv_at hl 1 rfl) ?_
  obtain ⟨x3, h4, hf⟩ := ob_some hf
  refine gg_aldI hC hw h4 dX4_allows_6 ?_
  refine lv_isub hx hb dX4_allows_7 ?_
  obtain ⟨x5, h6, hf⟩ := ob_some hf
  refine gg_cSI (As := [.int (l2 - x3)]) hC hw (J6_signum_0f7a4_M l E D A h6) g_ml_X4_25 hd_J6_signum_0f7a4.2 (Nat.le_of_ble_eq_true rfl) (Nat.le_of_ble_eq_true rfl) hl.1 rfl (Nat.le_of_ble_eq_true rfl) dX4_allows_8 (fun H locs cells slots hw => ?_)
  refine lv_aload_n hx hb dX4_allows_11 rfl (lv_at hl 0 rfl) ?_
  obtain ⟨x7, h8, hf⟩ := ob_some hf
  refine rR_fl_X4_18 hC hw h8 dX4_allows_12 ?_
  refine lv_iload_n hx hb dX4_allows_15 rfl (lv_at hl 1 rfl) ?_
  obtain ⟨x9, h10, hf⟩ := ob_some hf
  refine gg_aldI hC hw h10 dX4_allows_16 ?_
  refine lv_icmp_ne (tgt := 24) hx hb dX4_allows_17 (by decide) (fun c11 => ?_) (fun c11 => ?_)
  · replace hf := (if_neg c11).symm.trans hf
    refine lv_iconst (v := 0) hx hb dX4_allows_24 (by decide) ?_
    cases hf
    exact hQ _ _ _ _ _ _ dX4_allows_25 gz0 hw
  · replace hf := (if_pos c11).symm.trans hf
    refine lv_iconst (v := 1) hx hb dX4_allows_20 (by decide) ?_
    refine lv_goto (tgt := 25) hx hb dX4_allows_21 (by decide) ?_
    cases hf
    exact hQ _ _ _ _ _ _ dX4_allows_25 gz1 hw

def X4_allows_f (E : gE) (σ : gS) (l0 : Nat) (l1 : Int32) (l2 : Int32) : Option Int32 := X4_allows E σ l0 l1 l2
set_option maxRecDepth 100000 in
theorem X4_allows_M (l : Launch) (E : gE) (D : va_G) (A : Nat → Prop) {l0 : Nat} {l1 : Int32} {l2 : Int32} {σ : gS} {res : Int32} (hf : X4_allows_f E σ l0 l1 l2 = some res) : gCI l E D A yX4_allows cX4_allows 3 1 20 (some FieldType.boolean) [.ref l0, .int l1, .int l2] σ (res, σ) := by
  refine gg_entI (own := RX4) (nm := "allows") (ty := FieldType.boolean) (by decide +kernel) rfl rfl (Nat.le_of_ble_eq_true rfl) rfl ?_
  intro p e R s m args below meth c Q ls hC hw hQ hl
  have hl : lv_has ls 3 [(0, .ref l0), (1, .int l1), (2, .int l2)] := hl
  exact X4_allows_W hC hQ hf hw hl

def X8_pack_21_s (E : gE) (r_21 : Nat → Nat → Int32 → gS → Option gS) (l0 : Nat) (l1 : Nat) (l2 : Int32) (σ : gS) : Option gS :=
  ob (gcl σ l1 0) fun _ =>
  ob (X1_length_f E σ l1) fun x1 =>
  if x1 ≤ l2 then
    some σ
  else
    ob (gcl σ l1 0) fun _ =>
    ob (X1_codeAt_f E σ l1 l2) fun x4 =>
    ob (gcl σ l0 6) fun _ =>
    ob (X8_packCode_f E l0 l2 x4.toInt64 σ) fun x7 =>
    r_21 l0 l1 (l2 + 1) x7
set_option maxHeartbeats 4000000 in
set_option maxRecDepth 100000 in
theorem X8_pack_21_s_W {σ : gS} {l0 : Nat} {l1 : Nat} {l2 : Int32} {σz : gS} {ls : Array Slot} (hC : gC E D A p R s m args meth c cX8_pack 3 RX8 "pack" 3 67) (hQ : gQV E D A p l e R s m args below meth c Q cX8_pack σz) {r_21 : Nat → Nat → Int32 → gS → Option gS} (h_21 : ∀ {l0 : Nat} {l1 : Nat} {l2 : Int32} {σ : gS} {H : Heap} {locs : List Loc} {cells slots : Nat} {ls : Array Slot}, r_21 l0 l1 l2 σ = some σz → gW E D A s σ H locs → lv_has ls 3 [(0, .ref l0), (1, .ref l1), (2, .int l2)] → W p l e R s m args below meth c H locs cells slots Q (F0 m 21 ls [])) (hf : X8_pack_21_s E r_21 l0 l1 l2 σ = some σz) (hw : gW E D A s σ H locs) (hl : lv_has ls 3 [(0, .ref l0), (1, .ref l1), (2, .int l2)]) : W p l e R s m args below meth c H locs cells slots Q (F0 m 21 ls []) := by
  have hC0 := hC
  obtain ⟨hx, hb, hml, hown, hts, -⟩ := hC0
  unfold X8_pack_21_s at hf
  refine lv_iload_n hx hb dX8_pack_21 rfl (lv_at hl 2 rfl) ?_
  refine lv_aload_n hx hb dX8_pack_22 rfl (lv_at hl 1 rfl) ?_
  obtain ⟨_, h3, hf⟩ := ob_some hf
  obtain ⟨x1, h2, hf⟩ := ob_some hf
  refine gg_cVI (As := []) hC hw (X1_length_M l E D A h2) h3 rfl g_ml_X8_36 hd_X1_length (Nat.le_of_ble_eq_true rfl) (Nat.le_of_ble_eq_true rfl) hl.1 rfl (Nat.le_of_ble_eq_true rfl) dX8_pack_23 (fun H locs cells slots hw => ?_)
  refine lv_icmp_ge (tgt := 46) hx hb dX8_pack_26 (by decide) (fun c10 => ?_) (fun c10 => ?_)
  · replace hf := (if_pos c10).symm.trans hf
    cases hf
    exact hQ _ _ _ _ _ _ dX8_pack_46 hw
  · replace hf := (if_neg c10).symm.trans hf
    refine lv_aload_n hx hb dX8_pack_29 rfl (lv_at hl 0 rfl) ?_
    refine lv_iload_n hx hb dX8_pack_30 rfl (lv_at hl 2 rfl) ?_
    refine lv_aload_n hx hb dX8_pack_31 rfl (lv_at hl 1 rfl) ?_
    refine lv_iload_n hx hb dX8_pack_32 rfl (lv_at hl 2 rfl) ?_
    obtain ⟨_, h6, hf⟩ := ob_some hf
    obtain ⟨x4, h5, hf⟩ := ob_some hf
    refine gg_cVI (As := [.int l2]) hC hw (X1_codeAt_M l E D A h5) h6 rfl g_ml_X8_39 hd_X1_codeAt (Nat.le_of_ble_eq_true rfl) (Nat.le_of_ble_eq_true rfl) hl.1 rfl (Nat.le_of_ble_eq_true rfl) dX8_pack_33 (fun H locs cells slots hw => ?_)
    refine lv_i2l (v := x4.toInt64) hx hb dX8_pack_36 rfl ?_
    obtain ⟨_, h9, hf⟩ := ob_some hf
    obtain ⟨x7, h8, hf⟩ := ob_some hf
    refine gg_cVV (As := [.int l2, .long x4.toInt64]) hC hw (X8_packCode_M l E D A h8) h9 rfl g_ml_X8_43 hd_X8_packCode (Nat.le_of_ble_eq_true rfl) (Nat.le_of_ble_eq_true rfl) hl.1 rfl (Nat.le_of_ble_eq_true rfl) dX8_pack_37 (fun H locs cells slots hw => ?_)
    refine lv_iinc (v := (l2 + 1)) (lv' := [(2, .int (l2 + 1)), (0, .ref l0), (1, .ref l1)]) hx hb dX8_pack_40 hl (k := 2) rfl rfl (by decide) rfl (fun ls hl => ?_)
    refine lv_goto (tgt := 21) hx hb dX8_pack_43 (by decide) ?_
    exact h_21 hf hw (lv_sub hl [1, 2, 0] rfl)
def X8_pack_21 (E : gE) : Nat → Nat → Nat → Int32 → gS → Option gS
  | 0 => fun _ _ _ _ => none
  | n + 1 => X8_pack_21_s E (X8_pack_21 E n)
theorem X8_pack_21_W {σz : gS} (hC : gC E D A p R s m args meth c cX8_pack 3 RX8 "pack" 3 67) (hQ : gQV E D A p l e R s m args below meth c Q cX8_pack σz) : ∀ (n : Nat), ∀ {l0 : Nat} {l1 : Nat} {l2 : Int32} {σ : gS} {H : Heap} {locs : List Loc} {cells slots : Nat} {ls : Array Slot}, X8_pack_21 E n l0 l1 l2 σ = some σz → gW E D A s σ H locs → lv_has ls 3 [(0, .ref l0), (1, .ref l1), (2, .int l2)] → W p l e R s m args below meth c H locs cells slots Q (F0 m 21 ls []) := by
  intro n
  induction n with
  | zero =>
    intros
    rename_i hf _ _
    exact absurd hf (fun h => by cases (show (none : Option gS) = some σz from h))
  | succ n ih =>
    intros
    rename_i hf hw hl
    exact X8_pack_21_s_W hC hQ ih hf hw hl

def X8_pack (E : gE) (l0 : Nat) (l1 : Nat) (σ : gS) : Option gS :=
  ob (gfR σ l0 6 0) fun x11 =>
  ob (J7_fill_d0a16_f E x11 (0 : Int64) σ) fun x13 =>
  ob (gcl x13 l1 0) fun _ =>
  ob (X1_dictionary_f E x13 l1) fun x15 =>
  ob (gcl x13 x15 2) fun _ =>
  ob (X3_width_f E x13 x15) fun x18 =>
  ob (gpf E x13 l0 6 1 (.int x18)) fun σ21 =>
  X8_pack_21 E (gN E) l0 l1 (0 : Int32) σ21
set_option maxHeartbeats 4000000 in
set_option maxRecDepth 100000 in
theorem X8_pack_W {σ : gS} {l0 : Nat} {l1 : Nat} {σz : gS} {ls : Array Slot} (hC : gC E D A p R s m args meth c cX8_pack 3 RX8 "pack" 3 67) (hQ : gQV E D A p l e R s m args below meth c Q cX8_pack σz) (hf : X8_pack E l0 l1 σ = some σz) (hw : gW E D A s σ H locs) (hl : lv_has ls 3 [(0, .ref l0), (1, .ref l1)]) : W p l e R s m args below meth c H locs cells slots Q (F0 m 0 ls []) := by
  have hC0 := hC
  obtain ⟨hx, hb, hml, hown, hts, -⟩ := hC0
  unfold X8_pack at hf
  refine lv_aload_n hx hb dX8_pack_0 rfl (lv_at hl 0 rfl) ?_
  obtain ⟨x11, h12, hf⟩ := ob_some hf
  refine rR_fl_X8_11 hC hw h12 dX8_pack_1 ?_
  refine lv_lconst (v := 0) hx hb dX8_pack_4 (by decide) ?_
  obtain ⟨x13, h14, hf⟩ := ob_some hf
  refine gg_cSV (As := [.ref x11, .long (0 : Int64)]) hC hw (J7_fill_d0a16_M l E D A h14) g_ml_X8_15 hd_J7_fill_d0a16.2 (Nat.le_of_ble_eq_true rfl) (Nat.le_of_ble_eq_true rfl) hl.1 rfl (Nat.le_of_ble_eq_true rfl) dX8_pack_5 (fun H locs cells slots hw => ?_)
  refine lv_aload_n hx hb dX8_pack_8 rfl (lv_at hl 0 rfl) ?_
  refine lv_aload_n hx hb dX8_pack_9 rfl (lv_at hl 1 rfl) ?_
  obtain ⟨_, h17, hf⟩ := ob_some hf
  obtain ⟨x15, h16, hf⟩ := ob_some hf
  refine gg_cVR (As := []) hC hw (X1_dictionary_M l E D A h16) h17 rfl g_ml_X8_21 hd_X1_dictionary (Nat.le_of_ble_eq_true rfl) (Nat.le_of_ble_eq_true rfl) hl.1 rfl (Nat.le_of_ble_eq_true rfl) dX8_pack_10 (fun H locs cells slots hw => ?_)
  obtain ⟨_, h20, hf⟩ := ob_some hf
  obtain ⟨x18, h19, hf⟩ := ob_some hf
  refine gg_cVI (As := []) hC hw (X3_width_M l E D A h19) h20 rfl g_ml_X8_27 hd_X3_width (Nat.le_of_ble_eq_true rfl) (Nat.le_of_ble_eq_true rfl) hl.1 rfl (Nat.le_of_ble_eq_true rfl) dX8_pack_13 (fun H locs cells slots hw => ?_)
  obtain ⟨σ21, h22, hf⟩ := ob_some hf
  refine p_fl_X8_33 hC hw h22 rfl rfl dX8_pack_16 (fun H locs hw => ?_)
  refine lv_iconst (v := 0) hx hb dX8_pack_19 (by decide) ?_
  refine lv_istore_n (lv' := [(2, .int (0 : Int32)), (0, .ref l0), (1, .ref l1)]) hx hb dX8_pack_20 rfl hl (by decide) rfl (fun ls hl => ?_)
  exact X8_pack_21_W hC hQ (gN E) hf hw (lv_sub hl [1, 2, 0] rfl)

def X8_pack_f (E : gE) (l0 : Nat) (l1 : Nat) (σ : gS) : Option gS := X8_pack E l0 l1 σ
set_option maxRecDepth 100000 in
theorem X8_pack_M (l : Launch) (E : gE) (D : va_G) (A : Nat → Prop) {l0 : Nat} {l1 : Nat} {σ : gS} {σz : gS} (hf : X8_pack_f E l0 l1 σ = some σz) : gCV l E D A yX8_pack cX8_pack 3 3 67 none [.ref l0, .ref l1] σ σz := by
  refine gg_entV (own := RX8) (nm := "pack") (by decide +kernel) rfl rfl (Nat.le_of_ble_eq_true rfl) rfl ?_
  intro p e R s m args below meth c Q ls hC hw hQ hl
  have hl : lv_has ls 3 [(0, .ref l0), (1, .ref l1)] := hl
  exact X8_pack_W hC hQ hf hw hl

def X10_sortBy_86 (E : gE) (r_10 : Nat → Nat → Int32 → Int32 → gS → Option gS) (l0 : Nat) (l1 : Nat) (l2 : Int32) (l3 : Int32) (l4 : Int32) (l6 : Int32) (σ : gS) : Option gS :=
  ob (gfR σ l0 8 0) fun x1 =>
  ob (gwaI E σ x1 l6 l4) fun σ3 =>
  r_10 l0 l1 l2 (l3 + 1) σ3
set_option maxHeartbeats 4000000 in
set_option maxRecDepth 100000 in
theorem X10_sortBy_86_W {σ : gS} {l0 : Nat} {l1 : Nat} {l2 : Int32} {l3 : Int32} {l4 : Int32} {l6 : Int32} {σz : gS} {ls : Array Slot} (hC : gC E D A p R s m args meth c cX10_sortBy 7 RX10 "sortBy" 1 22) (hQ : gQV E D A p l e R s m args below meth c Q cX10_sortBy σz) {r_10 : Nat → Nat → Int32 → Int32 → gS → Option gS} (h_10 : ∀ {l0 : Nat} {l1 : Nat} {l2 : Int32} {l3 : Int32} {σ : gS} {H : Heap} {locs : List Loc} {cells slots : Nat} {ls : Array Slot}, r_10 l0 l1 l2 l3 σ = some σz → gW E D A s σ H locs → lv_has ls 7 [(0, .ref l0), (1, .ref l1), (2, .int l2), (3, .int l3)] → W p l e R s m args below meth c H locs cells slots Q (F0 m 10 ls [])) (hf : X10_sortBy_86 E r_10 l0 l1 l2 l3 l4 l6 σ = some σz) (hw : gW E D A s σ H locs) (hl : lv_has ls 7 [(0, .ref l0), (1, .ref l1), (2, .int l2), (3, .int l3), (4, .int l4), (6, .int l6)]) : W p l e R s m args below meth c H locs cells slots Q (F0 m 86 ls []) := by
  have hC0 := hC
  obtain ⟨hx, hb, hml, hown, hts, -⟩ := hC0
  unfold X10_sortBy_86 at hf
  refine lv_aload_n hx hb dX10_sortBy_86 rfl (lv_at hl 0 rfl) ?_
  obtain ⟨x1, h2, hf⟩ := ob_some hf
  refine rR_fl_X10_9 hC hw h2 dX10_sortBy_87 ?_
  refine lv_iload hx hb dX10_sortBy_90 (lv_at hl 5 rfl) ?_
  refine lv_iload hx hb dX10_sortBy_92 (lv_at hl 4 rfl) ?_
  obtain ⟨σ3, h4, hf⟩ := ob_some hf
  refine gg_astI hC hw h4 dX10_sortBy_94 (fun H locs hw => ?_)
  refine lv_iinc (v := (l3 + 1)) (lv' := [(3, .int (l3 + 1)), (0, .ref l0), (1, .ref l1), (2, .int l2), (4, .int l4), (6, .int l6)]) hx hb dX10_sortBy_95 hl (k := 3) rfl rfl (by decide) rfl (fun ls hl => ?_)
  refine lv_goto (tgt := 10) hx hb dX10_sortBy_98 (by decide) ?_
  exact h_10 hf hw (lv_sub hl [1, 2, 3, 0] rfl)

def X10_sortBy_37_s (E : gE) (r_10 : Nat → Nat → Int32 → Int32 → gS → Option gS) (r_37 : Nat → Nat → Int32 → Int32 → Int32 → Int32 → Int32 → gS → Option gS) (l0 : Nat) (l1 : Nat) (l2 : Int32) (l3 : Int32) (l4 : Int32) (l5 : Int32) (l6 : Int32) (σ : gS) : Option gS :=
  if l6 ≤ 0 then
    X10_sortBy_86 E r_10 l0 l1 l2 l3 l4 l6 σ
  else
    ob (gfR σ l0 8 0) fun x5 =>
    ob (graI E 0 σ x5 (l6 - (1 : Int32))) fun x7 =>
    ob (gcl σ l1 0) fun _ =>
    ob (X1_valueAt_f E σ l1 x7) fun x9 =>
    ob (X10_isWrong_f E σ x9 l5 l2) fun x12 =>
    if x12 = 0 then
      X10_sortBy_86 E r_10 l0 l1 l2 l3 l4 l6 σ
    else
      ob (gfR σ l0 8 0) fun x14 =>
      ob (gfR σ l0 8 0) fun x16 =>
      ob (graI E 0 σ x16 (l6 - (1 : Int32))) fun x18 =>
      ob (gwaI E σ x14 l6 x18) fun σ20 =>
      r_37 l0 l1 l2 l3 l4 l5 (l6 + -1) σ20
set_option maxHeartbeats 4000000 in
set_option maxRecDepth 100000 in
theorem X10_sortBy_37_s_W {σ : gS} {l0 : Nat} {l1 : Nat} {l2 : Int32} {l3 : Int32} {l4 : Int32} {l5 : Int32} {l6 : Int32} {σz : gS} {ls : Array Slot} (hC : gC E D A p R s m args meth c cX10_sortBy 7 RX10 "sortBy" 1 22) (hQ : gQV E D A p l e R s m args below meth c Q cX10_sortBy σz) {r_10 : Nat → Nat → Int32 → Int32 → gS → Option gS} (h_10 : ∀ {l0 : Nat} {l1 : Nat} {l2 : Int32} {l3 : Int32} {σ : gS} {H : Heap} {locs : List Loc} {cells slots : Nat} {ls : Array Slot}, r_10 l0 l1 l2 l3 σ = some σz → gW E D A s σ H locs → lv_has ls 7 [(0, .ref l0), (1, .ref l1), (2, .int l2), (3, .int l3)] → W p l e R s m args below meth c H locs cells slots Q (F0 m 10 ls [])) {r_37 : Nat → Nat → Int32 → Int32 → Int32 → Int32 → Int32 → gS → Option gS} (h_37 : ∀ {l0 : Nat} {l1 : Nat} {l2 : Int32} {l3 : Int32} {l4 : Int32} {l5 : Int32} {l6 : Int32} {σ : gS} {H : Heap} {locs : List Loc} {cells slots : Nat} {ls : Array Slot}, r_37 l0 l1 l2 l3 l4 l5 l6 σ = some σz → gW E D A s σ H locs → lv_has ls 7 [(0, .ref l0), (1, .ref l1), (2, .int l2), (3, .int l3), (4, .int l4), (5, .int l5), (6, .int l6)] → W p l e R s m args below meth c H locs cells slots Q (F0 m 37 ls [])) (hf : X10_sortBy_37_s E r_10 r_37 l0 l1 l2 l3 l4 l5 l6 σ = some σz) (hw : gW E D A s σ H locs) (hl : lv_has ls 7 [(0, .ref l0), (1, .ref l1), (2, .int l2), (3, .int l3), (4, .int l4), (5, .int l5), (6, .int l6)]) : W p l e R s m args below meth c H locs cells slots Q (F0 m 37 ls []) := by
  have hC0 := hC
  obtain ⟨hx, hb, hml, hown, hts, -⟩ := hC0
  unfold X10_sortBy_37_s at hf
  refine lv_iload hx hb dX10_sortBy_37 (lv_at hl 6 rfl) ?_
  refine lv_if_le (tgt := 86) hx hb dX10_sortBy_39 (by decide) (fun c23 => ?_) (fun c23 => ?_)
  · replace hf := (if_pos c23).symm.trans hf
    exact X10_sortBy_86_W hC hQ h_10 hf hw (lv_sub hl [0, 1, 2, 3, 4, 6] rfl)
  · replace hf := (if_neg c23).symm.trans hf
    refine lv_aload_n hx hb dX10_sortBy_42 rfl (lv_at hl 1 rfl) ?_
    refine lv_aload_n hx hb dX10_sortBy_43 rfl (lv_at hl 0 rfl) ?_
    obtain ⟨x5, h6, hf⟩ := ob_some hf
    refine rR_fl_X10_9 hC hw h6 dX10_sortBy_44 ?_
    refine lv_iload hx hb dX10_sortBy_47 (lv_at hl 6 rfl) ?_
    refine lv_iconst (v := 1) hx hb dX10_sortBy_49 (by decide) ?_
    refine lv_isub hx hb dX10_sortBy_50 ?_
    obtain ⟨x7, h8, hf⟩ := ob_some hf
    refine gg_aldI hC hw h8 dX10_sortBy_51 ?_
    obtain ⟨_, h11, hf⟩ := ob_some hf
    obtain ⟨x9, h10, hf⟩ := ob_some hf
    refine gg_cVI (As := [.int x7]) hC hw (X1_valueAt_M l E D A h10) h11 rfl g_ml_X10_31 hd_X1_valueAt (Nat.le_of_ble_eq_true rfl) (Nat.le_of_ble_eq_true rfl) hl.1 rfl (Nat.le_of_ble_eq_true rfl) dX10_sortBy_52 (fun H locs cells slots hw => ?_)
    refine lv_iload hx hb dX10_sortBy_55 (lv_at hl 5 rfl) ?_
    refine lv_iload_n hx hb dX10_sortBy_57 rfl (lv_at hl 2 rfl) ?_
    obtain ⟨x12, h13, hf⟩ := ob_some hf
    refine gg_cSI (As := [.int x9, .int l5, .int l2]) hC hw (X10_isWrong_M l E D A h13) g_ml_X10_35 hd_X10_isWrong.2 (Nat.le_of_ble_eq_true rfl) (Nat.le_of_ble_eq_true rfl) hl.1 rfl (Nat.le_of_ble_eq_true rfl) dX10_sortBy_58 (fun H locs cells slots hw => ?_)
    refine lv_if_eq (tgt := 86) hx hb dX10_sortBy_61 (by decide) (fun c22 => ?_) (fun c22 => ?_)
    · replace hf := (if_pos c22).symm.trans hf
      exact X10_sortBy_86_W hC hQ h_10 hf hw (lv_sub hl [0, 1, 2, 3, 4, 6] rfl)
    · replace hf := (if_neg c22).symm.trans hf
      refine lv_aload_n hx hb dX10_sortBy_64 rfl (lv_at hl 0 rfl) ?_
      obtain ⟨x14, h15, hf⟩ := ob_some hf
      refine rR_fl_X10_9 hC hw h15 dX10_sortBy_65 ?_
      refine lv_iload hx hb dX10_sortBy_68 (lv_at hl 6 rfl) ?_
      refine lv_aload_n hx hb dX10_sortBy_70 rfl (lv_at hl 0 rfl) ?_
      obtain ⟨x16, h17, hf⟩ := ob_some hf
      refine rR_fl_X10_9 hC hw h17 dX10_sortBy_71 ?_
      refine lv_iload hx hb dX10_sortBy_74 (lv_at hl 6 rfl) ?_
      refine lv_iconst (v := 1) hx hb dX10_sortBy_76 (by decide) ?_
      refine lv_isub hx hb dX10_sortBy_77 ?_
      obtain ⟨x18, h19, hf⟩ := ob_some hf
      refine gg_aldI hC hw h19 dX10_sortBy_78 ?_
      obtain ⟨σ20, h21, hf⟩ := ob_some hf
      refine gg_astI hC hw h21 dX10_sortBy_79 (fun H locs hw => ?_)
      refine lv_iinc (v := (l6 + -1)) (lv' := [(6, .int (l6 + -1)), (0, .ref l0), (1, .ref l1), (2, .int l2), (3, .int l3), (4, .int l4), (5, .int l5)]) hx hb dX10_sortBy_80 hl (k := 6) rfl rfl (by decide) rfl (fun ls hl => ?_)
      refine lv_goto (tgt := 37) hx hb dX10_sortBy_83 (by decide) ?_
      exact h_37 hf hw (lv_sub hl [1, 2, 3, 4, 5, 6, 0] rfl)
def X10_sortBy_37 (E : gE) (r_10 : Nat → Nat → Int32 → Int32 → gS → Option gS) : Nat → Nat → Nat → Int32 → Int32 → Int32 → Int32 → Int32 → gS → Option gS
  | 0 => fun _ _ _ _ _ _ _ _ => none
  | n + 1 => X10_sortBy_37_s E r_10 (X10_sortBy_37 E r_10 n)
theorem X10_sortBy_37_W {σz : gS} (hC : gC E D A p R s m args meth c cX10_sortBy 7 RX10 "sortBy" 1 22) (hQ : gQV E D A p l e R s m args below meth c Q cX10_sortBy σz) {r_10 : Nat → Nat → Int32 → Int32 → gS → Option gS} (h_10 : ∀ {l0 : Nat} {l1 : Nat} {l2 : Int32} {l3 : Int32} {σ : gS} {H : Heap} {locs : List Loc} {cells slots : Nat} {ls : Array Slot}, r_10 l0 l1 l2 l3 σ = some σz → gW E D A s σ H locs → lv_has ls 7 [(0, .ref l0), (1, .ref l1), (2, .int l2), (3, .int l3)] → W p l e R s m args below meth c H locs cells slots Q (F0 m 10 ls [])) : ∀ (n : Nat), ∀ {l0 : Nat} {l1 : Nat} {l2 : Int32} {l3 : Int32} {l4 : Int32} {l5 : Int32} {l6 : Int32} {σ : gS} {H : Heap} {locs : List Loc} {cells slots : Nat} {ls : Array Slot}, X10_sortBy_37 E r_10 n l0 l1 l2 l3 l4 l5 l6 σ = some σz → gW E D A s σ H locs → lv_has ls 7 [(0, .ref l0), (1, .ref l1), (2, .int l2), (3, .int l3), (4, .int l4), (5, .int l5), (6, .int l6)] → W p l e R s m args below meth c H locs cells slots Q (F0 m 37 ls []) := by
  intro n
  induction n with
  | zero =>
    intros
    rename_i hf _ _
    exact absurd hf (fun h => by cases (show (none : Option gS) = some σz from h))
  | succ n ih =>
    intros
    rename_i hf hw hl
    exact X10_sortBy_37_s_W hC hQ h_10 ih hf hw hl

def X10_sortBy_10_s (E : gE) (r_10 : Nat → Nat → Int32 → Int32 → gS → Option gS) (l0 : Nat) (l1 : Nat) (l2 : Int32) (l3 : Int32) (σ : gS) : Option gS :=
  ob (gfI σ l0 8 2) fun x24 =>
  if x24 ≤ l3 then
    some σ
  else
    ob (gfR σ l0 8 0) fun x26 =>
    ob (graI E 0 σ x26 l3) fun x28 =>
    ob (gcl σ l1 0) fun _ =>
    ob (X1_valueAt_f E σ l1 x28) fun x30 =>
    X10_sortBy_37 E r_10 (gN E) l0 l1 l2 l3 x28 x30 l3 σ
set_option maxHeartbeats 4000000 in
set_option maxRecDepth 100000 in
theorem X10_sortBy_10_s_W {σ : gS} {l0 : Nat} {l1 : Nat} {l2 : Int32} {l3 : Int32} {σz : gS} {ls : Array Slot} (hC : gC E D A p R s m args meth c cX10_sortBy 7 RX10 "sortBy" 1 22) (hQ : gQV E D A p l e R s m args below meth c Q cX10_sortBy σz) {r_10 : Nat → Nat → Int32 → Int32 → gS → Option gS} (h_10 : ∀ {l0 : Nat} {l1 : Nat} {l2 : Int32} {l3 : Int32} {σ : gS} {H : Heap} {locs : List Loc} {cells slots : Nat} {ls : Array Slot}, r_10 l0 l1 l2 l3 σ = some σz → gW E D A s σ H locs → lv_has ls 7 [(0, .ref l0), (1, .ref l1), (2, .int l2), (3, .int l3)] → W p l e R s m args below meth c H locs cells slots Q (F0 m 10 ls [])) (hf : X10_sortBy_10_s E r_10 l0 l1 l2 l3 σ = some σz) (hw : gW E D A s σ H locs) (hl : lv_has ls 7 [(0, .ref l0), (1, .ref l1), (2, .int l2), (3, .int l3)]) : W p l e R s m args below meth c H locs cells slots Q (F0 m 10 ls []) := by
  have hC0 := hC
  obtain ⟨hx, hb, hml, hown, hts, -⟩ := hC0
  unfold X10_sortBy_10_s at hf
  refine lv_iload_n hx hb dX10_sortBy_10 rfl (lv_at hl 3 rfl) ?_
  refine lv_aload_n hx hb dX10_sortBy_11 rfl (lv_at hl 0 rfl) ?_
  obtain ⟨x24, h25, hf⟩ := ob_some hf
  refine rI_fl_X10_18 hC hw h25 dX10_sortBy_12 ?_
  refine lv_icmp_ge (tgt := 101) hx hb dX10_sortBy_15 (by decide) (fun c33 => ?_) (fun c33 => ?_)
  · replace hf := (if_pos c33).symm.trans hf
    cases hf
    exact hQ _ _ _ _ _ _ dX10_sortBy_101 hw
  · replace hf := (if_neg c33).symm.trans hf
    refine lv_aload_n hx hb dX10_sortBy_18 rfl (lv_at hl 0 rfl) ?_
    obtain ⟨x26, h27, hf⟩ := ob_some hf
    refine rR_fl_X10_9 hC hw h27 dX10_sortBy_19 ?_
    refine lv_iload_n hx hb dX10_sortBy_22 rfl (lv_at hl 3 rfl) ?_
    obtain ⟨x28, h29, hf⟩ := ob_some hf
    refine gg_aldI hC hw h29 dX10_sortBy_23 ?_
    refine lv_istore (lv' := [(4, .int x28), (0, .ref l0), (1, .ref l1), (2, .int l2), (3, .int l3)]) hx hb dX10_sortBy_24 hl (by decide) rfl (fun ls hl => ?_)
    refine lv_aload_n hx hb dX10_sortBy_26 rfl (lv_at hl 2 rfl) ?_
    refine lv_iload hx hb dX10_sortBy_27 (lv_at hl 0 rfl) ?_
    obtain ⟨_, h32, hf⟩ := ob_some hf
    obtain ⟨x30, h31, hf⟩ := ob_some hf
    refine gg_cVI (As := [.int x28]) hC hw (X1_valueAt_M l E D A h31) h32 rfl g_ml_X10_31 hd_X1_valueAt (Nat.le_of_ble_eq_true rfl) (Nat.le_of_ble_eq_true rfl) hl.1 rfl (Nat.le_of_ble_eq_true rfl) dX10_sortBy_29 (fun H locs cells slots hw => ?_)
    refine lv_istore (lv' := [(5, .int x30), (4, .int x28), (0, .ref l0), (1, .ref l1), (2, .int l2), (3, .int l3)]) hx hb dX10_sortBy_32 hl (by decide) rfl (fun ls hl => ?_)
    refine lv_iload_n hx hb dX10_sortBy_34 rfl (lv_at hl 5 rfl) ?_
    refine lv_istore (lv' := [(6, .int l3), (5, .int x30), (4, .int x28), (0, .ref l0), (1, .ref l1), (2, .int l2), (3, .int l3)]) hx hb dX10_sortBy_35 hl (by decide) rfl (fun ls hl => ?_)
    exact X10_sortBy_37_W hC hQ h_10 (gN E) hf hw (lv_sub hl [3, 4, 5, 6, 2, 1, 0] rfl)
def X10_sortBy_10 (E : gE) : Nat → Nat → Nat → Int32 → Int32 → gS → Option gS
  | 0 => fun _ _ _ _ _ => none
  | n + 1 => X10_sortBy_10_s E (X10_sortBy_10 E n)
theorem X10_sortBy_10_W {σz : gS} (hC : gC E D A p R s m args meth c cX10_sortBy 7 RX10 "sortBy" 1 22) (hQ : gQV E D A p l e R s m args below meth c Q cX10_sortBy σz) : ∀ (n : Nat), ∀ {l0 : Nat} {l1 : Nat} {l2 : Int32} {l3 : Int32} {σ : gS} {H : Heap} {locs : List Loc} {cells slots : Nat} {ls : Array Slot}, X10_sortBy_10 E n l0 l1 l2 l3 σ = some σz → gW E D A s σ H locs → lv_has ls 7 [(0, .ref l0), (1, .ref l1), (2, .int l2), (3, .int l3)] → W p l e R s m args below meth c H locs cells slots Q (F0 m 10 ls []) := by
  intro n
  induction n with
  | zero =>
    intros
    rename_i hf _ _
    exact absurd hf (fun h => by cases (show (none : Option gS) = some σz from h))
  | succ n ih =>
    intros
    rename_i hf hw hl
    exact X10_sortBy_10_s_W hC hQ ih hf hw hl

def X10_sortBy (E : gE) (l0 : Nat) (l1 : Nat) (l2 : Int32) (σ : gS) : Option gS :=
  ob (gcl σ l1 0) fun _ =>
  ob (X1_length_f E σ l1) fun x34 =>
  ob (gcl σ l0 8) fun _ =>
  ob (X10_reset_f E l0 x34 σ) fun x37 =>
  X10_sortBy_10 E (gN E) l0 l1 l2 (1 : Int32) x37
set_option maxHeartbeats 4000000 in
set_option maxRecDepth 100000 in
theorem X10_sortBy_W {σ : gS} {l0 : Nat} {l1 : Nat} {l2 : Int32} {σz : gS} {ls : Array Slot} (hC : gC E D A p R s m args meth c cX10_sortBy 7 RX10 "sortBy" 1 22) (hQ : gQV E D A p l e R s m args below meth c Q cX10_sortBy σz) (hf : X10_sortBy E l0 l1 l2 σ = some σz) (hw : gW E D A s σ H locs) (hl : lv_has ls 7 [(0, .ref l0), (1, .ref l1), (2, .int l2)]) : W p l e R s m args below meth c H locs cells slots Q (F0 m 0 ls []) := by
  have hC0 := hC
  obtain ⟨hx, hb, hml, hown, hts, -⟩ := hC0
  unfold X10_sortBy at hf
  refine lv_aload_n hx hb dX10_sortBy_0 rfl (lv_at hl 0 rfl) ?_
  refine lv_aload_n hx hb dX10_sortBy_1 rfl (lv_at hl 1 rfl) ?_
  obtain ⟨_, h36, hf⟩ := ob_some hf
  obtain ⟨x34, h35, hf⟩ := ob_some hf
  refine gg_cVI (As := []) hC hw (X1_length_M l E D A h35) h36 rfl g_ml_X10_22 hd_X1_length (Nat.le_of_ble_eq_true rfl) (Nat.le_of_ble_eq_true rfl) hl.1 rfl (Nat.le_of_ble_eq_true rfl) dX10_sortBy_2 (fun H locs cells slots hw => ?_)
  obtain ⟨_, h39, hf⟩ := ob_some hf
  obtain ⟨x37, h38, hf⟩ := ob_some hf
  refine gg_cVV (As := [.int x34]) hC hw (X10_reset_M l E D A h38) h39 rfl g_ml_X10_27 hd_X10_reset (Nat.le_of_ble_eq_true rfl) (Nat.le_of_ble_eq_true rfl) hl.1 rfl (Nat.le_of_ble_eq_true rfl) dX10_sortBy_5 (fun H locs cells slots hw => ?_)
  refine lv_iconst (v := 1) hx hb dX10_sortBy_8 (by decide) ?_
  refine lv_istore_n (lv' := [(3, .int (1 : Int32)), (0, .ref l0), (1, .ref l1), (2, .int l2)]) hx hb dX10_sortBy_9 rfl hl (by decide) rfl (fun ls hl => ?_)
  exact X10_sortBy_10_W hC hQ (gN E) hf hw (lv_sub hl [1, 2, 3, 0] rfl)

def X10_sortBy_f (E : gE) (l0 : Nat) (l1 : Nat) (l2 : Int32) (σ : gS) : Option gS := X10_sortBy E l0 l1 l2 σ
set_option maxRecDepth 100000 in
theorem X10_sortBy_M (l : Launch) (E : gE) (D : va_G) (A : Nat → Prop) {l0 : Nat} {l1 : Nat} {l2 : Int32} {σ : gS} {σz : gS} (hf : X10_sortBy_f E l0 l1 l2 σ = some σz) : gCV l E D A yX10_sortBy cX10_sortBy 7 1 22 none [.ref l0, .ref l1, .int l2] σ σz := by
  refine gg_entV (own := RX10) (nm := "sortBy") (by decide +kernel) rfl rfl (Nat.le_of_ble_eq_true rfl) rfl ?_
  intro p e R s m args below meth c Q ls hC hw hQ hl
  have hl : lv_has ls 7 [(0, .ref l0), (1, .ref l1), (2, .int l2)] := hl
  exact X10_sortBy_W hC hQ hf hw hl

end MA2
