/-! decompiled: J0_init_db425, J4_append_cf468, J4_append_bf812, X11_replace, J5_append_cf1ce, J0_init_81219, J4_append_15ec4, J4_toString_0e30d, J4_append_cf1ce, J5_init_a7421, J4_init_a7421 -/
section MA4
variable {p : Program} {l : Launch} {e : Env} {R : Room} {s : State} {m : MethodId} {args : Array Value} {below : List Frame} {meth : Method} {c : Code} {H : Heap} {locs : List Loc} {cells slots : Nat} {Q : State → Prop} {E : gE} {D : va_G} {A : Nat → Prop}
def J0_init_db425_79 (E : gE) (l0 : Nat) (l3 : Nat) (l4 : Int32) (σ : gS) : Option gS :=
  ob (gpf E σ l0 12 1 (.int (1 : Int32))) fun σ1 =>
  ob (J7_copyOfRange_39247_f E l3 (0 : Int32) (l4 <<< ((1 : Int32) &&& 31)) σ1) fun x3 =>
  ob (gpf E x3.2 l0 12 0 (.ref x3.1)) fun σ5 =>
  some σ5
set_option maxHeartbeats 4000000 in
set_option maxRecDepth 100000 in
theorem J0_init_db425_79_W {σ : gS} {l0 : Nat} {l3 : Nat} {l4 : Int32} {σz : gS} {ls : Array Slot} (hC : gC E D A p R s m args meth c cJ0_init_db425 5 RJ0 "<init>" 6 151) (hQ : gQV E D A p l e R s m args below meth c Q cJ0_init_db425 σz) (hf : J0_init_db425_79 E l0 l3 l4 σ = some σz) (hw : gW E D A s σ H locs) (hl : lv_has ls 5 [(0, .ref l0), (3, .ref l3), (4, .int l4)]) : W p l e R s m args below meth c H locs cells slots Q (F0 m 79 ls []) := by
  have hC0 := hC
  obtain ⟨hx, hb, hml, hown, hts, -⟩ := hC0
  unfold J0_init_db425_79 at hf
  refine lv_aload_n hx hb dJ0_init_db425_79 rfl (lv_at hl 0 rfl) ?_
  refine lv_iconst (v := 1) hx hb dJ0_init_db425_80 (by decide) ?_
  obtain ⟨σ1, h2, hf⟩ := ob_some hf
  refine pF_fl_J0_15 hC hw h2 rfl rfl dJ0_init_db425_81 (fun H locs hw => ?_)
  refine lv_aload_n hx hb dJ0_init_db425_84 rfl (lv_at hl 0 rfl) ?_
  refine lv_aload_n hx hb dJ0_init_db425_85 rfl (lv_at hl 1 rfl) ?_
  refine lv_iconst (v := 0) hx hb dJ0_init_db425_86 (by decide) ?_
  refine lv_iload hx hb dJ0_init_db425_87 (lv_at hl 2 rfl) ?_
  refine lv_iconst (v := 1) hx hb dJ0_init_db425_89 (by decide) ?_
  refine lv_ishl hx hb dJ0_init_db425_90 ?_
  obtain ⟨x3, h4, hf⟩ := ob_some hf
  refine gg_cSR (As := [.ref l3, .int (0 : Int32), .int (l4 <<< ((1 : Int32) &&& 31))]) hC hw (J7_copyOfRange_39247_M l E D A h4) g_ml_J0_54 hd_J7_copyOfRange_39247.2 (Nat.le_of_ble_eq_true rfl) (Nat.le_of_ble_eq_true rfl) hl.1 rfl (Nat.le_of_ble_eq_true rfl) dJ0_init_db425_91 (fun H locs cells slots hw => ?_)
  obtain ⟨σ5, h6, hf⟩ := ob_some hf
  refine pF_fl_J0_9 hC hw h6 rfl rfl dJ0_init_db425_94 (fun H locs hw => ?_)
  cases hf
  exact hQ _ _ _ _ _ _ dJ0_init_db425_97 hw

def J0_init_db425 (E : gE) (l0 : Nat) (l1 : Nat) (σ : gS) : Option gS :=
  ob (gcl σ l1 11) fun _ =>
  ob (J5_getValue_6d5f1_f E σ l1) fun x7 =>
  ob (gcl σ l1 11) fun _ =>
  ob (J4_length_8abf5_f E σ l1) fun x10 =>
  ob (gcl σ l1 11) fun _ =>
  ob (J5_isLatin1_aae02_f E σ l1) fun x13 =>
  if x13 = 0 then
    if (1 : Int32) = 0 then
      J0_init_db425_79 E l0 x7 x10 σ
    else
      ob (gfI σ l1 11 2) fun x16 =>
      if x16 = 0 then
        J0_init_db425_79 E l0 x7 x10 σ
      else
        none
  else
    ob (gpf E σ l0 12 1 (.int (0 : Int32))) fun σ22 =>
    ob (J7_copyOfRange_39247_f E x7 (0 : Int32) x10 σ22) fun x24 =>
    ob (gpf E x24.2 l0 12 0 (.ref x24.1)) fun σ26 =>
    some σ26
set_option maxHeartbeats 4000000 in
set_option maxRecDepth 100000 in
theorem J0_init_db425_W {σ : gS} {l0 : Nat} {l1 : Nat} {σz : gS} {ls : Array Slot} (hC : gC E D A p R s m args meth c cJ0_init_db425 5 RJ0 "<init>" 6 151) (hQ : gQV E D A p l e R s m args below meth c Q cJ0_init_db425 σz) (hf : J0_init_db425 E l0 l1 σ = some σz) (hw : gW E D A s σ H locs) (hl : lv_has ls 5 [(0, .ref l0), (1, .ref l1)]) : W p l e R s m args below meth c H locs cells slots Q (F0 m 0 ls []) := by
  have hC0 := hC
  obtain ⟨hx, hb, hml, hown, hts, -⟩ := hC0
  unfold J0_init_db425 at hf
  refine lv_aload_n hx hb dJ0_init_db425_0 rfl (lv_at hl 0 rfl) ?_
  refine gg_obj hC rfl (hts _ ml_J0_1) hl.1 (Nat.le_of_ble_eq_true rfl) dJ0_init_db425_1 (Nat.le_of_ble_eq_true rfl) (Nat.le_of_ble_eq_true rfl) ?_
  refine lv_aload_n hx hb dJ0_init_db425_4 rfl (lv_at hl 1 rfl) ?_
  obtain ⟨_, h9, hf⟩ := ob_some hf
  obtain ⟨x7, h8, hf⟩ := ob_some hf
  refine gg_jUR (As := []) hC hw (J5_getValue_6d5f1_M l E D A h8) h9 rfl ju_ml_J0_552 rfl hj_J5_getValue_6d5f1 (Nat.le_of_ble_eq_true rfl) (Nat.le_of_ble_eq_true rfl) hl.1 rfl (Nat.le_of_ble_eq_true rfl) dJ0_init_db425_5 (fun H locs cells slots hw => ?_)
  refine lv_astore_n (lv' := [(3, .ref x7), (0, .ref l0), (1, .ref l1)]) hx hb dJ0_init_db425_8 rfl hl (by decide) rfl (fun ls hl => ?_)
  refine lv_aload_n hx hb dJ0_init_db425_9 rfl (lv_at hl 2 rfl) ?_
  obtain ⟨_, h12, hf⟩ := ob_some hf
  obtain ⟨x10, h11, hf⟩ := ob_some hf
  refine gg_jOI (As := []) hC hw (J4_length_8abf5_M l E D A h11) h12 rfl jo_ml_J0_549 co_J5_length_8abf5 hj_J5_length_8abf5 (Nat.le_of_ble_eq_true rfl) (Nat.le_of_ble_eq_true rfl) hl.1 rfl (Nat.le_of_ble_eq_true rfl) dJ0_init_db425_10 (fun H locs cells slots hw => ?_)
  refine lv_istore (lv' := [(4, .int x10), (3, .ref x7), (0, .ref l0), (1, .ref l1)]) hx hb dJ0_init_db425_13 hl (by decide) rfl (fun ls hl => ?_)
  refine lv_aload_n hx hb dJ0_init_db425_15 rfl (lv_at hl 3 rfl) ?_
  obtain ⟨_, h15, hf⟩ := ob_some hf
  obtain ⟨x13, h14, hf⟩ := ob_some hf
  refine gg_jUI (As := []) hC hw (J5_isLatin1_aae02_M l E D A h14) h15 rfl ju_ml_J0_1047 rfl hj_J5_isLatin1_aae02 (Nat.le_of_ble_eq_true rfl) (Nat.le_of_ble_eq_true rfl) hl.1 rfl (Nat.le_of_ble_eq_true rfl) dJ0_init_db425_16 (fun H locs cells slots hw => ?_)
  refine lv_if_eq (tgt := 41) hx hb dJ0_init_db425_19 (by decide) (fun c28 => ?_) (fun c28 => ?_)
  · replace hf := (if_pos c28).symm.trans hf
    refine gg_gets hC hw (k := 2) rfl fl_J0_38 dJ0_init_db425_41 ?_
    refine lv_if_eq (tgt := 79) hx hb dJ0_init_db425_44 (by decide) (fun c21 => ?_) (fun c21 => ?_)
    · replace hf := (if_pos c21).symm.trans hf
      exact J0_init_db425_79_W hC hQ hf hw (lv_sub hl [2, 1, 0] rfl)
    · replace hf := (if_neg c21).symm.trans hf
      refine lv_aload_n hx hb dJ0_init_db425_47 rfl (lv_at hl 3 rfl) ?_
      obtain ⟨x16, h17, hf⟩ := ob_some hf
      refine rI_fl_J0_1048 hC hw h17 dJ0_init_db425_48 ?_
      refine lv_if_eq (tgt := 79) hx hb dJ0_init_db425_51 (by decide) (fun c20 => ?_) (fun c20 => ?_)
      · replace hf := (if_pos c20).symm.trans hf
        exact J0_init_db425_79_W hC hQ hf hw (lv_sub hl [2, 1, 0] rfl)
      · replace hf := (if_neg c20).symm.trans hf
        refine lv_aload_n hx hb dJ0_init_db425_54 rfl (lv_at hl 2 rfl) ?_
        refine lv_aload_n hx hb dJ0_init_db425_55 rfl (lv_at hl 1 rfl) ?_
        refine lv_iconst (v := 0) hx hb dJ0_init_db425_56 (by decide) ?_
        refine lv_iload hx hb dJ0_init_db425_57 (lv_at hl 0 rfl) ?_
        cases hf
  · replace hf := (if_neg c28).symm.trans hf
    refine lv_aload_n hx hb dJ0_init_db425_22 rfl (lv_at hl 2 rfl) ?_
    refine lv_iconst (v := 0) hx hb dJ0_init_db425_23 (by decide) ?_
    obtain ⟨σ22, h23, hf⟩ := ob_some hf
    refine pF_fl_J0_15 hC hw h23 rfl rfl dJ0_init_db425_24 (fun H locs hw => ?_)
    refine lv_aload_n hx hb dJ0_init_db425_27 rfl (lv_at hl 2 rfl) ?_
    refine lv_aload_n hx hb dJ0_init_db425_28 rfl (lv_at hl 1 rfl) ?_
    refine lv_iconst (v := 0) hx hb dJ0_init_db425_29 (by decide) ?_
    refine lv_iload hx hb dJ0_init_db425_30 (lv_at hl 0 rfl) ?_
    obtain ⟨x24, h25, hf⟩ := ob_some hf
    refine gg_cSR (As := [.ref x7, .int (0 : Int32), .int x10]) hC hw (J7_copyOfRange_39247_M l E D A h25) g_ml_J0_54 hd_J7_copyOfRange_39247.2 (Nat.le_of_ble_eq_true rfl) (Nat.le_of_ble_eq_true rfl) hl.1 rfl (Nat.le_of_ble_eq_true rfl) dJ0_init_db425_32 (fun H locs cells slots hw => ?_)
    obtain ⟨σ26, h27, hf⟩ := ob_some hf
    refine pF_fl_J0_9 hC hw h27 rfl rfl dJ0_init_db425_35 (fun H locs hw => ?_)
    refine lv_goto (tgt := 97) hx hb dJ0_init_db425_38 (by decide) ?_
    cases hf
    exact hQ _ _ _ _ _ _ dJ0_init_db425_97 hw

def J0_init_db425_f (E : gE) (l0 : Nat) (l1 : Nat) (σ : gS) : Option gS := J0_init_db425 E l0 l1 σ
set_option maxRecDepth 100000 in
theorem J0_init_db425_M (l : Launch) (E : gE) (D : va_G) (A : Nat → Prop) {l0 : Nat} {l1 : Nat} {σ : gS} {σz : gS} (hf : J0_init_db425_f E l0 l1 σ = some σz) : gCV l E D A yJ0_init_db425 cJ0_init_db425 5 6 151 none [.ref l0, .ref l1, .null] σ σz := by
  refine gg_entV (own := RJ0) (nm := "<init>") (by decide +kernel) rfl rfl (Nat.le_of_ble_eq_true rfl) rfl ?_
  intro p e R s m args below meth c Q ls hC hw hQ hl
  have hl : lv_has ls 5 [(0, .ref l0), (1, .ref l1), (2, .null)] := hl
  exact J0_init_db425_W hC hQ hf hw (lv_sub hl [0, 1] rfl)

def J4_append_cf468 (E : gE) (l0 : Nat) (l1 : Int32) (σ : gS) : Option (Nat × gS) :=
  ob (gcl σ l0 11) fun _ =>
  ob (J5_append_3fe6f_f E l0 l1 σ) fun x1 =>
  some (l0, x1.2)
set_option maxHeartbeats 4000000 in
set_option maxRecDepth 100000 in
theorem J4_append_cf468_W {σ : gS} {l0 : Nat} {l1 : Int32} {res : (Nat × gS)} {ls : Array Slot} (hC : gC E D A p R s m args meth c cJ4_append_cf468 2 RJ4 "append" 7 171) (hQ : gQR E D A p l e R s m args below meth c Q cJ4_append_cf468 res) (hf : J4_append_cf468 E l0 l1 σ = some res) (hw : gW E D A s σ H locs) (hl : lv_has ls 2 [(0, .ref l0), (1, .int l1)]) : W p l e R s m args below meth c H locs cells slots Q (F0 m 0 ls []) := by
  have hC0 := hC
  obtain ⟨hx, hb, hml, hown, hts, -⟩ := hC0
  unfold J4_append_cf468 at hf
  refine lv_aload_n hx hb dJ4_append_cf468_0 rfl (lv_at hl 0 rfl) ?_
  refine lv_iload_n hx hb dJ4_append_cf468_1 rfl (lv_at hl 1 rfl) ?_
  obtain ⟨_, h3, hf⟩ := ob_some hf
  obtain ⟨x1, h2, hf⟩ := ob_some hf
  refine gg_jSR (As := [.int l1]) hC hw (J5_append_3fe6f_M l E D A h2) h3 rfl js_ml_J4_50 hs_J5_append_3fe6f (Nat.le_of_ble_eq_true rfl) (Nat.le_of_ble_eq_true rfl) hl.1 rfl (Nat.le_of_ble_eq_true rfl) dJ4_append_cf468_2 (fun H locs cells slots hw => ?_)
  refine lv_pop hx hb dJ4_append_cf468_5 rfl ?_
  refine lv_aload_n hx hb dJ4_append_cf468_6 rfl (lv_at hl 0 rfl) ?_
  cases hf
  exact hQ _ _ _ _ _ _ dJ4_append_cf468_7 hw

def J4_append_cf468_f (E : gE) (l0 : Nat) (l1 : Int32) (σ : gS) : Option (Nat × gS) := J4_append_cf468 E l0 l1 σ
set_option maxRecDepth 100000 in
theorem J4_append_cf468_M (l : Launch) (E : gE) (D : va_G) (A : Nat → Prop) {l0 : Nat} {l1 : Int32} {σ : gS} {res : (Nat × gS)} (hf : J4_append_cf468_f E l0 l1 σ = some res) : gCR l E D A yJ4_append_cf468 cJ4_append_cf468 2 7 171 (some (FieldType.object "java/lang/StringBuilder")) [.ref l0, .int l1] σ res := by
  refine gg_entR (own := RJ4) (nm := "append") (ty := ((FieldType.object "java/lang/StringBuilder"))) (by decide +kernel) rfl rfl (Nat.le_of_ble_eq_true rfl) rfl (by first | exact Or.inl ⟨_, rfl⟩ | exact Or.inr ⟨_, rfl⟩) ?_
  intro p e R s m args below meth c Q ls hC hw hQ hl
  have hl : lv_has ls 2 [(0, .ref l0), (1, .int l1)] := hl
  exact J4_append_cf468_W hC hQ hf hw hl

def J4_append_bf812 (E : gE) (l0 : Nat) (l1 : Int32) (σ : gS) : Option (Nat × gS) :=
  ob (gcl σ l0 11) fun _ =>
  ob (J5_append_c97b9_f E l0 l1 σ) fun x1 =>
  some (l0, x1.2)
set_option maxHeartbeats 4000000 in
set_option maxRecDepth 100000 in
theorem J4_append_bf812_W {σ : gS} {l0 : Nat} {l1 : Int32} {res : (Nat × gS)} {ls : Array Slot} (hC : gC E D A p R s m args meth c cJ4_append_bf812 2 RJ4 "append" 7 173) (hQ : gQR E D A p l e R s m args below meth c Q cJ4_append_bf812 res) (hf : J4_append_bf812 E l0 l1 σ = some res) (hw : gW E D A s σ H locs) (hl : lv_has ls 2 [(0, .ref l0), (1, .int l1)]) : W p l e R s m args below meth c H locs cells slots Q (F0 m 0 ls []) := by
  have hC0 := hC
  obtain ⟨hx, hb, hml, hown, hts, -⟩ := hC0
  unfold J4_append_bf812 at hf
  refine lv_aload_n hx hb dJ4_append_bf812_0 rfl (lv_at hl 0 rfl) ?_
  refine lv_iload_n hx hb dJ4_append_bf812_1 rfl (lv_at hl 1 rfl) ?_
  obtain ⟨_, h3, hf⟩ := ob_some hf
  obtain ⟨x1, h2, hf⟩ := ob_some hf
  refine gg_jSR (As := [.int l1]) hC hw (J5_append_c97b9_M l E D A h2) h3 rfl js_ml_J4_53 hs_J5_append_c97b9 (Nat.le_of_ble_eq_true rfl) (Nat.le_of_ble_eq_true rfl) hl.1 rfl (Nat.le_of_ble_eq_true rfl) dJ4_append_bf812_2 (fun H locs cells slots hw => ?_)
  refine lv_pop hx hb dJ4_append_bf812_5 rfl ?_
  refine lv_aload_n hx hb dJ4_append_bf812_6 rfl (lv_at hl 0 rfl) ?_
  cases hf
  exact hQ _ _ _ _ _ _ dJ4_append_bf812_7 hw

def J4_append_bf812_f (E : gE) (l0 : Nat) (l1 : Int32) (σ : gS) : Option (Nat × gS) := J4_append_bf812 E l0 l1 σ
set_option maxRecDepth 100000 in
theorem J4_append_bf812_M (l : Launch) (E : gE) (D : va_G) (A : Nat → Prop) {l0 : Nat} {l1 : Int32} {σ : gS} {res : (Nat × gS)} (hf : J4_append_bf812_f E l0 l1 σ = some res) : gCR l E D A yJ4_append_bf812 cJ4_append_bf812 2 7 173 (some (FieldType.object "java/lang/StringBuilder")) [.ref l0, .int l1] σ res := by
  refine gg_entR (own := RJ4) (nm := "append") (ty := ((FieldType.object "java/lang/StringBuilder"))) (by decide +kernel) rfl rfl (Nat.le_of_ble_eq_true rfl) rfl (by first | exact Or.inl ⟨_, rfl⟩ | exact Or.inr ⟨_, rfl⟩) ?_
  intro p e R s m args below meth c Q ls hC hw hQ hl
  have hl : lv_has ls 2 [(0, .ref l0), (1, .int l1)] := hl
  exact J4_append_bf812_W hC hQ hf hw hl

def X11_replace_43_s (E : gE) (r_43 : Nat → Int32 → Nat → Int32 → gS → Option gS) (l0 : Nat) (l2 : Int32) (l3 : Nat) (l4 : Int32) (σ : gS) : Option gS :=
  if l2 ≤ l4 then
    some σ
  else
    ob (gfI σ l0 9 1) fun x1 =>
    ob (gcl σ l0 9) fun _ =>
    ob (X11_appendRow_f E l0 l3 (l4 * x1) σ) fun x3 =>
    r_43 l0 l2 l3 (l4 + 1) x3
set_option maxHeartbeats 4000000 in
set_option maxRecDepth 100000 in
theorem X11_replace_43_s_W {σ : gS} {l0 : Nat} {l2 : Int32} {l3 : Nat} {l4 : Int32} {σz : gS} {ls : Array Slot} (hC : gC E D A p R s m args meth c cX11_replace 5 RX11 "replace" 7 168) (hQ : gQV E D A p l e R s m args below meth c Q cX11_replace σz) {r_43 : Nat → Int32 → Nat → Int32 → gS → Option gS} (h_43 : ∀ {l0 : Nat} {l2 : Int32} {l3 : Nat} {l4 : Int32} {σ : gS} {H : Heap} {locs : List Loc} {cells slots : Nat} {ls : Array Slot}, r_43 l0 l2 l3 l4 σ = some σz → gW E D A s σ H locs → lv_has ls 5 [(0, .ref l0), (2, .int l2), (3, .ref l3), (4, .int l4)] → W p l e R s m args below meth c H locs cells slots Q (F0 m 43 ls [])) (hf : X11_replace_43_s E r_43 l0 l2 l3 l4 σ = some σz) (hw : gW E D A s σ H locs) (hl : lv_has ls 5 [(0, .ref l0), (2, .int l2), (3, .ref l3), (4, .int l4)]) : W p l e R s m args below meth c H locs cells slots Q (F0 m 43 ls []) := by
  have hC0 := hC
  obtain ⟨hx, hb, hml, hown, hts, -⟩ := hC0
  unfold X11_replace_43_s at hf
  refine lv_iload hx hb dX11_replace_43 (lv_at hl 3 rfl) ?_
  refine lv_iload_n hx hb dX11_replace_45 rfl (lv_at hl 1 rfl) ?_
  refine lv_icmp_ge (tgt := 67) hx hb dX11_replace_46 (by decide) (fun c6 => ?_) (fun c6 => ?_)
  · replace hf := (if_pos c6).symm.trans hf
    cases hf
    exact hQ _ _ _ _ _ _ dX11_replace_67 hw
  · replace hf := (if_neg c6).symm.trans hf
    refine lv_aload_n hx hb dX11_replace_49 rfl (lv_at hl 0 rfl) ?_
    refine lv_aload_n hx hb dX11_replace_50 rfl (lv_at hl 2 rfl) ?_
    refine lv_iload hx hb dX11_replace_51 (lv_at hl 3 rfl) ?_
    refine lv_aload_n hx hb dX11_replace_53 rfl (lv_at hl 0 rfl) ?_
    obtain ⟨x1, h2, hf⟩ := ob_some hf
    refine rI_fl_X11_17 hC hw h2 dX11_replace_54 ?_
    refine lv_imul hx hb dX11_replace_57 ?_
    obtain ⟨_, h5, hf⟩ := ob_some hf
    obtain ⟨x3, h4, hf⟩ := ob_some hf
    refine gg_cVV (As := [.ref l3, .int (l4 * x1)]) hC hw (X11_appendRow_M l E D A h4) h5 rfl g_ml_X11_44 hd_X11_appendRow (Nat.le_of_ble_eq_true rfl) (Nat.le_of_ble_eq_true rfl) hl.1 rfl (Nat.le_of_ble_eq_true rfl) dX11_replace_58 (fun H locs cells slots hw => ?_)
    refine lv_iinc (v := (l4 + 1)) (lv' := [(4, .int (l4 + 1)), (0, .ref l0), (2, .int l2), (3, .ref l3)]) hx hb dX11_replace_61 hl (k := 3) rfl rfl (by decide) rfl (fun ls hl => ?_)
    refine lv_goto (tgt := 43) hx hb dX11_replace_64 (by decide) ?_
    exact h_43 hf hw (lv_sub hl [1, 2, 3, 0] rfl)
def X11_replace_43 (E : gE) : Nat → Nat → Int32 → Nat → Int32 → gS → Option gS
  | 0 => fun _ _ _ _ _ => none
  | n + 1 => X11_replace_43_s E (X11_replace_43 E n)
theorem X11_replace_43_W {σz : gS} (hC : gC E D A p R s m args meth c cX11_replace 5 RX11 "replace" 7 168) (hQ : gQV E D A p l e R s m args below meth c Q cX11_replace σz) : ∀ (n : Nat), ∀ {l0 : Nat} {l2 : Int32} {l3 : Nat} {l4 : Int32} {σ : gS} {H : Heap} {locs : List Loc} {cells slots : Nat} {ls : Array Slot}, X11_replace_43 E n l0 l2 l3 l4 σ = some σz → gW E D A s σ H locs → lv_has ls 5 [(0, .ref l0), (2, .int l2), (3, .ref l3), (4, .int l4)] → W p l e R s m args below meth c H locs cells slots Q (F0 m 43 ls []) := by
  intro n
  induction n with
  | zero =>
    intros
    rename_i hf _ _
    exact absurd hf (fun h => by cases (show (none : Option gS) = some σz from h))
  | succ n ih =>
    intros
    rename_i hf hw hl
    exact X11_replace_43_s_W hC hQ ih hf hw hl

def X11_replace_15_s (E : gE) (r_15 : Nat → Int32 → Nat → Int32 → gS → Option gS) (l0 : Nat) (l2 : Int32) (l3 : Nat) (l4 : Int32) (σ : gS) : Option gS :=
  ob (gfI σ l0 9 1) fun x7 =>
  if x7 ≤ l4 then
    X11_replace_43 E (gN E) l0 l2 l3 (0 : Int32) σ
  else
    ob (gfR σ l0 9 0) fun x9 =>
    ob (graR E 4 σ x9 l4) fun x11 =>
    ob (gcl σ x11 0) fun _ =>
    ob (X1_clear_f E x11 σ) fun x13 =>
    r_15 l0 l2 l3 (l4 + 1) x13
set_option maxHeartbeats 4000000 in
set_option maxRecDepth 100000 in
theorem X11_replace_15_s_W {σ : gS} {l0 : Nat} {l2 : Int32} {l3 : Nat} {l4 : Int32} {σz : gS} {ls : Array Slot} (hC : gC E D A p R s m args meth c cX11_replace 5 RX11 "replace" 7 168) (hQ : gQV E D A p l e R s m args below meth c Q cX11_replace σz) {r_15 : Nat → Int32 → Nat → Int32 → gS → Option gS} (h_15 : ∀ {l0 : Nat} {l2 : Int32} {l3 : Nat} {l4 : Int32} {σ : gS} {H : Heap} {locs : List Loc} {cells slots : Nat} {ls : Array Slot}, r_15 l0 l2 l3 l4 σ = some σz → gW E D A s σ H locs → lv_has ls 5 [(0, .ref l0), (2, .int l2), (3, .ref l3), (4, .int l4)] → W p l e R s m args below meth c H locs cells slots Q (F0 m 15 ls [])) (hf : X11_replace_15_s E r_15 l0 l2 l3 l4 σ = some σz) (hw : gW E D A s σ H locs) (hl : lv_has ls 5 [(0, .ref l0), (2, .int l2), (3, .ref l3), (4, .int l4)]) : W p l e R s m args below meth c H locs cells slots Q (F0 m 15 ls []) := by
  have hC0 := hC
  obtain ⟨hx, hb, hml, hown, hts, -⟩ := hC0
  unfold X11_replace_15_s at hf
  refine lv_iload hx hb dX11_replace_15 (lv_at hl 3 rfl) ?_
  refine lv_aload_n hx hb dX11_replace_17 rfl (lv_at hl 0 rfl) ?_
  obtain ⟨x7, h8, hf⟩ := ob_some hf
  refine rI_fl_X11_17 hC hw h8 dX11_replace_18 ?_
  refine lv_icmp_ge (tgt := 40) hx hb dX11_replace_21 (by decide) (fun c16 => ?_) (fun c16 => ?_)
  · replace hf := (if_pos c16).symm.trans hf
    refine lv_iconst (v := 0) hx hb dX11_replace_40 (by decide) ?_
    refine lv_istore (lv' := [(4, .int (0 : Int32)), (0, .ref l0), (2, .int l2), (3, .ref l3)]) hx hb dX11_replace_41 hl (by decide) rfl (fun ls hl => ?_)
    exact X11_replace_43_W hC hQ (gN E) hf hw (lv_sub hl [1, 2, 3, 0] rfl)
  · replace hf := (if_neg c16).symm.trans hf
    refine lv_aload_n hx hb dX11_replace_24 rfl (lv_at hl 0 rfl) ?_
    obtain ⟨x9, h10, hf⟩ := ob_some hf
    refine rR_fl_X11_11 hC hw h10 dX11_replace_25 ?_
    refine lv_iload hx hb dX11_replace_28 (lv_at hl 3 rfl) ?_
    obtain ⟨x11, h12, hf⟩ := ob_some hf
    refine gg_aldR hC hw h12 rfl rfl dX11_replace_30 ?_
    obtain ⟨_, h15, hf⟩ := ob_some hf
    obtain ⟨x13, h14, hf⟩ := ob_some hf
    refine gg_cVV (As := []) hC hw (X1_clear_M l E D A h14) h15 rfl g_ml_X11_43 hd_X1_clear (Nat.le_of_ble_eq_true rfl) (Nat.le_of_ble_eq_true rfl) hl.1 rfl (Nat.le_of_ble_eq_true rfl) dX11_replace_31 (fun H locs cells slots hw => ?_)
    refine lv_iinc (v := (l4 + 1)) (lv' := [(4, .int (l4 + 1)), (0, .ref l0), (2, .int l2), (3, .ref l3)]) hx hb dX11_replace_34 hl (k := 3) rfl rfl (by decide) rfl (fun ls hl => ?_)
    refine lv_goto (tgt := 15) hx hb dX11_replace_37 (by decide) ?_
    exact h_15 hf hw (lv_sub hl [1, 2, 3, 0] rfl)
def X11_replace_15 (E : gE) : Nat → Nat → Int32 → Nat → Int32 → gS → Option gS
  | 0 => fun _ _ _ _ _ => none
  | n + 1 => X11_replace_15_s E (X11_replace_15 E n)
theorem X11_replace_15_W {σz : gS} (hC : gC E D A p R s m args meth c cX11_replace 5 RX11 "replace" 7 168) (hQ : gQV E D A p l e R s m args below meth c Q cX11_replace σz) : ∀ (n : Nat), ∀ {l0 : Nat} {l2 : Int32} {l3 : Nat} {l4 : Int32} {σ : gS} {H : Heap} {locs : List Loc} {cells slots : Nat} {ls : Array Slot}, X11_replace_15 E n l0 l2 l3 l4 σ = some σz → gW E D A s σ H locs → lv_has ls 5 [(0, .ref l0), (2, .int l2), (3, .ref l3), (4, .int l4)] → W p l e R s m args below meth c H locs cells slots Q (F0 m 15 ls []) := by
  intro n
  induction n with
  | zero =>
    intros
    rename_i hf _ _
    exact absurd hf (fun h => by cases (show (none : Option gS) = some σz from h))
  | succ n ih =>
    intros
    rename_i hf hw hl
    exact X11_replace_15_s_W hC hQ ih hf hw hl

def X11_replace (E : gE) (l0 : Nat) (l1 : Int32) (l2 : Int32) (l3 : Nat) (σ : gS) : Option gS :=
  ob (gpf E σ l0 9 1 (.int l1)) fun σ17 =>
  ob (gfR σ17 l0 9 2) fun x19 =>
  ob (gcl σ17 x19 3) fun _ =>
  ob (X4_clear_f E x19 σ17) fun x21 =>
  X11_replace_15 E (gN E) l0 l2 l3 (0 : Int32) x21
set_option maxHeartbeats 4000000 in
set_option maxRecDepth 100000 in
theorem X11_replace_W {σ : gS} {l0 : Nat} {l1 : Int32} {l2 : Int32} {l3 : Nat} {σz : gS} {ls : Array Slot} (hC : gC E D A p R s m args meth c cX11_replace 5 RX11 "replace" 7 168) (hQ : gQV E D A p l e R s m args below meth c Q cX11_replace σz) (hf : X11_replace E l0 l1 l2 l3 σ = some σz) (hw : gW E D A s σ H locs) (hl : lv_has ls 5 [(0, .ref l0), (1, .int l1), (2, .int l2), (3, .ref l3)]) : W p l e R s m args below meth c H locs cells slots Q (F0 m 0 ls []) := by
  have hC0 := hC
  obtain ⟨hx, hb, hml, hown, hts, -⟩ := hC0
  unfold X11_replace at hf
  refine lv_aload_n hx hb dX11_replace_0 rfl (lv_at hl 0 rfl) ?_
  refine lv_iload_n hx hb dX11_replace_1 rfl (lv_at hl 1 rfl) ?_
  obtain ⟨σ17, h18, hf⟩ := ob_some hf
  refine p_fl_X11_17 hC hw h18 rfl rfl dX11_replace_2 (fun H locs hw => ?_)
  refine lv_aload_n hx hb dX11_replace_5 rfl (lv_at hl 0 rfl) ?_
  obtain ⟨x19, h20, hf⟩ := ob_some hf
  refine rR_fl_X11_24 hC hw h20 dX11_replace_6 ?_
  obtain ⟨_, h23, hf⟩ := ob_some hf
  obtain ⟨x21, h22, hf⟩ := ob_some hf
  refine gg_cVV (As := []) hC hw (X4_clear_M l E D A h22) h23 rfl g_ml_X11_40 hd_X4_clear (Nat.le_of_ble_eq_true rfl) (Nat.le_of_ble_eq_true rfl) hl.1 rfl (Nat.le_of_ble_eq_true rfl) dX11_replace_9 (fun H locs cells slots hw => ?_)
  refine lv_iconst (v := 0) hx hb dX11_replace_12 (by decide) ?_
  refine lv_istore (lv' := [(4, .int (0 : Int32)), (0, .ref l0), (1, .int l1), (2, .int l2), (3, .ref l3)]) hx hb dX11_replace_13 hl (by decide) rfl (fun ls hl => ?_)
  exact X11_replace_15_W hC hQ (gN E) hf hw (lv_sub hl [1, 3, 4, 0] rfl)

def X11_replace_f (E : gE) (l0 : Nat) (l1 : Int32) (l2 : Int32) (l3 : Nat) (σ : gS) : Option gS := X11_replace E l0 l1 l2 l3 σ
set_option maxRecDepth 100000 in
theorem X11_replace_M (l : Launch) (E : gE) (D : va_G) (A : Nat → Prop) {l0 : Nat} {l1 : Int32} {l2 : Int32} {l3 : Nat} {σ : gS} {σz : gS} (hf : X11_replace_f E l0 l1 l2 l3 σ = some σz) : gCV l E D A yX11_replace cX11_replace 5 7 168 none [.ref l0, .int l1, .int l2, .ref l3] σ σz := by
  refine gg_entV (own := RX11) (nm := "replace") (by decide +kernel) rfl rfl (Nat.le_of_ble_eq_true rfl) rfl ?_
  intro p e R s m args below meth c Q ls hC hw hQ hl
  have hl : lv_has ls 5 [(0, .ref l0), (1, .int l1), (2, .int l2), (3, .ref l3)] := hl
  exact X11_replace_W hC hQ hf hw hl

def J5_append_cf1ce (E : gE) (l0 : Nat) (l1 : Nat) (σ : gS) : Option (Nat × gS) :=
  ob (gxc E l1 100) fun _ =>
  ob (J0_length_8abf5_f E σ l1) fun x1 =>
  ob (gfI σ l0 11 3) fun x4 =>
  ob (gcl σ l0 11) fun _ =>
  ob (J5_ensureCapacityInternal_d00df_f E l0 (x4 + x1) σ) fun x6 =>
  ob (gfI x6 l0 11 3) fun x9 =>
  ob (gcl x6 l0 11) fun _ =>
  ob (J5_putStringAt_47b60_f E l0 x9 l1 x6) fun x11 =>
  ob (gfI x11 l0 11 3) fun x14 =>
  ob (gpf E x11 l0 11 3 (.int (x14 + x1))) fun σ16 =>
  some (l0, σ16)
set_option maxHeartbeats 4000000 in
set_option maxRecDepth 100000 in
theorem J5_append_cf1ce_W {σ : gS} {l0 : Nat} {l1 : Nat} {res : (Nat × gS)} {ls : Array Slot} (hC : gC E D A p R s m args meth c cJ5_append_cf1ce 3 RJ5 "append" 8 180) (hQ : gQR E D A p l e R s m args below meth c Q cJ5_append_cf1ce res) (hf : J5_append_cf1ce E l0 l1 σ = some res) (hw : gW E D A s σ H locs) (hl : lv_has ls 3 [(0, .ref l0), (1, .ref l1)]) : W p l e R s m args below meth c H locs cells slots Q (F0 m 0 ls []) := by
  have hC0 := hC
  obtain ⟨hx, hb, hml, hown, hts, -⟩ := hC0
  unfold J5_append_cf1ce at hf
  refine lv_aload_n hx hb dJ5_append_cf1ce_0 rfl (lv_at hl 1 rfl) ?_
  refine lv_ifnonnull (tgt := 9) hx hb dJ5_append_cf1ce_1 (by decide) ?_
  refine lv_aload_n hx hb dJ5_append_cf1ce_9 rfl (lv_at hl 1 rfl) ?_
  obtain ⟨_, h3, hf⟩ := ob_some hf
  obtain ⟨x1, h2, hf⟩ := ob_some hf
  refine gg_cXI (As := []) hC hw (J0_length_8abf5_M l E D A h2) h3 rfl g_ml_J5_32 hd_J0_length_8abf5 (Nat.le_of_ble_eq_true rfl) (Nat.le_of_ble_eq_true rfl) hl.1 rfl (Nat.le_of_ble_eq_true rfl) dJ5_append_cf1ce_10 (fun H locs cells slots hw => ?_)
  refine lv_istore_n (lv' := [(2, .int x1), (0, .ref l0), (1, .ref l1)]) hx hb dJ5_append_cf1ce_13 rfl hl (by decide) rfl (fun ls hl => ?_)
  refine lv_aload_n hx hb dJ5_append_cf1ce_14 rfl (lv_at hl 1 rfl) ?_
  refine lv_aload_n hx hb dJ5_append_cf1ce_15 rfl (lv_at hl 1 rfl) ?_
  obtain ⟨x4, h5, hf⟩ := ob_some hf
  refine rI_fl_J5_79 hC hw h5 dJ5_append_cf1ce_16 ?_
  refine lv_iload_n hx hb dJ5_append_cf1ce_19 rfl (lv_at hl 0 rfl) ?_
  refine lv_iadd hx hb dJ5_append_cf1ce_20 ?_
  obtain ⟨_, h8, hf⟩ := ob_some hf
  obtain ⟨x6, h7, hf⟩ := ob_some hf
  refine gg_jUV (As := [.int (x4 + x1)]) hC hw (J5_ensureCapacityInternal_d00df_M l E D A h7) h8 rfl ju_ml_J5_100 rfl hj_J5_ensureCapacityInternal_d00df (Nat.le_of_ble_eq_true rfl) (Nat.le_of_ble_eq_true rfl) hl.1 rfl (Nat.le_of_ble_eq_true rfl) dJ5_append_cf1ce_21 (fun H locs cells slots hw => ?_)
  refine lv_aload_n hx hb dJ5_append_cf1ce_24 rfl (lv_at hl 1 rfl) ?_
  refine lv_aload_n hx hb dJ5_append_cf1ce_25 rfl (lv_at hl 1 rfl) ?_
  obtain ⟨x9, h10, hf⟩ := ob_some hf
  refine rI_fl_J5_79 hC hw h10 dJ5_append_cf1ce_26 ?_
  refine lv_aload_n hx hb dJ5_append_cf1ce_29 rfl (lv_at hl 2 rfl) ?_
  obtain ⟨_, h13, hf⟩ := ob_some hf
  obtain ⟨x11, h12, hf⟩ := ob_some hf
  refine gg_jUV (As := [.int x9, .ref l1]) hC hw (J5_putStringAt_47b60_M l E D A h12) h13 rfl ju_ml_J5_208 rfl hj_J5_putStringAt_47b60 (Nat.le_of_ble_eq_true rfl) (Nat.le_of_ble_eq_true rfl) hl.1 rfl (Nat.le_of_ble_eq_true rfl) dJ5_append_cf1ce_30 (fun H locs cells slots hw => ?_)
  refine lv_aload_n hx hb dJ5_append_cf1ce_33 rfl (lv_at hl 1 rfl) ?_
  refine lv_dup hx hb dJ5_append_cf1ce_34 rfl ?_
  obtain ⟨x14, h15, hf⟩ := ob_some hf
  refine rI_fl_J5_79 hC hw h15 dJ5_append_cf1ce_35 ?_
  refine lv_iload_n hx hb dJ5_append_cf1ce_38 rfl (lv_at hl 0 rfl) ?_
  refine lv_iadd hx hb dJ5_append_cf1ce_39 ?_
  obtain ⟨σ16, h17, hf⟩ := ob_some hf
  refine p_fl_J5_79 hC hw h17 rfl rfl dJ5_append_cf1ce_40 (fun H locs hw => ?_)
  refine lv_aload_n hx hb dJ5_append_cf1ce_43 rfl (lv_at hl 1 rfl) ?_
  cases hf
  exact hQ _ _ _ _ _ _ dJ5_append_cf1ce_44 hw

def J5_append_cf1ce_f (E : gE) (l0 : Nat) (l1 : Nat) (σ : gS) : Option (Nat × gS) := J5_append_cf1ce E l0 l1 σ
set_option maxRecDepth 100000 in
theorem J5_append_cf1ce_M (l : Launch) (E : gE) (D : va_G) (A : Nat → Prop) {l0 : Nat} {l1 : Nat} {σ : gS} {res : (Nat × gS)} (hf : J5_append_cf1ce_f E l0 l1 σ = some res) : gCR l E D A yJ5_append_cf1ce cJ5_append_cf1ce 3 8 180 (some (FieldType.object "java/lang/AbstractStringBuilder")) [.ref l0, .ref l1] σ res := by
  refine gg_entR (own := RJ5) (nm := "append") (ty := ((FieldType.object "java/lang/AbstractStringBuilder"))) (by decide +kernel) rfl rfl (Nat.le_of_ble_eq_true rfl) rfl (by first | exact Or.inl ⟨_, rfl⟩ | exact Or.inr ⟨_, rfl⟩) ?_
  intro p e R s m args below meth c Q ls hC hw hQ hl
  have hl : lv_has ls 3 [(0, .ref l0), (1, .ref l1)] := hl
  exact J5_append_cf1ce_W hC hQ hf hw hl

def J0_init_81219 (E : gE) (l0 : Nat) (l1 : Nat) (σ : gS) : Option gS :=
  ob (J0_init_db425_f E l0 l1 σ) fun x1 =>
  some x1
set_option maxHeartbeats 4000000 in
set_option maxRecDepth 100000 in
theorem J0_init_81219_W {σ : gS} {l0 : Nat} {l1 : Nat} {σz : gS} {ls : Array Slot} (hC : gC E D A p R s m args meth c cJ0_init_81219 2 RJ0 "<init>" 7 175) (hQ : gQV E D A p l e R s m args below meth c Q cJ0_init_81219 σz) (hf : J0_init_81219 E l0 l1 σ = some σz) (hw : gW E D A s σ H locs) (hl : lv_has ls 2 [(0, .ref l0), (1, .ref l1)]) : W p l e R s m args below meth c H locs cells slots Q (F0 m 0 ls []) := by
  have hC0 := hC
  obtain ⟨hx, hb, hml, hown, hts, -⟩ := hC0
  unfold J0_init_81219 at hf
  refine lv_aload_n hx hb dJ0_init_81219_0 rfl (lv_at hl 0 rfl) ?_
  refine lv_aload_n hx hb dJ0_init_81219_1 rfl (lv_at hl 1 rfl) ?_
  refine lv_null hx hb dJ0_init_81219_2 ?_
  obtain ⟨x1, h2, hf⟩ := ob_some hf
  refine gg_cIV (rt := none) (As := [.ref l1, .null]) hC hw (J0_init_db425_M l E D A h2) co_J0_init_db425 in_J0 ml_J0_489 im_J0_init_db425 rfl hd_J0_init_db425.2 (Nat.le_of_ble_eq_true rfl) (Nat.le_of_ble_eq_true rfl) hl.1 rfl (Nat.le_of_ble_eq_true rfl) dJ0_init_81219_3 (fun H locs cells slots hw => ?_)
  cases hf
  exact hQ _ _ _ _ _ _ dJ0_init_81219_6 hw

def J0_init_81219_f (E : gE) (l0 : Nat) (l1 : Nat) (σ : gS) : Option gS := J0_init_81219 E l0 l1 σ
set_option maxRecDepth 100000 in
theorem J0_init_81219_M (l : Launch) (E : gE) (D : va_G) (A : Nat → Prop) {l0 : Nat} {l1 : Nat} {σ : gS} {σz : gS} (hf : J0_init_81219_f E l0 l1 σ = some σz) : gCV l E D A yJ0_init_81219 cJ0_init_81219 2 7 175 none [.ref l0, .ref l1] σ σz := by
  refine gg_entV (own := RJ0) (nm := "<init>") (by decide +kernel) rfl rfl (Nat.le_of_ble_eq_true rfl) rfl ?_
  intro p e R s m args below meth c Q ls hC hw hQ hl
  have hl : lv_has ls 2 [(0, .ref l0), (1, .ref l1)] := hl
  exact J0_init_81219_W hC hQ hf hw hl

def J4_append_15ec4 (E : gE) (l0 : Nat) (l1 : Nat) (σ : gS) : Option (Nat × gS) :=
  ob (gcl σ l0 11) fun _ =>
  ob (J5_append_cf1ce_f E l0 l1 σ) fun x1 =>
  some (l0, x1.2)
set_option maxHeartbeats 4000000 in
set_option maxRecDepth 100000 in
theorem J4_append_15ec4_W {σ : gS} {l0 : Nat} {l1 : Nat} {res : (Nat × gS)} {ls : Array Slot} (hC : gC E D A p R s m args meth c cJ4_append_15ec4 2 RJ4 "append" 9 202) (hQ : gQR E D A p l e R s m args below meth c Q cJ4_append_15ec4 res) (hf : J4_append_15ec4 E l0 l1 σ = some res) (hw : gW E D A s σ H locs) (hl : lv_has ls 2 [(0, .ref l0), (1, .ref l1)]) : W p l e R s m args below meth c H locs cells slots Q (F0 m 0 ls []) := by
  have hC0 := hC
  obtain ⟨hx, hb, hml, hown, hts, -⟩ := hC0
  unfold J4_append_15ec4 at hf
  refine lv_aload_n hx hb dJ4_append_15ec4_0 rfl (lv_at hl 0 rfl) ?_
  refine lv_aload_n hx hb dJ4_append_15ec4_1 rfl (lv_at hl 1 rfl) ?_
  obtain ⟨_, h3, hf⟩ := ob_some hf
  obtain ⟨x1, h2, hf⟩ := ob_some hf
  refine gg_jSR (As := [.ref l1]) hC hw (J5_append_cf1ce_M l E D A h2) h3 rfl js_ml_J4_29 hs_J5_append_cf1ce (Nat.le_of_ble_eq_true rfl) (Nat.le_of_ble_eq_true rfl) hl.1 rfl (Nat.le_of_ble_eq_true rfl) dJ4_append_15ec4_2 (fun H locs cells slots hw => ?_)
  refine lv_pop hx hb dJ4_append_15ec4_5 rfl ?_
  refine lv_aload_n hx hb dJ4_append_15ec4_6 rfl (lv_at hl 0 rfl) ?_
  cases hf
  exact hQ _ _ _ _ _ _ dJ4_append_15ec4_7 hw

def J4_append_15ec4_f (E : gE) (l0 : Nat) (l1 : Nat) (σ : gS) : Option (Nat × gS) := J4_append_15ec4 E l0 l1 σ
set_option maxRecDepth 100000 in
theorem J4_append_15ec4_M (l : Launch) (E : gE) (D : va_G) (A : Nat → Prop) {l0 : Nat} {l1 : Nat} {σ : gS} {res : (Nat × gS)} (hf : J4_append_15ec4_f E l0 l1 σ = some res) : gCR l E D A yJ4_append_15ec4 cJ4_append_15ec4 2 9 202 (some (FieldType.object "java/lang/StringBuilder")) [.ref l0, .ref l1] σ res := by
  refine gg_entR (own := RJ4) (nm := "append") (ty := ((FieldType.object "java/lang/StringBuilder"))) (by decide +kernel) rfl rfl (Nat.le_of_ble_eq_true rfl) rfl (by first | exact Or.inl ⟨_, rfl⟩ | exact Or.inr ⟨_, rfl⟩) ?_
  intro p e R s m args below meth c Q ls hC hw hQ hl
  have hl : lv_has ls 2 [(0, .ref l0), (1, .ref l1)] := hl
  exact J4_append_15ec4_W hC hQ hf hw hl

def J4_toString_0e30d (E : gE) (l0 : Nat) (σ : gS) : Option (Nat × gS) :=
  ob (gnew E σ 12 [.null, .int 0, .int 0, .int 0]) fun q1 =>
  ob (J0_init_81219_f E q1.1 l0 q1.2) fun x3 =>
  some (q1.1, x3)
set_option maxHeartbeats 4000000 in
set_option maxRecDepth 100000 in
theorem J4_toString_0e30d_W {σ : gS} {l0 : Nat} {res : (Nat × gS)} {ls : Array Slot} (hC : gC E D A p R s m args meth c cJ4_toString_0e30d 1 RJ4 "toString" 8 196) (hQ : gQR E D A p l e R s m args below meth c Q cJ4_toString_0e30d res) (hf : J4_toString_0e30d E l0 σ = some res) (hw : gW E D A s σ H locs) (hl : lv_has ls 1 [(0, .ref l0)]) : W p l e R s m args below meth c H locs cells slots Q (F0 m 0 ls []) := by
  have hC0 := hC
  obtain ⟨hx, hb, hml, hown, hts, -⟩ := hC0
  unfold J4_toString_0e30d at hf
  obtain ⟨q1, h2, hf⟩ := ob_some hf
  refine n_cl_J4_18 hC hw h2 dJ4_toString_0e30d_0 (fun H locs cells slots hw => ?_)
  refine lv_dup hx hb dJ4_toString_0e30d_3 rfl ?_
  refine lv_aload_n hx hb dJ4_toString_0e30d_4 rfl (lv_at hl 0 rfl) ?_
  obtain ⟨x3, h4, hf⟩ := ob_some hf
  refine gg_cIV (rt := none) (As := [.ref l0]) hC hw (J0_init_81219_M l E D A h4) co_J0_init_81219 in_J0 ml_J4_137 im_J0_init_81219 rfl hd_J0_init_81219.2 (Nat.le_of_ble_eq_true rfl) (Nat.le_of_ble_eq_true rfl) hl.1 rfl (Nat.le_of_ble_eq_true rfl) dJ4_toString_0e30d_5 (fun H locs cells slots hw => ?_)
  cases hf
  exact hQ _ _ _ _ _ _ dJ4_toString_0e30d_8 hw

def J4_toString_0e30d_f (E : gE) (l0 : Nat) (σ : gS) : Option (Nat × gS) := J4_toString_0e30d E l0 σ
set_option maxRecDepth 100000 in
theorem J4_toString_0e30d_M (l : Launch) (E : gE) (D : va_G) (A : Nat → Prop) {l0 : Nat} {σ : gS} {res : (Nat × gS)} (hf : J4_toString_0e30d_f E l0 σ = some res) : gCR l E D A yJ4_toString_0e30d cJ4_toString_0e30d 1 8 196 (some (FieldType.object "java/lang/String")) [.ref l0] σ res := by
  refine gg_entR (own := RJ4) (nm := "toString") (ty := ((FieldType.object "java/lang/String"))) (by decide +kernel) rfl rfl (Nat.le_of_ble_eq_true rfl) rfl (by first | exact Or.inl ⟨_, rfl⟩ | exact Or.inr ⟨_, rfl⟩) ?_
  intro p e R s m args below meth c Q ls hC hw hQ hl
  have hl : lv_has ls 1 [(0, .ref l0)] := hl
  exact J4_toString_0e30d_W hC hQ hf hw hl

def J4_append_cf1ce (E : gE) (l0 : Nat) (l1 : Nat) (σ : gS) : Option (Nat × gS) :=
  ob (gcl σ l0 11) fun _ =>
  ob (J4_append_15ec4_f E l0 l1 σ) fun x1 =>
  some (x1.1, x1.2)
set_option maxHeartbeats 4000000 in
set_option maxRecDepth 100000 in
theorem J4_append_cf1ce_W {σ : gS} {l0 : Nat} {l1 : Nat} {res : (Nat × gS)} {ls : Array Slot} (hC : gC E D A p R s m args meth c cJ4_append_cf1ce 2 RJ4 "append" 10 223) (hQ : gQR E D A p l e R s m args below meth c Q cJ4_append_cf1ce res) (hf : J4_append_cf1ce E l0 l1 σ = some res) (hw : gW E D A s σ H locs) (hl : lv_has ls 2 [(0, .ref l0), (1, .ref l1)]) : W p l e R s m args below meth c H locs cells slots Q (F0 m 0 ls []) := by
  have hC0 := hC
  obtain ⟨hx, hb, hml, hown, hts, -⟩ := hC0
  unfold J4_append_cf1ce at hf
  refine lv_aload_n hx hb dJ4_append_cf1ce_0 rfl (lv_at hl 0 rfl) ?_
  refine lv_aload_n hx hb dJ4_append_cf1ce_1 rfl (lv_at hl 1 rfl) ?_
  obtain ⟨_, h3, hf⟩ := ob_some hf
  obtain ⟨x1, h2, hf⟩ := ob_some hf
  refine gg_cVR (As := [.ref l1]) hC hw (J4_append_15ec4_M l E D A h2) h3 rfl g_ml_J4_23 hd_J4_append_15ec4 (Nat.le_of_ble_eq_true rfl) (Nat.le_of_ble_eq_true rfl) hl.1 rfl (Nat.le_of_ble_eq_true rfl) dJ4_append_cf1ce_2 (fun H locs cells slots hw => ?_)
  cases hf
  exact hQ _ _ _ _ _ _ dJ4_append_cf1ce_5 hw

def J4_append_cf1ce_f (E : gE) (l0 : Nat) (l1 : Nat) (σ : gS) : Option (Nat × gS) := J4_append_cf1ce E l0 l1 σ
set_option maxRecDepth 100000 in
theorem J4_append_cf1ce_M (l : Launch) (E : gE) (D : va_G) (A : Nat → Prop) {l0 : Nat} {l1 : Nat} {σ : gS} {res : (Nat × gS)} (hf : J4_append_cf1ce_f E l0 l1 σ = some res) : gCR l E D A yJ4_append_cf1ce cJ4_append_cf1ce 2 10 223 (some (FieldType.object "java/lang/AbstractStringBuilder")) [.ref l0, .ref l1] σ res := by
  refine gg_entR (own := RJ4) (nm := "append") (ty := ((FieldType.object "java/lang/AbstractStringBuilder"))) (by decide +kernel) rfl rfl (Nat.le_of_ble_eq_true rfl) rfl (by first | exact Or.inl ⟨_, rfl⟩ | exact Or.inr ⟨_, rfl⟩) ?_
  intro p e R s m args below meth c Q ls hC hw hQ hl
  have hl : lv_has ls 2 [(0, .ref l0), (1, .ref l1)] := hl
  exact J4_append_cf1ce_W hC hQ hf hw hl

def J5_init_a7421_53 (E : gE) (l0 : Nat) (l1 : Nat) (s0 : Nat) (s1 : Nat) (σ : gS) : Option gS :=
  ob (gpf E σ s1 11 0 (.ref s0)) fun σ1 =>
  ob (gcl σ1 l0 11) fun _ =>
  ob (J4_append_cf1ce_f E l0 l1 σ1) fun x3 =>
  some x3.2
set_option maxHeartbeats 4000000 in
set_option maxRecDepth 100000 in
theorem J5_init_a7421_53_W {σ : gS} {l0 : Nat} {l1 : Nat} {s0 : Nat} {s1 : Nat} {σz : gS} {ls : Array Slot} (hC : gC E D A p R s m args meth c cJ5_init_a7421 5 RJ5 "<init>" 11 244) (hQ : gQV E D A p l e R s m args below meth c Q cJ5_init_a7421 σz) (hf : J5_init_a7421_53 E l0 l1 s0 s1 σ = some σz) (hw : gW E D A s σ H locs) (hl : lv_has ls 5 [(0, .ref l0), (1, .ref l1)]) : W p l e R s m args below meth c H locs cells slots Q (F0 m 53 ls [.ref s0, .ref s1]) := by
  have hC0 := hC
  obtain ⟨hx, hb, hml, hown, hts, -⟩ := hC0
  unfold J5_init_a7421_53 at hf
  obtain ⟨σ1, h2, hf⟩ := ob_some hf
  refine p_fl_J5_15 hC hw h2 rfl rfl dJ5_init_a7421_53 (fun H locs hw => ?_)
  refine lv_aload_n hx hb dJ5_init_a7421_56 rfl (lv_at hl 0 rfl) ?_
  refine lv_aload_n hx hb dJ5_init_a7421_57 rfl (lv_at hl 1 rfl) ?_
  obtain ⟨_, h5, hf⟩ := ob_some hf
  obtain ⟨x3, h4, hf⟩ := ob_some hf
  refine gg_jOR (As := [.ref l1]) hC hw (J4_append_cf1ce_M l E D A h4) h5 rfl jo_ml_J5_43 co_J5_append_cf1ce hj_J5_append_cf1ce (Nat.le_of_ble_eq_true rfl) (Nat.le_of_ble_eq_true rfl) hl.1 rfl (Nat.le_of_ble_eq_true rfl) dJ5_init_a7421_58 (fun H locs cells slots hw => ?_)
  refine lv_pop hx hb dJ5_init_a7421_61 rfl ?_
  cases hf
  exact hQ _ _ _ _ _ _ dJ5_init_a7421_62 hw

def J5_init_a7421_24 (E : gE) (l0 : Nat) (l1 : Nat) (s0 : Int32) (σ : gS) : Option gS :=
  ob (gxc E l1 100) fun _ =>
  ob (J0_coder_7d493_f E σ l1) fun x6 =>
  ob (gby x6) fun _ =>
  ob (gpf E σ l0 11 1 (.int x6)) fun σ9 =>
  if x6 = 0 then
    ob (gnaB E σ9 s0) fun q14 =>
    J5_init_a7421_53 E l0 l1 q14.1 l0 q14.2
  else
    none
set_option maxHeartbeats 4000000 in
set_option maxRecDepth 100000 in
theorem J5_init_a7421_24_W {σ : gS} {l0 : Nat} {l1 : Nat} {s0 : Int32} {σz : gS} {ls : Array Slot} (hC : gC E D A p R s m args meth c cJ5_init_a7421 5 RJ5 "<init>" 11 244) (hQ : gQV E D A p l e R s m args below meth c Q cJ5_init_a7421 σz) (hf : J5_init_a7421_24 E l0 l1 s0 σ = some σz) (hw : gW E D A s σ H locs) (hl : lv_has ls 5 [(0, .ref l0), (1, .ref l1)]) : W p l e R s m args below meth c H locs cells slots Q (F0 m 24 ls [.int s0]) := by
  have hC0 := hC
  obtain ⟨hx, hb, hml, hown, hts, -⟩ := hC0
  unfold J5_init_a7421_24 at hf
  refine lv_istore_n (lv' := [(3, .int s0), (0, .ref l0), (1, .ref l1)]) hx hb dJ5_init_a7421_24 rfl hl (by decide) rfl (fun ls hl => ?_)
  refine lv_aload_n hx hb dJ5_init_a7421_25 rfl (lv_at hl 2 rfl) ?_
  obtain ⟨_, h8, hf⟩ := ob_some hf
  obtain ⟨x6, h7, hf⟩ := ob_some hf
  refine gg_cXI (As := []) hC hw (J0_coder_7d493_M l E D A h7) h8 rfl g_ml_J5_40 hd_J0_coder_7d493 (Nat.le_of_ble_eq_true rfl) (Nat.le_of_ble_eq_true rfl) hl.1 rfl (Nat.le_of_ble_eq_true rfl) dJ5_init_a7421_26 (fun H locs cells slots hw => ?_)
  refine lv_istore (lv' := [(4, .int x6), (3, .int s0), (0, .ref l0), (1, .ref l1)]) hx hb dJ5_init_a7421_29 hl (by decide) rfl (fun ls hl => ?_)
  refine lv_aload_n hx hb dJ5_init_a7421_31 rfl (lv_at hl 2 rfl) ?_
  refine lv_iload hx hb dJ5_init_a7421_32 (lv_at hl 0 rfl) ?_
  obtain ⟨_, h11, hf⟩ := ob_some hf
  obtain ⟨σ9, h10, hf⟩ := ob_some hf
  refine p_fl_J5_22 hC hw h10 (gby_some h11) (gby_fits h11) dJ5_init_a7421_34 (fun H locs hw => ?_)
  refine lv_aload_n hx hb dJ5_init_a7421_37 rfl (lv_at hl 2 rfl) ?_
  refine lv_iload hx hb dJ5_init_a7421_38 (lv_at hl 0 rfl) ?_
  refine lv_if_ne (tgt := 49) hx hb dJ5_init_a7421_40 (by decide) (fun c16 => ?_) (fun c16 => ?_)
  · replace hf := (if_neg c16).symm.trans hf
    refine lv_iload_n hx hb dJ5_init_a7421_49 rfl (lv_at hl 1 rfl) ?_
    cases hf
  · replace hf := (if_pos c16).symm.trans hf
    refine lv_iload_n hx hb dJ5_init_a7421_43 rfl (lv_at hl 1 rfl) ?_
    obtain ⟨q14, h15, hf⟩ := ob_some hf
    refine gg_naB hC hw h15 dJ5_init_a7421_44 (fun H locs cells slots hw => ?_)
    refine lv_goto (tgt := 53) hx hb dJ5_init_a7421_46 (by decide) ?_
    exact J5_init_a7421_53_W hC hQ hf hw (lv_sub hl [2, 3] rfl)

def J5_init_a7421 (E : gE) (l0 : Nat) (l1 : Nat) (σ : gS) : Option gS :=
  ob (gxc E l1 100) fun _ =>
  ob (J0_length_8abf5_f E σ l1) fun x17 =>
  if (2147483631 : Int32) ≤ x17 then
    J5_init_a7421_24 E l0 l1 (2147483647 : Int32) σ
  else
    J5_init_a7421_24 E l0 l1 (x17 + (16 : Int32)) σ
set_option maxHeartbeats 4000000 in
set_option maxRecDepth 100000 in
theorem J5_init_a7421_W {σ : gS} {l0 : Nat} {l1 : Nat} {σz : gS} {ls : Array Slot} (hC : gC E D A p R s m args meth c cJ5_init_a7421 5 RJ5 "<init>" 11 244) (hQ : gQV E D A p l e R s m args below meth c Q cJ5_init_a7421 σz) (hf : J5_init_a7421 E l0 l1 σ = some σz) (hw : gW E D A s σ H locs) (hl : lv_has ls 5 [(0, .ref l0), (1, .ref l1)]) : W p l e R s m args below meth c H locs cells slots Q (F0 m 0 ls []) := by
  have hC0 := hC
  obtain ⟨hx, hb, hml, hown, hts, -⟩ := hC0
  unfold J5_init_a7421 at hf
  refine lv_aload_n hx hb dJ5_init_a7421_0 rfl (lv_at hl 0 rfl) ?_
  refine gg_obj hC rfl (hts _ ml_J5_3) hl.1 (Nat.le_of_ble_eq_true rfl) dJ5_init_a7421_1 (Nat.le_of_ble_eq_true rfl) (Nat.le_of_ble_eq_true rfl) ?_
  refine lv_aload_n hx hb dJ5_init_a7421_4 rfl (lv_at hl 1 rfl) ?_
  obtain ⟨_, h19, hf⟩ := ob_some hf
  obtain ⟨x17, h18, hf⟩ := ob_some hf
  refine gg_cXI (As := []) hC hw (J0_length_8abf5_M l E D A h18) h19 rfl g_ml_J5_32 hd_J0_length_8abf5 (Nat.le_of_ble_eq_true rfl) (Nat.le_of_ble_eq_true rfl) hl.1 rfl (Nat.le_of_ble_eq_true rfl) dJ5_init_a7421_5 (fun H locs cells slots hw => ?_)
  refine lv_istore_n (lv' := [(2, .int x17), (0, .ref l0), (1, .ref l1)]) hx hb dJ5_init_a7421_8 rfl hl (by decide) rfl (fun ls hl => ?_)
  refine lv_iload_n hx hb dJ5_init_a7421_9 rfl (lv_at hl 0 rfl) ?_
  refine lv_ldc (v := 2147483631) hx hb hown (hts _ kc_J5_38) dJ5_init_a7421_10 ?_
  refine lv_icmp_ge (tgt := 22) hx hb dJ5_init_a7421_12 (by decide) (fun c20 => ?_) (fun c20 => ?_)
  · replace hf := (if_pos c20).symm.trans hf
    refine lv_ldc (v := 2147483647) hx hb hown (hts _ kc_J5_39) dJ5_init_a7421_22 ?_
    exact J5_init_a7421_24_W hC hQ hf hw (lv_sub hl [1, 2] rfl)
  · replace hf := (if_neg c20).symm.trans hf
    refine lv_iload_n hx hb dJ5_init_a7421_15 rfl (lv_at hl 0 rfl) ?_
    refine lv_bipush (v := 16) hx hb dJ5_init_a7421_16 (by decide) ?_
    refine lv_iadd hx hb dJ5_init_a7421_18 ?_
    refine lv_goto (tgt := 24) hx hb dJ5_init_a7421_19 (by decide) ?_
    exact J5_init_a7421_24_W hC hQ hf hw (lv_sub hl [1, 2] rfl)

def J5_init_a7421_f (E : gE) (l0 : Nat) (l1 : Nat) (σ : gS) : Option gS := J5_init_a7421 E l0 l1 σ
set_option maxRecDepth 100000 in
theorem J5_init_a7421_M (l : Launch) (E : gE) (D : va_G) (A : Nat → Prop) {l0 : Nat} {l1 : Nat} {σ : gS} {σz : gS} (hf : J5_init_a7421_f E l0 l1 σ = some σz) : gCV l E D A yJ5_init_a7421 cJ5_init_a7421 5 11 244 none [.ref l0, .ref l1] σ σz := by
  refine gg_entV (own := RJ5) (nm := "<init>") (by decide +kernel) rfl rfl (Nat.le_of_ble_eq_true rfl) rfl ?_
  intro p e R s m args below meth c Q ls hC hw hQ hl
  have hl : lv_has ls 5 [(0, .ref l0), (1, .ref l1)] := hl
  exact J5_init_a7421_W hC hQ hf hw hl

def J4_init_a7421 (E : gE) (l0 : Nat) (l1 : Nat) (σ : gS) : Option gS :=
  ob (J5_init_a7421_f E l0 l1 σ) fun x1 =>
  some x1
set_option maxHeartbeats 4000000 in
set_option maxRecDepth 100000 in
theorem J4_init_a7421_W {σ : gS} {l0 : Nat} {l1 : Nat} {σz : gS} {ls : Array Slot} (hC : gC E D A p R s m args meth c cJ4_init_a7421 2 RJ4 "<init>" 12 268) (hQ : gQV E D A p l e R s m args below meth c Q cJ4_init_a7421 σz) (hf : J4_init_a7421 E l0 l1 σ = some σz) (hw : gW E D A s σ H locs) (hl : lv_has ls 2 [(0, .ref l0), (1, .ref l1)]) : W p l e R s m args below meth c H locs cells slots Q (F0 m 0 ls []) := by
  have hC0 := hC
  obtain ⟨hx, hb, hml, hown, hts, -⟩ := hC0
  unfold J4_init_a7421 at hf
  refine lv_aload_n hx hb dJ4_init_a7421_0 rfl (lv_at hl 0 rfl) ?_
  refine lv_aload_n hx hb dJ4_init_a7421_1 rfl (lv_at hl 1 rfl) ?_
  obtain ⟨x1, h2, hf⟩ := ob_some hf
  refine gg_cIV (rt := none) (As := [.ref l1]) hC hw (J5_init_a7421_M l E D A h2) co_J5_init_a7421 in_J5 ml_J4_7 im_J5_init_a7421 rfl hd_J5_init_a7421.2 (Nat.le_of_ble_eq_true rfl) (Nat.le_of_ble_eq_true rfl) hl.1 rfl (Nat.le_of_ble_eq_true rfl) dJ4_init_a7421_2 (fun H locs cells slots hw => ?_)
  cases hf
  exact hQ _ _ _ _ _ _ dJ4_init_a7421_5 hw

def J4_init_a7421_f (E : gE) (l0 : Nat) (l1 : Nat) (σ : gS) : Option gS := J4_init_a7421 E l0 l1 σ
set_option maxRecDepth 100000 in
theorem J4_init_a7421_M (l : Launch) (E : gE) (D : va_G) (A : Nat → Prop) {l0 : Nat} {l1 : Nat} {σ : gS} {σz : gS} (hf : J4_init_a7421_f E l0 l1 σ = some σz) : gCV l E D A yJ4_init_a7421 cJ4_init_a7421 2 12 268 none [.ref l0, .ref l1] σ σz := by
  refine gg_entV (own := RJ4) (nm := "<init>") (by decide +kernel) rfl rfl (Nat.le_of_ble_eq_true rfl) rfl ?_
  intro p e R s m args below meth c Q ls hC hw hQ hl
  have hl : lv_has ls 2 [(0, .ref l0), (1, .ref l1)] := hl
  exact J4_init_a7421_W hC hQ hf hw hl

end MA4
