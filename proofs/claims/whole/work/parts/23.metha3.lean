/-! decompiled: X11_copyFrom, J0_length_8abf5, J0_checkIndex_df160, J1_charAt_3b067, J2_checkIndex_2214a, X1_append, X1_put, X1_collectInto, X1_dropStale, X5_init, X5_record, X5_takeBack, X11_appendRow, X11_deleteSelectedRows, J0_charAt_5068e, X11_replace -/
section MA3
variable {p : Program} {l : Launch} {e : Env} {R : Room} {s : State} {m : MethodId} {args : Array Value} {below : List Frame} {meth : Method} {c : Code} {H : Heap} {locs : List Loc} {cells slots : Nat} {Q : State → Prop} {E : gE} {D : va_G} {A : Nat → Prop}
def X11_copyFrom_10_s (E : gE) (r_10 : Nat → Nat → Int32 → gS → Option gS) (l0 : Nat) (l1 : Nat) (l2 : Int32) (σ : gS) : Option gS :=
  ob (gfI σ l0 9 1) fun x1 =>
  if x1 ≤ l2 then
    ob (gfR σ l0 9 2) fun x3 =>
    ob (gfR σ l1 9 2) fun x5 =>
    ob (gcl σ x3 3) fun _ =>
    ob (X4_copyFrom_f E x3 x5 σ) fun x7 =>
    some x7
  else
    ob (gfR σ l0 9 0) fun x10 =>
    ob (graR E 4 σ x10 l2) fun x12 =>
    ob (gfR σ l1 9 0) fun x14 =>
    ob (graR E 4 σ x14 l2) fun x16 =>
    ob (gcl σ x12 0) fun _ =>
    ob (X1_copyFrom_f E x12 x16 σ) fun x18 =>
    r_10 l0 l1 (l2 + 1) x18
set_option maxHeartbeats 4000000 in
set_option maxRecDepth 100000 in
theorem X11_copyFrom_10_s_W {σ : gS} {l0 : Nat} {l1 : Nat} {l2 : Int32} {σz : gS} {ls : Array Slot} (hC : gC E D A p R s m args meth c cX11_copyFrom 3 RX11 "copyFrom" 5 122) (hQ : gQV E D A p l e R s m args below meth c Q cX11_copyFrom σz) {r_10 : Nat → Nat → Int32 → gS → Option gS} (h_10 : ∀ {l0 : Nat} {l1 : Nat} {l2 : Int32} {σ : gS} {H : Heap} {locs : List Loc} {cells slots : Nat} {ls : Array Slot}, r_10 l0 l1 l2 σ = some σz → gW E D A s σ H locs → lv_has ls 3 [(0, .ref l0), (1, .ref l1), (2, .int l2)] → W p l e R s m args below meth c H locs cells slots Q (F0 m 10 ls [])) (hf : X11_copyFrom_10_s E r_10 l0 l1 l2 σ = some σz) (hw : gW E D A s σ H locs) (hl : lv_has ls 3 [(0, .ref l0), (1, .ref l1), (2, .int l2)]) : W p l e R s m args below meth c H locs cells slots Q (F0 m 10 ls []) := by
  have hC0 := hC
  obtain ⟨hx, hb, hml, hown, hts, -⟩ := hC0
  unfold X11_copyFrom_10_s at hf
  refine lv_iload_n hx hb dX11_copyFrom_10 rfl (lv_at hl 2 rfl) ?_
  refine lv_aload_n hx hb dX11_copyFrom_11 rfl (lv_at hl 0 rfl) ?_
  obtain ⟨x1, h2, hf⟩ := ob_some hf
  refine rI_fl_X11_17 hC hw h2 dX11_copyFrom_12 ?_
  refine lv_icmp_ge (tgt := 39) hx hb dX11_copyFrom_15 (by decide) (fun c21 => ?_) (fun c21 => ?_)
  · replace hf := (if_pos c21).symm.trans hf
    refine lv_aload_n hx hb dX11_copyFrom_39 rfl (lv_at hl 0 rfl) ?_
    obtain ⟨x3, h4, hf⟩ := ob_some hf
    refine rR_fl_X11_24 hC hw h4 dX11_copyFrom_40 ?_
    refine lv_aload_n hx hb dX11_copyFrom_43 rfl (lv_at hl 1 rfl) ?_
    obtain ⟨x5, h6, hf⟩ := ob_some hf
    refine rR_fl_X11_24 hC hw h6 dX11_copyFrom_44 ?_
    obtain ⟨_, h9, hf⟩ := ob_some hf
    obtain ⟨x7, h8, hf⟩ := ob_some hf
    refine gg_cVV (As := [.ref x5]) hC hw (X4_copyFrom_M l E D A h8) h9 rfl g_ml_X11_119 hd_X4_copyFrom (Nat.le_of_ble_eq_true rfl) (Nat.le_of_ble_eq_true rfl) hl.1 rfl (Nat.le_of_ble_eq_true rfl) dX11_copyFrom_47 (fun H locs cells slots hw => ?_)
    cases hf
    exact hQ _ _ _ _ _ _ dX11_copyFrom_50 hw
  · replace hf := (if_neg c21).symm.trans hf
    refine lv_aload_n hx hb dX11_copyFrom_18 rfl (lv_at hl 0 rfl) ?_
    obtain ⟨x10, h11, hf⟩ := ob_some hf
    refine rR_fl_X11_11 hC hw h11 dX11_copyFrom_19 ?_
    refine lv_iload_n hx hb dX11_copyFrom_22 rfl (lv_at hl 2 rfl) ?_
    obtain ⟨x12, h13, hf⟩ := ob_some hf
    refine gg_aldR hC hw h13 rfl rfl dX11_copyFrom_23 ?_
    refine lv_aload_n hx hb dX11_copyFrom_24 rfl (lv_at hl 1 rfl) ?_
    obtain ⟨x14, h15, hf⟩ := ob_some hf
    refine rR_fl_X11_11 hC hw h15 dX11_copyFrom_25 ?_
    refine lv_iload_n hx hb dX11_copyFrom_28 rfl (lv_at hl 2 rfl) ?_
    obtain ⟨x16, h17, hf⟩ := ob_some hf
    refine gg_aldR hC hw h17 rfl rfl dX11_copyFrom_29 ?_
    obtain ⟨_, h20, hf⟩ := ob_some hf
    obtain ⟨x18, h19, hf⟩ := ob_some hf
    refine gg_cVV (As := [.ref x16]) hC hw (X1_copyFrom_M l E D A h19) h20 rfl g_ml_X11_115 hd_X1_copyFrom (Nat.le_of_ble_eq_true rfl) (Nat.le_of_ble_eq_true rfl) hl.1 rfl (Nat.le_of_ble_eq_true rfl) dX11_copyFrom_30 (fun H locs cells slots hw => ?_)
    refine lv_iinc (v := (l2 + 1)) (lv' := [(2, .int (l2 + 1)), (0, .ref l0), (1, .ref l1)]) hx hb dX11_copyFrom_33 hl (k := 2) rfl rfl (by decide) rfl (fun ls hl => ?_)
    refine lv_goto (tgt := 10) hx hb dX11_copyFrom_36 (by decide) ?_
    exact h_10 hf hw (lv_sub hl [1, 2, 0] rfl)
def X11_copyFrom_10 (E : gE) : Nat → Nat → Nat → Int32 → gS → Option gS
  | 0 => fun _ _ _ _ => none
  | n + 1 => X11_copyFrom_10_s E (X11_copyFrom_10 E n)
theorem X11_copyFrom_10_W {σz : gS} (hC : gC E D A p R s m args meth c cX11_copyFrom 3 RX11 "copyFrom" 5 122) (hQ : gQV E D A p l e R s m args below meth c Q cX11_copyFrom σz) : ∀ (n : Nat), ∀ {l0 : Nat} {l1 : Nat} {l2 : Int32} {σ : gS} {H : Heap} {locs : List Loc} {cells slots : Nat} {ls : Array Slot}, X11_copyFrom_10 E n l0 l1 l2 σ = some σz → gW E D A s σ H locs → lv_has ls 3 [(0, .ref l0), (1, .ref l1), (2, .int l2)] → W p l e R s m args below meth c H locs cells slots Q (F0 m 10 ls []) := by
  intro n
  induction n with
  | zero =>
    intros
    rename_i hf _ _
    exact absurd hf (fun h => by cases (show (none : Option gS) = some σz from h))
  | succ n ih =>
    intros
    rename_i hf hw hl
    exact X11_copyFrom_10_s_W hC hQ ih hf hw hl

def X11_copyFrom (E : gE) (l0 : Nat) (l1 : Nat) (σ : gS) : Option gS :=
  ob (gfI σ l1 9 1) fun x22 =>
  ob (gpf E σ l0 9 1 (.int x22)) fun σ24 =>
  X11_copyFrom_10 E (gN E) l0 l1 (0 : Int32) σ24
set_option maxHeartbeats 4000000 in
set_option maxRecDepth 100000 in
theorem X11_copyFrom_W {σ : gS} {l0 : Nat} {l1 : Nat} {σz : gS} {ls : Array Slot} (hC : gC E D A p R s m args meth c cX11_copyFrom 3 RX11 "copyFrom" 5 122) (hQ : gQV E D A p l e R s m args below meth c Q cX11_copyFrom σz) (hf : X11_copyFrom E l0 l1 σ = some σz) (hw : gW E D A s σ H locs) (hl : lv_has ls 3 [(0, .ref l0), (1, .ref l1)]) : W p l e R s m args below meth c H locs cells slots Q (F0 m 0 ls []) := by
  have hC0 := hC
  obtain ⟨hx, hb, hml, hown, hts, -⟩ := hC0
  unfold X11_copyFrom at hf
  refine lv_aload_n hx hb dX11_copyFrom_0 rfl (lv_at hl 0 rfl) ?_
  refine lv_aload_n hx hb dX11_copyFrom_1 rfl (lv_at hl 1 rfl) ?_
  obtain ⟨x22, h23, hf⟩ := ob_some hf
  refine rI_fl_X11_17 hC hw h23 dX11_copyFrom_2 ?_
  obtain ⟨σ24, h25, hf⟩ := ob_some hf
  refine p_fl_X11_17 hC hw h25 rfl rfl dX11_copyFrom_5 (fun H locs hw => ?_)
  refine lv_iconst (v := 0) hx hb dX11_copyFrom_8 (by decide) ?_
  refine lv_istore_n (lv' := [(2, .int (0 : Int32)), (0, .ref l0), (1, .ref l1)]) hx hb dX11_copyFrom_9 rfl hl (by decide) rfl (fun ls hl => ?_)
  exact X11_copyFrom_10_W hC hQ (gN E) hf hw (lv_sub hl [1, 2, 0] rfl)

def X11_copyFrom_f (E : gE) (l0 : Nat) (l1 : Nat) (σ : gS) : Option gS := X11_copyFrom E l0 l1 σ
set_option maxRecDepth 100000 in
theorem X11_copyFrom_M (l : Launch) (E : gE) (D : va_G) (A : Nat → Prop) {l0 : Nat} {l1 : Nat} {σ : gS} {σz : gS} (hf : X11_copyFrom_f E l0 l1 σ = some σz) : gCV l E D A yX11_copyFrom cX11_copyFrom 3 5 122 none [.ref l0, .ref l1] σ σz := by
  refine gg_entV (own := RX11) (nm := "copyFrom") (by decide +kernel) rfl rfl (Nat.le_of_ble_eq_true rfl) rfl ?_
  intro p e R s m args below meth c Q ls hC hw hQ hl
  have hl : lv_has ls 3 [(0, .ref l0), (1, .ref l1)] := hl
  exact X11_copyFrom_W hC hQ hf hw hl

def J0_length_8abf5 (E : gE) (σ : gS) (l0 : Nat) : Option Int32 :=
  ob (gxR E l0 100 0) fun x1 =>
  ob (gal E 1 σ x1) fun x3 =>
  ob (gxc E l0 100) fun _ =>
  ob (J0_coder_7d493_f E σ l0) fun x5 =>
  some (x3 >>> (x5 &&& 31))
set_option maxHeartbeats 4000000 in
set_option maxRecDepth 100000 in
theorem J0_length_8abf5_W {σ : gS} {l0 : Nat} {res : Int32} {ls : Array Slot} (hC : gC E D A p R s m args meth c cJ0_length_8abf5 1 RJ0 "length" 1 20) (hQ : gQI E D A p l e R s m args below meth c Q cJ0_length_8abf5 FieldType.int (res, σ)) (hf : J0_length_8abf5 E σ l0 = some res) (hw : gW E D A s σ H locs) (hl : lv_has ls 1 [(0, .ref l0)]) : W p l e R s m args below meth c H locs cells slots Q (F0 m 0 ls []) := by
  have hC0 := hC
  obtain ⟨hx, hb, hml, hown, hts, -⟩ := hC0
  unfold J0_length_8abf5 at hf
  refine lv_aload_n hx hb dJ0_length_8abf5_0 rfl (lv_at hl 0 rfl) ?_
  obtain ⟨x1, h2, hf⟩ := ob_some hf
  obtain ⟨hro, fs, he, hv⟩ := gxR_some h2
  refine gg_xget hC hw hro he hv rfl fl_J0_9 dJ0_length_8abf5_1 ?_
  obtain ⟨x3, h4, hf⟩ := ob_some hf
  refine gg_alen hC hw h4 (Or.inr rfl) dJ0_length_8abf5_4 ?_
  refine lv_aload_n hx hb dJ0_length_8abf5_5 rfl (lv_at hl 0 rfl) ?_
  obtain ⟨_, h7, hf⟩ := ob_some hf
  obtain ⟨x5, h6, hf⟩ := ob_some hf
  refine gg_cXI (As := []) hC hw (J0_coder_7d493_M l E D A h6) h7 rfl g_ml_J0_335 hd_J0_coder_7d493 (Nat.le_of_ble_eq_true rfl) (Nat.le_of_ble_eq_true rfl) hl.1 rfl (Nat.le_of_ble_eq_true rfl) dJ0_length_8abf5_6 (fun H locs cells slots hw => ?_)
  refine lv_ishr hx hb dJ0_length_8abf5_9 ?_
  cases hf
  exact hQ _ _ _ _ _ _ dJ0_length_8abf5_10 rfl hw

def J0_length_8abf5_f (E : gE) (σ : gS) (l0 : Nat) : Option Int32 := J0_length_8abf5 E σ l0
set_option maxRecDepth 100000 in
theorem J0_length_8abf5_M (l : Launch) (E : gE) (D : va_G) (A : Nat → Prop) {l0 : Nat} {σ : gS} {res : Int32} (hf : J0_length_8abf5_f E σ l0 = some res) : gCI l E D A yJ0_length_8abf5 cJ0_length_8abf5 1 1 20 (some FieldType.int) [.ref l0] σ (res, σ) := by
  refine gg_entI (own := RJ0) (nm := "length") (ty := FieldType.int) (by decide +kernel) rfl rfl (Nat.le_of_ble_eq_true rfl) rfl ?_
  intro p e R s m args below meth c Q ls hC hw hQ hl
  have hl : lv_has ls 1 [(0, .ref l0)] := hl
  exact J0_length_8abf5_W hC hQ hf hw hl

def J0_checkIndex_df160 (E : gE) (σ : gS) (l0 : Int32) (l1 : Int32) : Option Unit :=
  ob (J3_checkIndex_8e157_f E σ l0 l1 (gsq E)) fun x1 =>
  some ()
set_option maxHeartbeats 4000000 in
set_option maxRecDepth 100000 in
theorem J0_checkIndex_df160_W {σ : gS} {l0 : Int32} {l1 : Int32} {res : Unit} {ls : Array Slot} (hC : gC E D A p R s m args meth c cJ0_checkIndex_df160 2 RJ0 "checkIndex" 1 22) (hQ : gQV E D A p l e R s m args below meth c Q cJ0_checkIndex_df160 σ) (hf : J0_checkIndex_df160 E σ l0 l1 = some res) (hw : gW E D A s σ H locs) (hl : lv_has ls 2 [(0, .int l0), (1, .int l1)]) : W p l e R s m args below meth c H locs cells slots Q (F0 m 0 ls []) := by
  have hC0 := hC
  obtain ⟨hx, hb, hml, hown, hts, -⟩ := hC0
  unfold J0_checkIndex_df160 at hf
  refine lv_iload_n hx hb dJ0_checkIndex_df160_0 rfl (lv_at hl 0 rfl) ?_
  refine lv_iload_n hx hb dJ0_checkIndex_df160_1 rfl (lv_at hl 1 rfl) ?_
  refine gg_gets hC hw (k := 5) rfl fl_J0_1053 dJ0_checkIndex_df160_2 ?_
  obtain ⟨x1, h2, hf⟩ := ob_some hf
  refine gg_cSI (As := [.int l0, .int l1, va_rf (gsq E)]) hC hw (J3_checkIndex_8e157_M l E D A h2) g_ml_J0_1059 hd_J3_checkIndex_8e157.2 (Nat.le_of_ble_eq_true rfl) (Nat.le_of_ble_eq_true rfl) hl.1 rfl (Nat.le_of_ble_eq_true rfl) dJ0_checkIndex_df160_5 (fun H locs cells slots hw => ?_)
  refine lv_pop hx hb dJ0_checkIndex_df160_8 rfl ?_
  cases hf
  exact hQ _ _ _ _ _ _ dJ0_checkIndex_df160_9 hw

def J0_checkIndex_df160_f (E : gE) (σ : gS) (l0 : Int32) (l1 : Int32) : Option Unit := J0_checkIndex_df160 E σ l0 l1
set_option maxRecDepth 100000 in
theorem J0_checkIndex_df160_M (l : Launch) (E : gE) (D : va_G) (A : Nat → Prop) {l0 : Int32} {l1 : Int32} {σ : gS} {res : Unit} (hf : J0_checkIndex_df160_f E σ l0 l1 = some res) : gCV l E D A yJ0_checkIndex_df160 cJ0_checkIndex_df160 2 1 22 none [.int l0, .int l1] σ σ := by
  refine gg_entV (own := RJ0) (nm := "checkIndex") (by decide +kernel) rfl rfl (Nat.le_of_ble_eq_true rfl) rfl ?_
  intro p e R s m args below meth c Q ls hC hw hQ hl
  have hl : lv_has ls 2 [(0, .int l0), (1, .int l1)] := hl
  exact J0_checkIndex_df160_W hC hQ hf hw hl

def J1_charAt_3b067 (E : gE) (σ : gS) (l0 : Nat) (l1 : Int32) : Option Int32 :=
  ob (gal E 1 σ l0) fun x1 =>
  ob (J0_checkIndex_df160_f E σ l1 x1) fun x3 =>
  ob (graI E 1 σ l0 l1) fun x5 =>
  ob (gch (gi2c (x5 &&& (255 : Int32)))) fun _ =>
  some (gi2c (x5 &&& (255 : Int32)))
set_option maxHeartbeats 4000000 in
set_option maxRecDepth 100000 in
theorem J1_charAt_3b067_W {σ : gS} {l0 : Nat} {l1 : Int32} {res : Int32} {ls : Array Slot} (hC : gC E D A p R s m args meth c cJ1_charAt_3b067 2 RJ1 "charAt" 2 43) (hQ : gQI E D A p l e R s m args below meth c Q cJ1_charAt_3b067 FieldType.char (res, σ)) (hf : J1_charAt_3b067 E σ l0 l1 = some res) (hw : gW E D A s σ H locs) (hl : lv_has ls 2 [(0, .ref l0), (1, .int l1)]) : W p l e R s m args below meth c H locs cells slots Q (F0 m 0 ls []) := by
  have hC0 := hC
  obtain ⟨hx, hb, hml, hown, hts, -⟩ := hC0
  unfold J1_charAt_3b067 at hf
  refine lv_iload_n hx hb dJ1_charAt_3b067_0 rfl (lv_at hl 1 rfl) ?_
  refine lv_aload_n hx hb dJ1_charAt_3b067_1 rfl (lv_at hl 0 rfl) ?_
  obtain ⟨x1, h2, hf⟩ := ob_some hf
  refine gg_alen hC hw h2 (Or.inr rfl) dJ1_charAt_3b067_2 ?_
  obtain ⟨x3, h4, hf⟩ := ob_some hf
  refine gg_cSV (As := [.int l1, .int x1]) hC hw (J0_checkIndex_df160_M l E D A h4) g_ml_J1_9 hd_J0_checkIndex_df160.2 (Nat.le_of_ble_eq_true rfl) (Nat.le_of_ble_eq_true rfl) hl.1 rfl (Nat.le_of_ble_eq_true rfl) dJ1_charAt_3b067_3 (fun H locs cells slots hw => ?_)
  refine lv_aload_n hx hb dJ1_charAt_3b067_6 rfl (lv_at hl 0 rfl) ?_
  refine lv_iload_n hx hb dJ1_charAt_3b067_7 rfl (lv_at hl 1 rfl) ?_
  obtain ⟨x5, h6, hf⟩ := ob_some hf
  refine gg_aldB hC hw h6 dJ1_charAt_3b067_8 ?_
  refine lv_sipush (v := 255) hx hb dJ1_charAt_3b067_9 (by decide) ?_
  refine lv_iand hx hb dJ1_charAt_3b067_12 ?_
  refine lv_i2c (v := (gi2c (x5 &&& (255 : Int32)))) hx hb dJ1_charAt_3b067_13 rfl ?_
  obtain ⟨_, h7, hf⟩ := ob_some hf
  cases hf
  exact hQ _ _ _ _ _ _ dJ1_charAt_3b067_14 (gch_some h7) hw

def J1_charAt_3b067_f (E : gE) (σ : gS) (l0 : Nat) (l1 : Int32) : Option Int32 := J1_charAt_3b067 E σ l0 l1
set_option maxRecDepth 100000 in
theorem J1_charAt_3b067_M (l : Launch) (E : gE) (D : va_G) (A : Nat → Prop) {l0 : Nat} {l1 : Int32} {σ : gS} {res : Int32} (hf : J1_charAt_3b067_f E σ l0 l1 = some res) : gCI l E D A yJ1_charAt_3b067 cJ1_charAt_3b067 2 2 43 (some FieldType.char) [.ref l0, .int l1] σ (res, σ) := by
  refine gg_entI (own := RJ1) (nm := "charAt") (ty := FieldType.char) (by decide +kernel) rfl rfl (Nat.le_of_ble_eq_true rfl) rfl ?_
  intro p e R s m args below meth c Q ls hC hw hQ hl
  have hl : lv_has ls 2 [(0, .ref l0), (1, .int l1)] := hl
  exact J1_charAt_3b067_W hC hQ hf hw hl

def J2_checkIndex_2214a (E : gE) (l0 : Int32) (l1 : Nat) (σ : gS) : Option gS :=
  ob (J2_length_9d52b_f E σ l1) fun x1 =>
  ob (J0_checkIndex_df160_f E σ l0 x1) fun x3 =>
  some σ
set_option maxHeartbeats 4000000 in
set_option maxRecDepth 100000 in
theorem J2_checkIndex_2214a_W {σ : gS} {l0 : Int32} {l1 : Nat} {σz : gS} {ls : Array Slot} (hC : gC E D A p R s m args meth c cJ2_checkIndex_2214a 2 RJ2 "checkIndex" 2 43) (hQ : gQV E D A p l e R s m args below meth c Q cJ2_checkIndex_2214a σz) (hf : J2_checkIndex_2214a E l0 l1 σ = some σz) (hw : gW E D A s σ H locs) (hl : lv_has ls 2 [(0, .int l0), (1, .ref l1)]) : W p l e R s m args below meth c H locs cells slots Q (F0 m 0 ls []) := by
  have hC0 := hC
  obtain ⟨hx, hb, hml, hown, hts, -⟩ := hC0
  unfold J2_checkIndex_2214a at hf
  refine lv_iload_n hx hb dJ2_checkIndex_2214a_0 rfl (lv_at hl 0 rfl) ?_
  refine lv_aload_n hx hb dJ2_checkIndex_2214a_1 rfl (lv_at hl 1 rfl) ?_
  obtain ⟨x1, h2, hf⟩ := ob_some hf
  refine gg_cSI (As := [.ref l1]) hC hw (J2_length_9d52b_M l E D A h2) g_ml_J2_48 hd_J2_length_9d52b.2 (Nat.le_of_ble_eq_true rfl) (Nat.le_of_ble_eq_true rfl) hl.1 rfl (Nat.le_of_ble_eq_true rfl) dJ2_checkIndex_2214a_2 (fun H locs cells slots hw => ?_)
  obtain ⟨x3, h4, hf⟩ := ob_some hf
  refine gg_cSV (As := [.int l0, .int x1]) hC hw (J0_checkIndex_df160_M l E D A h4) g_ml_J2_414 hd_J0_checkIndex_df160.2 (Nat.le_of_ble_eq_true rfl) (Nat.le_of_ble_eq_true rfl) hl.1 rfl (Nat.le_of_ble_eq_true rfl) dJ2_checkIndex_2214a_5 (fun H locs cells slots hw => ?_)
  cases hf
  exact hQ _ _ _ _ _ _ dJ2_checkIndex_2214a_8 hw

def J2_checkIndex_2214a_f (E : gE) (l0 : Int32) (l1 : Nat) (σ : gS) : Option gS := J2_checkIndex_2214a E l0 l1 σ
set_option maxRecDepth 100000 in
theorem J2_checkIndex_2214a_M (l : Launch) (E : gE) (D : va_G) (A : Nat → Prop) {l0 : Int32} {l1 : Nat} {σ : gS} {σz : gS} (hf : J2_checkIndex_2214a_f E l0 l1 σ = some σz) : gCV l E D A yJ2_checkIndex_2214a cJ2_checkIndex_2214a 2 2 43 none [.int l0, .ref l1] σ σz := by
  refine gg_entV (own := RJ2) (nm := "checkIndex") (by decide +kernel) rfl rfl (Nat.le_of_ble_eq_true rfl) rfl ?_
  intro p e R s m args below meth c Q ls hC hw hQ hl
  have hl : lv_has ls 2 [(0, .int l0), (1, .ref l1)] := hl
  exact J2_checkIndex_2214a_W hC hQ hf hw hl

def X1_append (E : gE) (l0 : Nat) (l1 : Int32) (σ : gS) : Option gS :=
  ob (gfI σ l0 0 2) fun x1 =>
  if (60 : Int32) ≤ x1 then
    some σ
  else
    ob (gfR σ l0 0 0) fun x3 =>
    ob (gfI σ l0 0 2) fun x5 =>
    ob (gwaI E σ x3 x5 l1) fun σ7 =>
    ob (gfI σ7 l0 0 2) fun x9 =>
    ob (gpf E σ7 l0 0 2 (.int (x9 + (1 : Int32)))) fun σ11 =>
    ob (gfR σ11 l0 0 1) fun x13 =>
    ob (gcl σ11 x13 2) fun _ =>
    ob (X3_insert_f E x13 l1 σ11) fun x15 =>
    some x15
set_option maxHeartbeats 4000000 in
set_option maxRecDepth 100000 in
theorem X1_append_W {σ : gS} {l0 : Nat} {l1 : Int32} {σz : gS} {ls : Array Slot} (hC : gC E D A p R s m args meth c cX1_append 2 RX1 "append" 5 124) (hQ : gQV E D A p l e R s m args below meth c Q cX1_append σz) (hf : X1_append E l0 l1 σ = some σz) (hw : gW E D A s σ H locs) (hl : lv_has ls 2 [(0, .ref l0), (1, .int l1)]) : W p l e R s m args below meth c H locs cells slots Q (F0 m 0 ls []) := by
  have hC0 := hC
  obtain ⟨hx, hb, hml, hown, hts, -⟩ := hC0
  unfold X1_append at hf
  refine lv_aload_n hx hb dX1_append_0 rfl (lv_at hl 0 rfl) ?_
  obtain ⟨x1, h2, hf⟩ := ob_some hf
  refine rI_fl_X1_22 hC hw h2 dX1_append_1 ?_
  refine lv_bipush (v := 60) hx hb dX1_append_4 (by decide) ?_
  refine lv_icmp_ge (tgt := 37) hx hb dX1_append_6 (by decide) (fun c18 => ?_) (fun c18 => ?_)
  · replace hf := (if_pos c18).symm.trans hf
    cases hf
    exact hQ _ _ _ _ _ _ dX1_append_37 hw
  · replace hf := (if_neg c18).symm.trans hf
    refine lv_aload_n hx hb dX1_append_9 rfl (lv_at hl 0 rfl) ?_
    obtain ⟨x3, h4, hf⟩ := ob_some hf
    refine rR_fl_X1_9 hC hw h4 dX1_append_10 ?_
    refine lv_aload_n hx hb dX1_append_13 rfl (lv_at hl 0 rfl) ?_
    obtain ⟨x5, h6, hf⟩ := ob_some hf
    refine rI_fl_X1_22 hC hw h6 dX1_append_14 ?_
    refine lv_iload_n hx hb dX1_append_17 rfl (lv_at hl 1 rfl) ?_
    obtain ⟨σ7, h8, hf⟩ := ob_some hf
    refine gg_astI hC hw h8 dX1_append_18 (fun H locs hw => ?_)
    refine lv_aload_n hx hb dX1_append_19 rfl (lv_at hl 0 rfl) ?_
    refine lv_dup hx hb dX1_append_20 rfl ?_
    obtain ⟨x9, h10, hf⟩ := ob_some hf
    refine rI_fl_X1_22 hC hw h10 dX1_append_21 ?_
    refine lv_iconst (v := 1) hx hb dX1_append_24 (by decide) ?_
    refine lv_iadd hx hb dX1_append_25 ?_
    obtain ⟨σ11, h12, hf⟩ := ob_some hf
    refine p_fl_X1_22 hC hw h12 rfl rfl dX1_append_26 (fun H locs hw => ?_)
    refine lv_aload_n hx hb dX1_append_29 rfl (lv_at hl 0 rfl) ?_
    obtain ⟨x13, h14, hf⟩ := ob_some hf
    refine rR_fl_X1_18 hC hw h14 dX1_append_30 ?_
    refine lv_iload_n hx hb dX1_append_33 rfl (lv_at hl 1 rfl) ?_
    obtain ⟨_, h17, hf⟩ := ob_some hf
    obtain ⟨x15, h16, hf⟩ := ob_some hf
    refine gg_cVV (As := [.int l1]) hC hw (X3_insert_M l E D A h16) h17 rfl g_ml_X1_33 hd_X3_insert (Nat.le_of_ble_eq_true rfl) (Nat.le_of_ble_eq_true rfl) hl.1 rfl (Nat.le_of_ble_eq_true rfl) dX1_append_34 (fun H locs cells slots hw => ?_)
    cases hf
    exact hQ _ _ _ _ _ _ dX1_append_37 hw

def X1_append_f (E : gE) (l0 : Nat) (l1 : Int32) (σ : gS) : Option gS := X1_append E l0 l1 σ
set_option maxRecDepth 100000 in
theorem X1_append_M (l : Launch) (E : gE) (D : va_G) (A : Nat → Prop) {l0 : Nat} {l1 : Int32} {σ : gS} {σz : gS} (hf : X1_append_f E l0 l1 σ = some σz) : gCV l E D A yX1_append cX1_append 2 5 124 none [.ref l0, .int l1] σ σz := by
  refine gg_entV (own := RX1) (nm := "append") (by decide +kernel) rfl rfl (Nat.le_of_ble_eq_true rfl) rfl ?_
  intro p e R s m args below meth c Q ls hC hw hQ hl
  have hl : lv_has ls 2 [(0, .ref l0), (1, .int l1)] := hl
  exact X1_append_W hC hQ hf hw hl

def X1_put (E : gE) (l0 : Nat) (l1 : Int32) (l2 : Int32) (σ : gS) : Option gS :=
  ob (gfR σ l0 0 0) fun x1 =>
  ob (gwaI E σ x1 l1 l2) fun σ3 =>
  ob (gfR σ3 l0 0 1) fun x5 =>
  ob (gcl σ3 x5 2) fun _ =>
  ob (X3_insert_f E x5 l2 σ3) fun x7 =>
  some x7
set_option maxHeartbeats 4000000 in
set_option maxRecDepth 100000 in
theorem X1_put_W {σ : gS} {l0 : Nat} {l1 : Int32} {l2 : Int32} {σz : gS} {ls : Array Slot} (hC : gC E D A p R s m args meth c cX1_put 3 RX1 "put" 5 124) (hQ : gQV E D A p l e R s m args below meth c Q cX1_put σz) (hf : X1_put E l0 l1 l2 σ = some σz) (hw : gW E D A s σ H locs) (hl : lv_has ls 3 [(0, .ref l0), (1, .int l1), (2, .int l2)]) : W p l e R s m args below meth c H locs cells slots Q (F0 m 0 ls []) := by
  have hC0 := hC
  obtain ⟨hx, hb, hml, hown, hts, -⟩ := hC0
  unfold X1_put at hf
  refine lv_aload_n hx hb dX1_put_0 rfl (lv_at hl 0 rfl) ?_
  obtain ⟨x1, h2, hf⟩ := ob_some hf
  refine rR_fl_X1_9 hC hw h2 dX1_put_1 ?_
  refine lv_iload_n hx hb dX1_put_4 rfl (lv_at hl 1 rfl) ?_
  refine lv_iload_n hx hb dX1_put_5 rfl (lv_at hl 2 rfl) ?_
  obtain ⟨σ3, h4, hf⟩ := ob_some hf
  refine gg_astI hC hw h4 dX1_put_6 (fun H locs hw => ?_)
  refine lv_aload_n hx hb dX1_put_7 rfl (lv_at hl 0 rfl) ?_
  obtain ⟨x5, h6, hf⟩ := ob_some hf
  refine rR_fl_X1_18 hC hw h6 dX1_put_8 ?_
  refine lv_iload_n hx hb dX1_put_11 rfl (lv_at hl 2 rfl) ?_
  obtain ⟨_, h9, hf⟩ := ob_some hf
  obtain ⟨x7, h8, hf⟩ := ob_some hf
  refine gg_cVV (As := [.int l2]) hC hw (X3_insert_M l E D A h8) h9 rfl g_ml_X1_33 hd_X3_insert (Nat.le_of_ble_eq_true rfl) (Nat.le_of_ble_eq_true rfl) hl.1 rfl (Nat.le_of_ble_eq_true rfl) dX1_put_12 (fun H locs cells slots hw => ?_)
  cases hf
  exact hQ _ _ _ _ _ _ dX1_put_15 hw

def X1_put_f (E : gE) (l0 : Nat) (l1 : Int32) (l2 : Int32) (σ : gS) : Option gS := X1_put E l0 l1 l2 σ
set_option maxRecDepth 100000 in
theorem X1_put_M (l : Launch) (E : gE) (D : va_G) (A : Nat → Prop) {l0 : Nat} {l1 : Int32} {l2 : Int32} {σ : gS} {σz : gS} (hf : X1_put_f E l0 l1 l2 σ = some σz) : gCV l E D A yX1_put cX1_put 3 5 124 none [.ref l0, .int l1, .int l2] σ σz := by
  refine gg_entV (own := RX1) (nm := "put") (by decide +kernel) rfl rfl (Nat.le_of_ble_eq_true rfl) rfl ?_
  intro p e R s m args below meth c Q ls hC hw hQ hl
  have hl : lv_has ls 3 [(0, .ref l0), (1, .int l1), (2, .int l2)] := hl
  exact X1_put_W hC hQ hf hw hl

def X1_collectInto_6_s (E : gE) (r_6 : Nat → Nat → Int32 → gS → Option gS) (l0 : Nat) (l1 : Nat) (l2 : Int32) (σ : gS) : Option gS :=
  ob (gfI σ l0 0 2) fun x1 =>
  if x1 ≤ l2 then
    some σ
  else
    ob (gfR σ l0 0 0) fun x3 =>
    ob (graI E 0 σ x3 l2) fun x5 =>
    ob (gcl σ l1 2) fun _ =>
    ob (X3_insert_f E l1 x5 σ) fun x7 =>
    r_6 l0 l1 (l2 + 1) x7
set_option maxHeartbeats 4000000 in
set_option maxRecDepth 100000 in
theorem X1_collectInto_6_s_W {σ : gS} {l0 : Nat} {l1 : Nat} {l2 : Int32} {σz : gS} {ls : Array Slot} (hC : gC E D A p R s m args meth c cX1_collectInto 3 RX1 "collectInto" 5 124) (hQ : gQV E D A p l e R s m args below meth c Q cX1_collectInto σz) {r_6 : Nat → Nat → Int32 → gS → Option gS} (h_6 : ∀ {l0 : Nat} {l1 : Nat} {l2 : Int32} {σ : gS} {H : Heap} {locs : List Loc} {cells slots : Nat} {ls : Array Slot}, r_6 l0 l1 l2 σ = some σz → gW E D A s σ H locs → lv_has ls 3 [(0, .ref l0), (1, .ref l1), (2, .int l2)] → W p l e R s m args below meth c H locs cells slots Q (F0 m 6 ls [])) (hf : X1_collectInto_6_s E r_6 l0 l1 l2 σ = some σz) (hw : gW E D A s σ H locs) (hl : lv_has ls 3 [(0, .ref l0), (1, .ref l1), (2, .int l2)]) : W p l e R s m args below meth c H locs cells slots Q (F0 m 6 ls []) := by
  have hC0 := hC
  obtain ⟨hx, hb, hml, hown, hts, -⟩ := hC0
  unfold X1_collectInto_6_s at hf
  refine lv_iload_n hx hb dX1_collectInto_6 rfl (lv_at hl 2 rfl) ?_
  refine lv_aload_n hx hb dX1_collectInto_7 rfl (lv_at hl 0 rfl) ?_
  obtain ⟨x1, h2, hf⟩ := ob_some hf
  refine rI_fl_X1_22 hC hw h2 dX1_collectInto_8 ?_
  refine lv_icmp_ge (tgt := 30) hx hb dX1_collectInto_11 (by decide) (fun c10 => ?_) (fun c10 => ?_)
  · replace hf := (if_pos c10).symm.trans hf
    cases hf
    exact hQ _ _ _ _ _ _ dX1_collectInto_30 hw
  · replace hf := (if_neg c10).symm.trans hf
    refine lv_aload_n hx hb dX1_collectInto_14 rfl (lv_at hl 1 rfl) ?_
    refine lv_aload_n hx hb dX1_collectInto_15 rfl (lv_at hl 0 rfl) ?_
    obtain ⟨x3, h4, hf⟩ := ob_some hf
    refine rR_fl_X1_9 hC hw h4 dX1_collectInto_16 ?_
    refine lv_iload_n hx hb dX1_collectInto_19 rfl (lv_at hl 2 rfl) ?_
    obtain ⟨x5, h6, hf⟩ := ob_some hf
    refine gg_aldI hC hw h6 dX1_collectInto_20 ?_
    obtain ⟨_, h9, hf⟩ := ob_some hf
    obtain ⟨x7, h8, hf⟩ := ob_some hf
    refine gg_cVV (As := [.int x5]) hC hw (X3_insert_M l E D A h8) h9 rfl g_ml_X1_33 hd_X3_insert (Nat.le_of_ble_eq_true rfl) (Nat.le_of_ble_eq_true rfl) hl.1 rfl (Nat.le_of_ble_eq_true rfl) dX1_collectInto_21 (fun H locs cells slots hw => ?_)
    refine lv_iinc (v := (l2 + 1)) (lv' := [(2, .int (l2 + 1)), (0, .ref l0), (1, .ref l1)]) hx hb dX1_collectInto_24 hl (k := 2) rfl rfl (by decide) rfl (fun ls hl => ?_)
    refine lv_goto (tgt := 6) hx hb dX1_collectInto_27 (by decide) ?_
    exact h_6 hf hw (lv_sub hl [1, 2, 0] rfl)
def X1_collectInto_6 (E : gE) : Nat → Nat → Nat → Int32 → gS → Option gS
  | 0 => fun _ _ _ _ => none
  | n + 1 => X1_collectInto_6_s E (X1_collectInto_6 E n)
theorem X1_collectInto_6_W {σz : gS} (hC : gC E D A p R s m args meth c cX1_collectInto 3 RX1 "collectInto" 5 124) (hQ : gQV E D A p l e R s m args below meth c Q cX1_collectInto σz) : ∀ (n : Nat), ∀ {l0 : Nat} {l1 : Nat} {l2 : Int32} {σ : gS} {H : Heap} {locs : List Loc} {cells slots : Nat} {ls : Array Slot}, X1_collectInto_6 E n l0 l1 l2 σ = some σz → gW E D A s σ H locs → lv_has ls 3 [(0, .ref l0), (1, .ref l1), (2, .int l2)] → W p l e R s m args below meth c H locs cells slots Q (F0 m 6 ls []) := by
  intro n
  induction n with
  | zero =>
    intros
    rename_i hf _ _
    exact absurd hf (fun h => by cases (show (none : Option gS) = some σz from h))
  | succ n ih =>
    intros
    rename_i hf hw hl
    exact X1_collectInto_6_s_W hC hQ ih hf hw hl

def X1_collectInto (E : gE) (l0 : Nat) (l1 : Nat) (σ : gS) : Option gS :=
  ob (gcl σ l1 2) fun _ =>
  ob (X3_clear_f E l1 σ) fun x11 =>
  X1_collectInto_6 E (gN E) l0 l1 (0 : Int32) x11
set_option maxHeartbeats 4000000 in
set_option maxRecDepth 100000 in
theorem X1_collectInto_W {σ : gS} {l0 : Nat} {l1 : Nat} {σz : gS} {ls : Array Slot} (hC : gC E D A p R s m args meth c cX1_collectInto 3 RX1 "collectInto" 5 124) (hQ : gQV E D A p l e R s m args below meth c Q cX1_collectInto σz) (hf : X1_collectInto E l0 l1 σ = some σz) (hw : gW E D A s σ H locs) (hl : lv_has ls 3 [(0, .ref l0), (1, .ref l1)]) : W p l e R s m args below meth c H locs cells slots Q (F0 m 0 ls []) := by
  have hC0 := hC
  obtain ⟨hx, hb, hml, hown, hts, -⟩ := hC0
  unfold X1_collectInto at hf
  refine lv_aload_n hx hb dX1_collectInto_0 rfl (lv_at hl 1 rfl) ?_
  obtain ⟨_, h13, hf⟩ := ob_some hf
  obtain ⟨x11, h12, hf⟩ := ob_some hf
  refine gg_cVV (As := []) hC hw (X3_clear_M l E D A h12) h13 rfl g_ml_X1_30 hd_X3_clear (Nat.le_of_ble_eq_true rfl) (Nat.le_of_ble_eq_true rfl) hl.1 rfl (Nat.le_of_ble_eq_true rfl) dX1_collectInto_1 (fun H locs cells slots hw => ?_)
  refine lv_iconst (v := 0) hx hb dX1_collectInto_4 (by decide) ?_
  refine lv_istore_n (lv' := [(2, .int (0 : Int32)), (0, .ref l0), (1, .ref l1)]) hx hb dX1_collectInto_5 rfl hl (by decide) rfl (fun ls hl => ?_)
  exact X1_collectInto_6_W hC hQ (gN E) hf hw (lv_sub hl [1, 2, 0] rfl)

def X1_collectInto_f (E : gE) (l0 : Nat) (l1 : Nat) (σ : gS) : Option gS := X1_collectInto E l0 l1 σ
set_option maxRecDepth 100000 in
theorem X1_collectInto_M (l : Launch) (E : gE) (D : va_G) (A : Nat → Prop) {l0 : Nat} {l1 : Nat} {σ : gS} {σz : gS} (hf : X1_collectInto_f E l0 l1 σ = some σz) : gCV l E D A yX1_collectInto cX1_collectInto 3 5 124 none [.ref l0, .ref l1] σ σz := by
  refine gg_entV (own := RX1) (nm := "collectInto") (by decide +kernel) rfl rfl (Nat.le_of_ble_eq_true rfl) rfl ?_
  intro p e R s m args below meth c Q ls hC hw hQ hl
  have hl : lv_has ls 3 [(0, .ref l0), (1, .ref l1)] := hl
  exact X1_collectInto_W hC hQ hf hw hl

def X1_dropStale (E : gE) (l0 : Nat) (σ : gS) : Option gS :=
  ob (gfR σ l0 0 1) fun x1 =>
  ob (gcl σ l0 0) fun _ =>
  ob (X1_collectInto_f E l0 x1 σ) fun x3 =>
  some x3
set_option maxHeartbeats 4000000 in
set_option maxRecDepth 100000 in
theorem X1_dropStale_W {σ : gS} {l0 : Nat} {σz : gS} {ls : Array Slot} (hC : gC E D A p R s m args meth c cX1_dropStale 1 RX1 "dropStale" 6 146) (hQ : gQV E D A p l e R s m args below meth c Q cX1_dropStale σz) (hf : X1_dropStale E l0 σ = some σz) (hw : gW E D A s σ H locs) (hl : lv_has ls 1 [(0, .ref l0)]) : W p l e R s m args below meth c H locs cells slots Q (F0 m 0 ls []) := by
  have hC0 := hC
  obtain ⟨hx, hb, hml, hown, hts, -⟩ := hC0
  unfold X1_dropStale at hf
  refine lv_aload_n hx hb dX1_dropStale_0 rfl (lv_at hl 0 rfl) ?_
  refine lv_aload_n hx hb dX1_dropStale_1 rfl (lv_at hl 0 rfl) ?_
  obtain ⟨x1, h2, hf⟩ := ob_some hf
  refine rR_fl_X1_18 hC hw h2 dX1_dropStale_2 ?_
  obtain ⟨_, h5, hf⟩ := ob_some hf
  obtain ⟨x3, h4, hf⟩ := ob_some hf
  refine gg_cVV (As := [.ref x1]) hC hw (X1_collectInto_M l E D A h4) h5 rfl g_ml_X1_43 hd_X1_collectInto (Nat.le_of_ble_eq_true rfl) (Nat.le_of_ble_eq_true rfl) hl.1 rfl (Nat.le_of_ble_eq_true rfl) dX1_dropStale_5 (fun H locs cells slots hw => ?_)
  cases hf
  exact hQ _ _ _ _ _ _ dX1_dropStale_8 hw

def X1_dropStale_f (E : gE) (l0 : Nat) (σ : gS) : Option gS := X1_dropStale E l0 σ
set_option maxRecDepth 100000 in
theorem X1_dropStale_M (l : Launch) (E : gE) (D : va_G) (A : Nat → Prop) {l0 : Nat} {σ : gS} {σz : gS} (hf : X1_dropStale_f E l0 σ = some σz) : gCV l E D A yX1_dropStale cX1_dropStale 1 6 146 none [.ref l0] σ σz := by
  refine gg_entV (own := RX1) (nm := "dropStale") (by decide +kernel) rfl rfl (Nat.le_of_ble_eq_true rfl) rfl ?_
  intro p e R s m args below meth c Q ls hC hw hQ hl
  have hl : lv_has ls 1 [(0, .ref l0)] := hl
  exact X1_dropStale_W hC hQ hf hw hl

def X5_init_15_s (E : gE) (r_15 : Nat → Int32 → gS → Option gS) (l0 : Nat) (l1 : Int32) (σ : gS) : Option gS :=
  if (8 : Int32) ≤ l1 then
    some σ
  else
    ob (gfR σ l0 4 0) fun x1 =>
    ob (gnew E σ 9 [.null, .int 0, .null]) fun q3 =>
    ob (X11_init_f E q3.1 q3.2) fun x5 =>
    ob (gwaR E 5 9 x5 x1 l1 q3.1) fun σ7 =>
    r_15 l0 (l1 + 1) σ7
set_option maxHeartbeats 4000000 in
set_option maxRecDepth 100000 in
theorem X5_init_15_s_W {σ : gS} {l0 : Nat} {l1 : Int32} {σz : gS} {ls : Array Slot} (hC : gC E D A p R s m args meth c cX5_init 2 RX5 "<init>" 6 141) (hQ : gQV E D A p l e R s m args below meth c Q cX5_init σz) {r_15 : Nat → Int32 → gS → Option gS} (h_15 : ∀ {l0 : Nat} {l1 : Int32} {σ : gS} {H : Heap} {locs : List Loc} {cells slots : Nat} {ls : Array Slot}, r_15 l0 l1 σ = some σz → gW E D A s σ H locs → lv_has ls 2 [(0, .ref l0), (1, .int l1)] → W p l e R s m args below meth c H locs cells slots Q (F0 m 15 ls [])) (hf : X5_init_15_s E r_15 l0 l1 σ = some σz) (hw : gW E D A s σ H locs) (hl : lv_has ls 2 [(0, .ref l0), (1, .int l1)]) : W p l e R s m args below meth c H locs cells slots Q (F0 m 15 ls []) := by
  have hC0 := hC
  obtain ⟨hx, hb, hml, hown, hts, -⟩ := hC0
  unfold X5_init_15_s at hf
  refine lv_iload_n hx hb dX5_init_15 rfl (lv_at hl 1 rfl) ?_
  refine lv_bipush (v := 8) hx hb dX5_init_16 (by decide) ?_
  refine lv_icmp_ge (tgt := 40) hx hb dX5_init_18 (by decide) (fun c9 => ?_) (fun c9 => ?_)
  · replace hf := (if_pos c9).symm.trans hf
    cases hf
    exact hQ _ _ _ _ _ _ dX5_init_40 hw
  · replace hf := (if_neg c9).symm.trans hf
    refine lv_aload_n hx hb dX5_init_21 rfl (lv_at hl 0 rfl) ?_
    obtain ⟨x1, h2, hf⟩ := ob_some hf
    refine rR_fl_X5_11 hC hw h2 dX5_init_22 ?_
    refine lv_iload_n hx hb dX5_init_25 rfl (lv_at hl 1 rfl) ?_
    obtain ⟨q3, h4, hf⟩ := ob_some hf
    refine n_cl_X5_9 hC hw h4 dX5_init_26 (fun H locs cells slots hw => ?_)
    refine lv_dup hx hb dX5_init_29 rfl ?_
    obtain ⟨x5, h6, hf⟩ := ob_some hf
    refine gg_cIV (rt := none) (As := []) hC hw (X11_init_M l E D A h6) co_X11_init in_X11 ml_X5_17 im_X11_init rfl hd_X11_init.2 (Nat.le_of_ble_eq_true rfl) (Nat.le_of_ble_eq_true rfl) hl.1 rfl (Nat.le_of_ble_eq_true rfl) dX5_init_30 (fun H locs cells slots hw => ?_)
    obtain ⟨σ7, h8, hf⟩ := ob_some hf
    refine gg_astR hC hw h8 rfl rfl dX5_init_33 (fun H locs hw => ?_)
    refine lv_iinc (v := (l1 + 1)) (lv' := [(1, .int (l1 + 1)), (0, .ref l0)]) hx hb dX5_init_34 hl (k := 1) rfl rfl (by decide) rfl (fun ls hl => ?_)
    refine lv_goto (tgt := 15) hx hb dX5_init_37 (by decide) ?_
    exact h_15 hf hw (lv_sub hl [1, 0] rfl)
def X5_init_15 (E : gE) : Nat → Nat → Int32 → gS → Option gS
  | 0 => fun _ _ _ => none
  | n + 1 => X5_init_15_s E (X5_init_15 E n)
theorem X5_init_15_W {σz : gS} (hC : gC E D A p R s m args meth c cX5_init 2 RX5 "<init>" 6 141) (hQ : gQV E D A p l e R s m args below meth c Q cX5_init σz) : ∀ (n : Nat), ∀ {l0 : Nat} {l1 : Int32} {σ : gS} {H : Heap} {locs : List Loc} {cells slots : Nat} {ls : Array Slot}, X5_init_15 E n l0 l1 σ = some σz → gW E D A s σ H locs → lv_has ls 2 [(0, .ref l0), (1, .int l1)] → W p l e R s m args below meth c H locs cells slots Q (F0 m 15 ls []) := by
  intro n
  induction n with
  | zero =>
    intros
    rename_i hf _ _
    exact absurd hf (fun h => by cases (show (none : Option gS) = some σz from h))
  | succ n ih =>
    intros
    rename_i hf hw hl
    exact X5_init_15_s_W hC hQ ih hf hw hl

def X5_init (E : gE) (l0 : Nat) (σ : gS) : Option gS :=
  ob (gnaR E 5 σ (8 : Int32)) fun q10 =>
  ob (gpf E q10.2 l0 4 0 (.ref q10.1)) fun σ12 =>
  X5_init_15 E (gN E) l0 (0 : Int32) σ12
set_option maxHeartbeats 4000000 in
set_option maxRecDepth 100000 in
theorem X5_init_W {σ : gS} {l0 : Nat} {σz : gS} {ls : Array Slot} (hC : gC E D A p R s m args meth c cX5_init 2 RX5 "<init>" 6 141) (hQ : gQV E D A p l e R s m args below meth c Q cX5_init σz) (hf : X5_init E l0 σ = some σz) (hw : gW E D A s σ H locs) (hl : lv_has ls 2 [(0, .ref l0)]) : W p l e R s m args below meth c H locs cells slots Q (F0 m 0 ls []) := by
  have hC0 := hC
  obtain ⟨hx, hb, hml, hown, hts, -⟩ := hC0
  unfold X5_init at hf
  refine lv_aload_n hx hb dX5_init_0 rfl (lv_at hl 0 rfl) ?_
  refine gg_obj hC rfl (hts _ ml_X5_3) hl.1 (Nat.le_of_ble_eq_true rfl) dX5_init_1 (Nat.le_of_ble_eq_true rfl) (Nat.le_of_ble_eq_true rfl) ?_
  refine lv_aload_n hx hb dX5_init_4 rfl (lv_at hl 0 rfl) ?_
  refine lv_bipush (v := 8) hx hb dX5_init_5 (by decide) ?_
  obtain ⟨q10, h11, hf⟩ := ob_some hf
  refine na_cl_X5_9 hC hw h11 dX5_init_7 (fun H locs cells slots hw => ?_)
  obtain ⟨σ12, h13, hf⟩ := ob_some hf
  refine pF_fl_X5_11 hC hw h13 rfl rfl dX5_init_10 (fun H locs hw => ?_)
  refine lv_iconst (v := 0) hx hb dX5_init_13 (by decide) ?_
  refine lv_istore_n (lv' := [(1, .int (0 : Int32)), (0, .ref l0)]) hx hb dX5_init_14 rfl hl (by decide) rfl (fun ls hl => ?_)
  exact X5_init_15_W hC hQ (gN E) hf hw (lv_sub hl [1, 0] rfl)

def X5_init_f (E : gE) (l0 : Nat) (σ : gS) : Option gS := X5_init E l0 σ
set_option maxRecDepth 100000 in
theorem X5_init_M (l : Launch) (E : gE) (D : va_G) (A : Nat → Prop) {l0 : Nat} {σ : gS} {σz : gS} (hf : X5_init_f E l0 σ = some σz) : gCV l E D A yX5_init cX5_init 2 6 141 none [.ref l0] σ σz := by
  refine gg_entV (own := RX5) (nm := "<init>") (by decide +kernel) rfl rfl (Nat.le_of_ble_eq_true rfl) rfl ?_
  intro p e R s m args below meth c Q ls hC hw hQ hl
  have hl : lv_has ls 2 [(0, .ref l0)] := hl
  exact X5_init_W hC hQ hf hw hl

def X5_record (E : gE) (l0 : Nat) (l1 : Nat) (σ : gS) : Option gS :=
  ob (gfR σ l0 4 0) fun x1 =>
  ob (gfI σ l0 4 1) fun x3 =>
  ob (graR E 5 σ x1 x3) fun x5 =>
  ob (gcl σ x5 9) fun _ =>
  ob (X11_copyFrom_f E x5 l1 σ) fun x7 =>
  ob (gfI x7 l0 4 1) fun x10 =>
  ob (gpf E x7 l0 4 1 (.int ((x10 + (1 : Int32)) - (x10 + (1 : Int32)) / (8 : Int32) * (8 : Int32)))) fun σ12 =>
  ob (gfI σ12 l0 4 2) fun x14 =>
  ob (gpf E σ12 l0 4 2 (.int (gmin (x14 + (1 : Int32)) (8 : Int32)))) fun σ18 =>
  some σ18
set_option maxHeartbeats 4000000 in
set_option maxRecDepth 100000 in
theorem X5_record_W {σ : gS} {l0 : Nat} {l1 : Nat} {σz : gS} {ls : Array Slot} (hC : gC E D A p R s m args meth c cX5_record 2 RX5 "record" 6 144) (hQ : gQV E D A p l e R s m args below meth c Q cX5_record σz) (hf : X5_record E l0 l1 σ = some σz) (hw : gW E D A s σ H locs) (hl : lv_has ls 2 [(0, .ref l0), (1, .ref l1)]) : W p l e R s m args below meth c H locs cells slots Q (F0 m 0 ls []) := by
  have hC0 := hC
  obtain ⟨hx, hb, hml, hown, hts, -⟩ := hC0
  unfold X5_record at hf
  refine lv_aload_n hx hb dX5_record_0 rfl (lv_at hl 0 rfl) ?_
  obtain ⟨x1, h2, hf⟩ := ob_some hf
  refine rR_fl_X5_11 hC hw h2 dX5_record_1 ?_
  refine lv_aload_n hx hb dX5_record_4 rfl (lv_at hl 0 rfl) ?_
  obtain ⟨x3, h4, hf⟩ := ob_some hf
  refine rI_fl_X5_22 hC hw h4 dX5_record_5 ?_
  obtain ⟨x5, h6, hf⟩ := ob_some hf
  refine gg_aldR hC hw h6 rfl rfl dX5_record_8 ?_
  refine lv_aload_n hx hb dX5_record_9 rfl (lv_at hl 1 rfl) ?_
  obtain ⟨_, h9, hf⟩ := ob_some hf
  obtain ⟨x7, h8, hf⟩ := ob_some hf
  refine gg_cVV (As := [.ref l1]) hC hw (X11_copyFrom_M l E D A h8) h9 rfl g_ml_X5_25 hd_X11_copyFrom (Nat.le_of_ble_eq_true rfl) (Nat.le_of_ble_eq_true rfl) hl.1 rfl (Nat.le_of_ble_eq_true rfl) dX5_record_10 (fun H locs cells slots hw => ?_)
  refine lv_aload_n hx hb dX5_record_13 rfl (lv_at hl 0 rfl) ?_
  refine lv_aload_n hx hb dX5_record_14 rfl (lv_at hl 0 rfl) ?_
  obtain ⟨x10, h11, hf⟩ := ob_some hf
  refine rI_fl_X5_22 hC hw h11 dX5_record_15 ?_
  refine lv_iconst (v := 1) hx hb dX5_record_18 (by decide) ?_
  refine lv_iadd hx hb dX5_record_19 ?_
  refine lv_bipush (v := 8) hx hb dX5_record_20 (by decide) ?_
  refine lv_irem hx hb dX5_record_22 (by decide) ?_
  obtain ⟨σ12, h13, hf⟩ := ob_some hf
  refine p_fl_X5_22 hC hw h13 rfl rfl dX5_record_23 (fun H locs hw => ?_)
  refine lv_aload_n hx hb dX5_record_26 rfl (lv_at hl 0 rfl) ?_
  refine lv_aload_n hx hb dX5_record_27 rfl (lv_at hl 0 rfl) ?_
  obtain ⟨x14, h15, hf⟩ := ob_some hf
  refine rI_fl_X5_18 hC hw h15 dX5_record_28 ?_
  refine lv_iconst (v := 1) hx hb dX5_record_31 (by decide) ?_
  refine lv_iadd hx hb dX5_record_32 ?_
  refine lv_bipush (v := 8) hx hb dX5_record_33 (by decide) ?_
  refine gg_mmin hC hw ml_X5_29 rfl hl.1 (Nat.le_of_ble_eq_true rfl) (Nat.le_of_ble_eq_true rfl) (Nat.le_of_ble_eq_true rfl) dX5_record_35 (fun cells slots => ?_)
  obtain ⟨σ18, h19, hf⟩ := ob_some hf
  refine p_fl_X5_18 hC hw h19 rfl rfl dX5_record_38 (fun H locs hw => ?_)
  cases hf
  exact hQ _ _ _ _ _ _ dX5_record_41 hw

def X5_record_f (E : gE) (l0 : Nat) (l1 : Nat) (σ : gS) : Option gS := X5_record E l0 l1 σ
set_option maxRecDepth 100000 in
theorem X5_record_M (l : Launch) (E : gE) (D : va_G) (A : Nat → Prop) {l0 : Nat} {l1 : Nat} {σ : gS} {σz : gS} (hf : X5_record_f E l0 l1 σ = some σz) : gCV l E D A yX5_record cX5_record 2 6 144 none [.ref l0, .ref l1] σ σz := by
  refine gg_entV (own := RX5) (nm := "record") (by decide +kernel) rfl rfl (Nat.le_of_ble_eq_true rfl) rfl ?_
  intro p e R s m args below meth c Q ls hC hw hQ hl
  have hl : lv_has ls 2 [(0, .ref l0), (1, .ref l1)] := hl
  exact X5_record_W hC hQ hf hw hl

def X5_takeBack (E : gE) (l0 : Nat) (l1 : Nat) (σ : gS) : Option gS :=
  ob (gfI σ l0 4 1) fun x1 =>
  ob (gpf E σ l0 4 1 (.int (((x1 + (8 : Int32)) - (1 : Int32)) - ((x1 + (8 : Int32)) - (1 : Int32)) / (8 : Int32) * (8 : Int32)))) fun σ3 =>
  ob (gfI σ3 l0 4 2) fun x5 =>
  ob (gpf E σ3 l0 4 2 (.int (x5 - (1 : Int32)))) fun σ7 =>
  ob (gfR σ7 l0 4 0) fun x9 =>
  ob (gfI σ7 l0 4 1) fun x11 =>
  ob (graR E 5 σ7 x9 x11) fun x13 =>
  ob (gcl σ7 l1 9) fun _ =>
  ob (X11_copyFrom_f E l1 x13 σ7) fun x15 =>
  some x15
set_option maxHeartbeats 4000000 in
set_option maxRecDepth 100000 in
theorem X5_takeBack_W {σ : gS} {l0 : Nat} {l1 : Nat} {σz : gS} {ls : Array Slot} (hC : gC E D A p R s m args meth c cX5_takeBack 2 RX5 "takeBack" 6 144) (hQ : gQV E D A p l e R s m args below meth c Q cX5_takeBack σz) (hf : X5_takeBack E l0 l1 σ = some σz) (hw : gW E D A s σ H locs) (hl : lv_has ls 2 [(0, .ref l0), (1, .ref l1)]) : W p l e R s m args below meth c H locs cells slots Q (F0 m 0 ls []) := by
  have hC0 := hC
  obtain ⟨hx, hb, hml, hown, hts, -⟩ := hC0
  unfold X5_takeBack at hf
  refine lv_aload_n hx hb dX5_takeBack_0 rfl (lv_at hl 0 rfl) ?_
  refine lv_aload_n hx hb dX5_takeBack_1 rfl (lv_at hl 0 rfl) ?_
  obtain ⟨x1, h2, hf⟩ := ob_some hf
  refine rI_fl_X5_22 hC hw h2 dX5_takeBack_2 ?_
  refine lv_bipush (v := 8) hx hb dX5_takeBack_5 (by decide) ?_
  refine lv_iadd hx hb dX5_takeBack_7 ?_
  refine lv_iconst (v := 1) hx hb dX5_takeBack_8 (by decide) ?_
  refine lv_isub hx hb dX5_takeBack_9 ?_
  refine lv_bipush (v := 8) hx hb dX5_takeBack_10 (by decide) ?_
  refine lv_irem hx hb dX5_takeBack_12 (by decide) ?_
  obtain ⟨σ3, h4, hf⟩ := ob_some hf
  refine p_fl_X5_22 hC hw h4 rfl rfl dX5_takeBack_13 (fun H locs hw => ?_)
  refine lv_aload_n hx hb dX5_takeBack_16 rfl (lv_at hl 0 rfl) ?_
  refine lv_dup hx hb dX5_takeBack_17 rfl ?_
  obtain ⟨x5, h6, hf⟩ := ob_some hf
  refine rI_fl_X5_18 hC hw h6 dX5_takeBack_18 ?_
  refine lv_iconst (v := 1) hx hb dX5_takeBack_21 (by decide) ?_
  refine lv_isub hx hb dX5_takeBack_22 ?_
  obtain ⟨σ7, h8, hf⟩ := ob_some hf
  refine p_fl_X5_18 hC hw h8 rfl rfl dX5_takeBack_23 (fun H locs hw => ?_)
  refine lv_aload_n hx hb dX5_takeBack_26 rfl (lv_at hl 1 rfl) ?_
  refine lv_aload_n hx hb dX5_takeBack_27 rfl (lv_at hl 0 rfl) ?_
  obtain ⟨x9, h10, hf⟩ := ob_some hf
  refine rR_fl_X5_11 hC hw h10 dX5_takeBack_28 ?_
  refine lv_aload_n hx hb dX5_takeBack_31 rfl (lv_at hl 0 rfl) ?_
  obtain ⟨x11, h12, hf⟩ := ob_some hf
  refine rI_fl_X5_22 hC hw h12 dX5_takeBack_32 ?_
  obtain ⟨x13, h14, hf⟩ := ob_some hf
  refine gg_aldR hC hw h14 rfl rfl dX5_takeBack_35 ?_
  obtain ⟨_, h17, hf⟩ := ob_some hf
  obtain ⟨x15, h16, hf⟩ := ob_some hf
  refine gg_cVV (As := [.ref x13]) hC hw (X11_copyFrom_M l E D A h16) h17 rfl g_ml_X5_25 hd_X11_copyFrom (Nat.le_of_ble_eq_true rfl) (Nat.le_of_ble_eq_true rfl) hl.1 rfl (Nat.le_of_ble_eq_true rfl) dX5_takeBack_36 (fun H locs cells slots hw => ?_)
  cases hf
  exact hQ _ _ _ _ _ _ dX5_takeBack_39 hw

def X5_takeBack_f (E : gE) (l0 : Nat) (l1 : Nat) (σ : gS) : Option gS := X5_takeBack E l0 l1 σ
set_option maxRecDepth 100000 in
theorem X5_takeBack_M (l : Launch) (E : gE) (D : va_G) (A : Nat → Prop) {l0 : Nat} {l1 : Nat} {σ : gS} {σz : gS} (hf : X5_takeBack_f E l0 l1 σ = some σz) : gCV l E D A yX5_takeBack cX5_takeBack 2 6 144 none [.ref l0, .ref l1] σ σz := by
  refine gg_entV (own := RX5) (nm := "takeBack") (by decide +kernel) rfl rfl (Nat.le_of_ble_eq_true rfl) rfl ?_
  intro p e R s m args below meth c Q ls hC hw hQ hl
  have hl : lv_has ls 2 [(0, .ref l0), (1, .ref l1)] := hl
  exact X5_takeBack_W hC hQ hf hw hl

def X11_appendRow_2_s (E : gE) (r_2 : Nat → Nat → Int32 → Int32 → gS → Option gS) (l0 : Nat) (l1 : Nat) (l2 : Int32) (l3 : Int32) (σ : gS) : Option gS :=
  ob (gfI σ l0 9 1) fun x1 =>
  if x1 ≤ l3 then
    some σ
  else
    ob (gfR σ l0 9 0) fun x3 =>
    ob (graR E 4 σ x3 l3) fun x5 =>
    ob (graI E 0 σ l1 (l2 + l3)) fun x7 =>
    ob (gcl σ x5 0) fun _ =>
    ob (X1_append_f E x5 x7 σ) fun x9 =>
    r_2 l0 l1 l2 (l3 + 1) x9
set_option maxHeartbeats 4000000 in
set_option maxRecDepth 100000 in
theorem X11_appendRow_2_s_W {σ : gS} {l0 : Nat} {l1 : Nat} {l2 : Int32} {l3 : Int32} {σz : gS} {ls : Array Slot} (hC : gC E D A p R s m args meth c cX11_appendRow 4 RX11 "appendRow" 6 145) (hQ : gQV E D A p l e R s m args below meth c Q cX11_appendRow σz) {r_2 : Nat → Nat → Int32 → Int32 → gS → Option gS} (h_2 : ∀ {l0 : Nat} {l1 : Nat} {l2 : Int32} {l3 : Int32} {σ : gS} {H : Heap} {locs : List Loc} {cells slots : Nat} {ls : Array Slot}, r_2 l0 l1 l2 l3 σ = some σz → gW E D A s σ H locs → lv_has ls 4 [(0, .ref l0), (1, .ref l1), (2, .int l2), (3, .int l3)] → W p l e R s m args below meth c H locs cells slots Q (F0 m 2 ls [])) (hf : X11_appendRow_2_s E r_2 l0 l1 l2 l3 σ = some σz) (hw : gW E D A s σ H locs) (hl : lv_has ls 4 [(0, .ref l0), (1, .ref l1), (2, .int l2), (3, .int l3)]) : W p l e R s m args below meth c H locs cells slots Q (F0 m 2 ls []) := by
  have hC0 := hC
  obtain ⟨hx, hb, hml, hown, hts, -⟩ := hC0
  unfold X11_appendRow_2_s at hf
  refine lv_iload_n hx hb dX11_appendRow_2 rfl (lv_at hl 3 rfl) ?_
  refine lv_aload_n hx hb dX11_appendRow_3 rfl (lv_at hl 0 rfl) ?_
  obtain ⟨x1, h2, hf⟩ := ob_some hf
  refine rI_fl_X11_17 hC hw h2 dX11_appendRow_4 ?_
  refine lv_icmp_ge (tgt := 30) hx hb dX11_appendRow_7 (by decide) (fun c12 => ?_) (fun c12 => ?_)
  · replace hf := (if_pos c12).symm.trans hf
    cases hf
    exact hQ _ _ _ _ _ _ dX11_appendRow_30 hw
  · replace hf := (if_neg c12).symm.trans hf
    refine lv_aload_n hx hb dX11_appendRow_10 rfl (lv_at hl 0 rfl) ?_
    obtain ⟨x3, h4, hf⟩ := ob_some hf
    refine rR_fl_X11_11 hC hw h4 dX11_appendRow_11 ?_
    refine lv_iload_n hx hb dX11_appendRow_14 rfl (lv_at hl 3 rfl) ?_
    obtain ⟨x5, h6, hf⟩ := ob_some hf
    refine gg_aldR hC hw h6 rfl rfl dX11_appendRow_15 ?_
    refine lv_aload_n hx hb dX11_appendRow_16 rfl (lv_at hl 1 rfl) ?_
    refine lv_iload_n hx hb dX11_appendRow_17 rfl (lv_at hl 2 rfl) ?_
    refine lv_iload_n hx hb dX11_appendRow_18 rfl (lv_at hl 3 rfl) ?_
    refine lv_iadd hx hb dX11_appendRow_19 ?_
    obtain ⟨x7, h8, hf⟩ := ob_some hf
    refine gg_aldI hC hw h8 dX11_appendRow_20 ?_
    obtain ⟨_, h11, hf⟩ := ob_some hf
    obtain ⟨x9, h10, hf⟩ := ob_some hf
    refine gg_cVV (As := [.int x7]) hC hw (X1_append_M l E D A h10) h11 rfl g_ml_X11_48 hd_X1_append (Nat.le_of_ble_eq_true rfl) (Nat.le_of_ble_eq_true rfl) hl.1 rfl (Nat.le_of_ble_eq_true rfl) dX11_appendRow_21 (fun H locs cells slots hw => ?_)
    refine lv_iinc (v := (l3 + 1)) (lv' := [(3, .int (l3 + 1)), (0, .ref l0), (1, .ref l1), (2, .int l2)]) hx hb dX11_appendRow_24 hl (k := 3) rfl rfl (by decide) rfl (fun ls hl => ?_)
    refine lv_goto (tgt := 2) hx hb dX11_appendRow_27 (by decide) ?_
    exact h_2 hf hw (lv_sub hl [1, 2, 3, 0] rfl)
def X11_appendRow_2 (E : gE) : Nat → Nat → Nat → Int32 → Int32 → gS → Option gS
  | 0 => fun _ _ _ _ _ => none
  | n + 1 => X11_appendRow_2_s E (X11_appendRow_2 E n)
theorem X11_appendRow_2_W {σz : gS} (hC : gC E D A p R s m args meth c cX11_appendRow 4 RX11 "appendRow" 6 145) (hQ : gQV E D A p l e R s m args below meth c Q cX11_appendRow σz) : ∀ (n : Nat), ∀ {l0 : Nat} {l1 : Nat} {l2 : Int32} {l3 : Int32} {σ : gS} {H : Heap} {locs : List Loc} {cells slots : Nat} {ls : Array Slot}, X11_appendRow_2 E n l0 l1 l2 l3 σ = some σz → gW E D A s σ H locs → lv_has ls 4 [(0, .ref l0), (1, .ref l1), (2, .int l2), (3, .int l3)] → W p l e R s m args below meth c H locs cells slots Q (F0 m 2 ls []) := by
  intro n
  induction n with
  | zero =>
    intros
    rename_i hf _ _
    exact absurd hf (fun h => by cases (show (none : Option gS) = some σz from h))
  | succ n ih =>
    intros
    rename_i hf hw hl
    exact X11_appendRow_2_s_W hC hQ ih hf hw hl

def X11_appendRow (E : gE) (l0 : Nat) (l1 : Nat) (l2 : Int32) (σ : gS) : Option gS :=
  X11_appendRow_2 E (gN E) l0 l1 l2 (0 : Int32) σ
set_option maxHeartbeats 4000000 in
set_option maxRecDepth 100000 in
theorem X11_appendRow_W {σ : gS} {l0 : Nat} {l1 : Nat} {l2 : Int32} {σz : gS} {ls : Array Slot} (hC : gC E D A p R s m args meth c cX11_appendRow 4 RX11 "appendRow" 6 145) (hQ : gQV E D A p l e R s m args below meth c Q cX11_appendRow σz) (hf : X11_appendRow E l0 l1 l2 σ = some σz) (hw : gW E D A s σ H locs) (hl : lv_has ls 4 [(0, .ref l0), (1, .ref l1), (2, .int l2)]) : W p l e R s m args below meth c H locs cells slots Q (F0 m 0 ls []) := by
  have hC0 := hC
  obtain ⟨hx, hb, hml, hown, hts, -⟩ := hC0
  unfold X11_appendRow at hf
  refine lv_iconst (v := 0) hx hb dX11_appendRow_0 (by decide) ?_
  refine lv_istore_n (lv' := [(3, .int (0 : Int32)), (0, .ref l0), (1, .ref l1), (2, .int l2)]) hx hb dX11_appendRow_1 rfl hl (by decide) rfl (fun ls hl => ?_)
  exact X11_appendRow_2_W hC hQ (gN E) hf hw (lv_sub hl [1, 2, 3, 0] rfl)

def X11_appendRow_f (E : gE) (l0 : Nat) (l1 : Nat) (l2 : Int32) (σ : gS) : Option gS := X11_appendRow E l0 l1 l2 σ
set_option maxRecDepth 100000 in
theorem X11_appendRow_M (l : Launch) (E : gE) (D : va_G) (A : Nat → Prop) {l0 : Nat} {l1 : Nat} {l2 : Int32} {σ : gS} {σz : gS} (hf : X11_appendRow_f E l0 l1 l2 σ = some σz) : gCV l E D A yX11_appendRow cX11_appendRow 4 6 145 none [.ref l0, .ref l1, .int l2] σ σz := by
  refine gg_entV (own := RX11) (nm := "appendRow") (by decide +kernel) rfl rfl (Nat.le_of_ble_eq_true rfl) rfl ?_
  intro p e R s m args below meth c Q ls hC hw hQ hl
  have hl : lv_has ls 4 [(0, .ref l0), (1, .ref l1), (2, .int l2)] := hl
  exact X11_appendRow_W hC hQ hf hw hl

def X11_deleteSelectedRows_29 (E : gE) (r_4 : Nat → Int32 → Int32 → gS → Option (Int32 × gS)) (l0 : Nat) (l1 : Int32) (l2 : Int32) (σ : gS) : Option (Int32 × gS) :=
  r_4 l0 l1 (l2 + 1) σ
set_option maxHeartbeats 4000000 in
set_option maxRecDepth 100000 in
theorem X11_deleteSelectedRows_29_W {σ : gS} {l0 : Nat} {l1 : Int32} {l2 : Int32} {res : (Int32 × gS)} {ls : Array Slot} (hC : gC E D A p R s m args meth c cX11_deleteSelectedRows 3 RX11 "deleteSelectedRows" 5 107) (hQ : gQI E D A p l e R s m args below meth c Q cX11_deleteSelectedRows FieldType.int res) {r_4 : Nat → Int32 → Int32 → gS → Option (Int32 × gS)} (h_4 : ∀ {l0 : Nat} {l1 : Int32} {l2 : Int32} {σ : gS} {H : Heap} {locs : List Loc} {cells slots : Nat} {ls : Array Slot}, r_4 l0 l1 l2 σ = some res → gW E D A s σ H locs → lv_has ls 3 [(0, .ref l0), (1, .int l1), (2, .int l2)] → W p l e R s m args below meth c H locs cells slots Q (F0 m 4 ls [])) (hf : X11_deleteSelectedRows_29 E r_4 l0 l1 l2 σ = some res) (hw : gW E D A s σ H locs) (hl : lv_has ls 3 [(0, .ref l0), (1, .int l1), (2, .int l2)]) : W p l e R s m args below meth c H locs cells slots Q (F0 m 29 ls []) := by
  have hC0 := hC
  obtain ⟨hx, hb, hml, hown, hts, -⟩ := hC0
  unfold X11_deleteSelectedRows_29 at hf
  refine lv_iinc (v := (l2 + 1)) (lv' := [(2, .int (l2 + 1)), (0, .ref l0), (1, .int l1)]) hx hb dX11_deleteSelectedRows_29 hl (k := 2) rfl rfl (by decide) rfl (fun ls hl => ?_)
  refine lv_goto (tgt := 4) hx hb dX11_deleteSelectedRows_32 (by decide) ?_
  exact h_4 hf hw (lv_sub hl [1, 2, 0] rfl)

def X11_deleteSelectedRows_4_s (E : gE) (r_4 : Nat → Int32 → Int32 → gS → Option (Int32 × gS)) (l0 : Nat) (l1 : Int32) (l2 : Int32) (σ : gS) : Option (Int32 × gS) :=
  ob (gcl σ l0 9) fun _ =>
  ob (X11_rows_f E σ l0) fun x1 =>
  if x1 ≤ l2 then
    ob (gcl σ l0 9) fun _ =>
    ob (X11_rows_f E σ l0) fun x4 =>
    ob (gcl σ l0 9) fun _ =>
    ob (X11_shorten_f E l0 l1 σ) fun x7 =>
    some ((x4 - l1), x7)
  else
    ob (gcl σ l0 9) fun _ =>
    ob (X11_selects_f E σ l0 l2) fun x10 =>
    if x10 = 0 then
      ob (gcl σ l0 9) fun _ =>
      ob (X11_moveRow_f E l0 l2 l1 σ) fun x13 =>
      X11_deleteSelectedRows_29 E r_4 l0 (l1 + 1) l2 x13
    else
      X11_deleteSelectedRows_29 E r_4 l0 l1 l2 σ
set_option maxHeartbeats 4000000 in
set_option maxRecDepth 100000 in
theorem X11_deleteSelectedRows_4_s_W {σ : gS} {l0 : Nat} {l1 : Int32} {l2 : Int32} {res : (Int32 × gS)} {ls : Array Slot} (hC : gC E D A p R s m args meth c cX11_deleteSelectedRows 3 RX11 "deleteSelectedRows" 5 107) (hQ : gQI E D A p l e R s m args below meth c Q cX11_deleteSelectedRows FieldType.int res) {r_4 : Nat → Int32 → Int32 → gS → Option (Int32 × gS)} (h_4 : ∀ {l0 : Nat} {l1 : Int32} {l2 : Int32} {σ : gS} {H : Heap} {locs : List Loc} {cells slots : Nat} {ls : Array Slot}, r_4 l0 l1 l2 σ = some res → gW E D A s σ H locs → lv_has ls 3 [(0, .ref l0), (1, .int l1), (2, .int l2)] → W p l e R s m args below meth c H locs cells slots Q (F0 m 4 ls [])) (hf : X11_deleteSelectedRows_4_s E r_4 l0 l1 l2 σ = some res) (hw : gW E D A s σ H locs) (hl : lv_has ls 3 [(0, .ref l0), (1, .int l1), (2, .int l2)]) : W p l e R s m args below meth c H locs cells slots Q (F0 m 4 ls []) := by
  have hC0 := hC
  obtain ⟨hx, hb, hml, hown, hts, -⟩ := hC0
  unfold X11_deleteSelectedRows_4_s at hf
  refine lv_iload_n hx hb dX11_deleteSelectedRows_4 rfl (lv_at hl 2 rfl) ?_
  refine lv_aload_n hx hb dX11_deleteSelectedRows_5 rfl (lv_at hl 0 rfl) ?_
  obtain ⟨_, h3, hf⟩ := ob_some hf
  obtain ⟨x1, h2, hf⟩ := ob_some hf
  refine gg_cVI (As := []) hC hw (X11_rows_M l E D A h2) h3 rfl g_ml_X11_37 hd_X11_rows (Nat.le_of_ble_eq_true rfl) (Nat.le_of_ble_eq_true rfl) hl.1 rfl (Nat.le_of_ble_eq_true rfl) dX11_deleteSelectedRows_6 (fun H locs cells slots hw => ?_)
  refine lv_icmp_ge (tgt := 35) hx hb dX11_deleteSelectedRows_9 (by decide) (fun c17 => ?_) (fun c17 => ?_)
  · replace hf := (if_pos c17).symm.trans hf
    refine lv_aload_n hx hb dX11_deleteSelectedRows_35 rfl (lv_at hl 0 rfl) ?_
    obtain ⟨_, h6, hf⟩ := ob_some hf
    obtain ⟨x4, h5, hf⟩ := ob_some hf
    refine gg_cVI (As := []) hC hw (X11_rows_M l E D A h5) h6 rfl g_ml_X11_37 hd_X11_rows (Nat.le_of_ble_eq_true rfl) (Nat.le_of_ble_eq_true rfl) hl.1 rfl (Nat.le_of_ble_eq_true rfl) dX11_deleteSelectedRows_36 (fun H locs cells slots hw => ?_)
    refine lv_iload_n hx hb dX11_deleteSelectedRows_39 rfl (lv_at hl 1 rfl) ?_
    refine lv_isub hx hb dX11_deleteSelectedRows_40 ?_
    refine lv_istore_n (lv' := [(2, .int (x4 - l1)), (0, .ref l0), (1, .int l1)]) hx hb dX11_deleteSelectedRows_41 rfl hl (by decide) rfl (fun ls hl => ?_)
    refine lv_aload_n hx hb dX11_deleteSelectedRows_42 rfl (lv_at hl 1 rfl) ?_
    refine lv_iload_n hx hb dX11_deleteSelectedRows_43 rfl (lv_at hl 2 rfl) ?_
    obtain ⟨_, h9, hf⟩ := ob_some hf
    obtain ⟨x7, h8, hf⟩ := ob_some hf
    refine gg_cVV (As := [.int l1]) hC hw (X11_shorten_M l E D A h8) h9 rfl g_ml_X11_56 hd_X11_shorten (Nat.le_of_ble_eq_true rfl) (Nat.le_of_ble_eq_true rfl) hl.1 rfl (Nat.le_of_ble_eq_true rfl) dX11_deleteSelectedRows_44 (fun H locs cells slots hw => ?_)
    refine lv_iload_n hx hb dX11_deleteSelectedRows_47 rfl (lv_at hl 0 rfl) ?_
    cases hf
    exact hQ _ _ _ _ _ _ dX11_deleteSelectedRows_48 rfl hw
  · replace hf := (if_neg c17).symm.trans hf
    refine lv_aload_n hx hb dX11_deleteSelectedRows_12 rfl (lv_at hl 0 rfl) ?_
    refine lv_iload_n hx hb dX11_deleteSelectedRows_13 rfl (lv_at hl 2 rfl) ?_
    obtain ⟨_, h12, hf⟩ := ob_some hf
    obtain ⟨x10, h11, hf⟩ := ob_some hf
    refine gg_cVI (As := [.int l2]) hC hw (X11_selects_M l E D A h11) h12 rfl g_ml_X11_59 hd_X11_selects (Nat.le_of_ble_eq_true rfl) (Nat.le_of_ble_eq_true rfl) hl.1 rfl (Nat.le_of_ble_eq_true rfl) dX11_deleteSelectedRows_14 (fun H locs cells slots hw => ?_)
    refine lv_if_ne (tgt := 29) hx hb dX11_deleteSelectedRows_17 (by decide) (fun c16 => ?_) (fun c16 => ?_)
    · replace hf := (if_neg c16).symm.trans hf
      exact X11_deleteSelectedRows_29_W hC hQ h_4 hf hw (lv_sub hl [0, 1, 2] rfl)
    · replace hf := (if_pos c16).symm.trans hf
      refine lv_aload_n hx hb dX11_deleteSelectedRows_20 rfl (lv_at hl 0 rfl) ?_
      refine lv_iload_n hx hb dX11_deleteSelectedRows_21 rfl (lv_at hl 2 rfl) ?_
      refine lv_iload_n hx hb dX11_deleteSelectedRows_22 rfl (lv_at hl 1 rfl) ?_
      obtain ⟨_, h15, hf⟩ := ob_some hf
      obtain ⟨x13, h14, hf⟩ := ob_some hf
      refine gg_cVV (As := [.int l2, .int l1]) hC hw (X11_moveRow_M l E D A h14) h15 rfl g_ml_X11_52 hd_X11_moveRow (Nat.le_of_ble_eq_true rfl) (Nat.le_of_ble_eq_true rfl) hl.1 rfl (Nat.le_of_ble_eq_true rfl) dX11_deleteSelectedRows_23 (fun H locs cells slots hw => ?_)
      refine lv_iinc (v := (l1 + 1)) (lv' := [(1, .int (l1 + 1)), (0, .ref l0), (2, .int l2)]) hx hb dX11_deleteSelectedRows_26 hl (k := 1) rfl rfl (by decide) rfl (fun ls hl => ?_)
      exact X11_deleteSelectedRows_29_W hC hQ h_4 hf hw (lv_sub hl [1, 0, 2] rfl)
def X11_deleteSelectedRows_4 (E : gE) : Nat → Nat → Int32 → Int32 → gS → Option (Int32 × gS)
  | 0 => fun _ _ _ _ => none
  | n + 1 => X11_deleteSelectedRows_4_s E (X11_deleteSelectedRows_4 E n)
theorem X11_deleteSelectedRows_4_W {res : (Int32 × gS)} (hC : gC E D A p R s m args meth c cX11_deleteSelectedRows 3 RX11 "deleteSelectedRows" 5 107) (hQ : gQI E D A p l e R s m args below meth c Q cX11_deleteSelectedRows FieldType.int res) : ∀ (n : Nat), ∀ {l0 : Nat} {l1 : Int32} {l2 : Int32} {σ : gS} {H : Heap} {locs : List Loc} {cells slots : Nat} {ls : Array Slot}, X11_deleteSelectedRows_4 E n l0 l1 l2 σ = some res → gW E D A s σ H locs → lv_has ls 3 [(0, .ref l0), (1, .int l1), (2, .int l2)] → W p l e R s m args below meth c H locs cells slots Q (F0 m 4 ls []) := by
  intro n
  induction n with
  | zero =>
    intros
    rename_i hf _ _
    exact absurd hf (fun h => by cases (show (none : Option (Int32 × gS)) = some res from h))
  | succ n ih =>
    intros
    rename_i hf hw hl
    exact X11_deleteSelectedRows_4_s_W hC hQ ih hf hw hl

def X11_deleteSelectedRows (E : gE) (l0 : Nat) (σ : gS) : Option (Int32 × gS) :=
  X11_deleteSelectedRows_4 E (gN E) l0 (0 : Int32) (0 : Int32) σ
set_option maxHeartbeats 4000000 in
set_option maxRecDepth 100000 in
theorem X11_deleteSelectedRows_W {σ : gS} {l0 : Nat} {res : (Int32 × gS)} {ls : Array Slot} (hC : gC E D A p R s m args meth c cX11_deleteSelectedRows 3 RX11 "deleteSelectedRows" 5 107) (hQ : gQI E D A p l e R s m args below meth c Q cX11_deleteSelectedRows FieldType.int res) (hf : X11_deleteSelectedRows E l0 σ = some res) (hw : gW E D A s σ H locs) (hl : lv_has ls 3 [(0, .ref l0)]) : W p l e R s m args below meth c H locs cells slots Q (F0 m 0 ls []) := by
  have hC0 := hC
  obtain ⟨hx, hb, hml, hown, hts, -⟩ := hC0
  unfold X11_deleteSelectedRows at hf
  refine lv_iconst (v := 0) hx hb dX11_deleteSelectedRows_0 (by decide) ?_
  refine lv_istore_n (lv' := [(1, .int (0 : Int32)), (0, .ref l0)]) hx hb dX11_deleteSelectedRows_1 rfl hl (by decide) rfl (fun ls hl => ?_)
  refine lv_iconst (v := 0) hx hb dX11_deleteSelectedRows_2 (by decide) ?_
  refine lv_istore_n (lv' := [(2, .int (0 : Int32)), (1, .int (0 : Int32)), (0, .ref l0)]) hx hb dX11_deleteSelectedRows_3 rfl hl (by decide) rfl (fun ls hl => ?_)
  exact X11_deleteSelectedRows_4_W hC hQ (gN E) hf hw (lv_sub hl [2, 1, 0] rfl)

def X11_deleteSelectedRows_f (E : gE) (l0 : Nat) (σ : gS) : Option (Int32 × gS) := X11_deleteSelectedRows E l0 σ
set_option maxRecDepth 100000 in
theorem X11_deleteSelectedRows_M (l : Launch) (E : gE) (D : va_G) (A : Nat → Prop) {l0 : Nat} {σ : gS} {res : (Int32 × gS)} (hf : X11_deleteSelectedRows_f E l0 σ = some res) : gCI l E D A yX11_deleteSelectedRows cX11_deleteSelectedRows 3 5 107 (some FieldType.int) [.ref l0] σ res := by
  refine gg_entI (own := RX11) (nm := "deleteSelectedRows") (ty := FieldType.int) (by decide +kernel) rfl rfl (Nat.le_of_ble_eq_true rfl) rfl ?_
  intro p e R s m args below meth c Q ls hC hw hQ hl
  have hl : lv_has ls 3 [(0, .ref l0)] := hl
  exact X11_deleteSelectedRows_W hC hQ hf hw hl

def J0_charAt_5068e (E : gE) (σ : gS) (l0 : Nat) (l1 : Int32) : Option Int32 :=
  ob (gxc E l0 100) fun _ =>
  ob (J0_isLatin1_aae02_f E σ l0) fun x1 =>
  if x1 = 0 then
    ob (gxR E l0 100 0) fun x4 =>
    ob (J2_charAt_3b067_f E σ x4 l1) fun x6 =>
    ob (gch x6) fun _ =>
    some x6
  else
    ob (gxR E l0 100 0) fun x9 =>
    ob (J1_charAt_3b067_f E σ x9 l1) fun x11 =>
    ob (gch x11) fun _ =>
    some x11
set_option maxHeartbeats 4000000 in
set_option maxRecDepth 100000 in
theorem J0_charAt_5068e_W {σ : gS} {l0 : Nat} {l1 : Int32} {res : Int32} {ls : Array Slot} (hC : gC E D A p R s m args meth c cJ0_charAt_5068e 2 RJ0 "charAt" 4 85) (hQ : gQI E D A p l e R s m args below meth c Q cJ0_charAt_5068e FieldType.char (res, σ)) (hf : J0_charAt_5068e E σ l0 l1 = some res) (hw : gW E D A s σ H locs) (hl : lv_has ls 2 [(0, .ref l0), (1, .int l1)]) : W p l e R s m args below meth c H locs cells slots Q (F0 m 0 ls []) := by
  have hC0 := hC
  obtain ⟨hx, hb, hml, hown, hts, -⟩ := hC0
  unfold J0_charAt_5068e at hf
  refine lv_aload_n hx hb dJ0_charAt_5068e_0 rfl (lv_at hl 0 rfl) ?_
  obtain ⟨_, h3, hf⟩ := ob_some hf
  obtain ⟨x1, h2, hf⟩ := ob_some hf
  refine gg_cXI (As := []) hC hw (J0_isLatin1_aae02_M l E D A h2) h3 rfl g_ml_J0_492 hd_J0_isLatin1_aae02 (Nat.le_of_ble_eq_true rfl) (Nat.le_of_ble_eq_true rfl) hl.1 rfl (Nat.le_of_ble_eq_true rfl) dJ0_charAt_5068e_1 (fun H locs cells slots hw => ?_)
  refine lv_if_eq (tgt := 16) hx hb dJ0_charAt_5068e_4 (by decide) (fun c14 => ?_) (fun c14 => ?_)
  · replace hf := (if_pos c14).symm.trans hf
    refine lv_aload_n hx hb dJ0_charAt_5068e_16 rfl (lv_at hl 0 rfl) ?_
    obtain ⟨x4, h5, hf⟩ := ob_some hf
    obtain ⟨hro, fs, he, hv⟩ := gxR_some h5
    refine gg_xget hC hw hro he hv rfl fl_J0_9 dJ0_charAt_5068e_17 ?_
    refine lv_iload_n hx hb dJ0_charAt_5068e_20 rfl (lv_at hl 1 rfl) ?_
    obtain ⟨x6, h7, hf⟩ := ob_some hf
    refine gg_cSI (As := [.ref x4, .int l1]) hC hw (J2_charAt_3b067_M l E D A h7) g_ml_J0_498 hd_J2_charAt_3b067.2 (Nat.le_of_ble_eq_true rfl) (Nat.le_of_ble_eq_true rfl) hl.1 rfl (Nat.le_of_ble_eq_true rfl) dJ0_charAt_5068e_21 (fun H locs cells slots hw => ?_)
    obtain ⟨_, h8, hf⟩ := ob_some hf
    cases hf
    exact hQ _ _ _ _ _ _ dJ0_charAt_5068e_24 (gch_some h8) hw
  · replace hf := (if_neg c14).symm.trans hf
    refine lv_aload_n hx hb dJ0_charAt_5068e_7 rfl (lv_at hl 0 rfl) ?_
    obtain ⟨x9, h10, hf⟩ := ob_some hf
    obtain ⟨hro, fs, he, hv⟩ := gxR_some h10
    refine gg_xget hC hw hro he hv rfl fl_J0_9 dJ0_charAt_5068e_8 ?_
    refine lv_iload_n hx hb dJ0_charAt_5068e_11 rfl (lv_at hl 1 rfl) ?_
    obtain ⟨x11, h12, hf⟩ := ob_some hf
    refine gg_cSI (As := [.ref x9, .int l1]) hC hw (J1_charAt_3b067_M l E D A h12) g_ml_J0_495 hd_J1_charAt_3b067.2 (Nat.le_of_ble_eq_true rfl) (Nat.le_of_ble_eq_true rfl) hl.1 rfl (Nat.le_of_ble_eq_true rfl) dJ0_charAt_5068e_12 (fun H locs cells slots hw => ?_)
    obtain ⟨_, h13, hf⟩ := ob_some hf
    cases hf
    exact hQ _ _ _ _ _ _ dJ0_charAt_5068e_15 (gch_some h13) hw

def J0_charAt_5068e_f (E : gE) (σ : gS) (l0 : Nat) (l1 : Int32) : Option Int32 := J0_charAt_5068e E σ l0 l1
set_option maxRecDepth 100000 in
theorem J0_charAt_5068e_M (l : Launch) (E : gE) (D : va_G) (A : Nat → Prop) {l0 : Nat} {l1 : Int32} {σ : gS} {res : Int32} (hf : J0_charAt_5068e_f E σ l0 l1 = some res) : gCI l E D A yJ0_charAt_5068e cJ0_charAt_5068e 2 4 85 (some FieldType.char) [.ref l0, .int l1] σ (res, σ) := by
  refine gg_entI (own := RJ0) (nm := "charAt") (ty := FieldType.char) (by decide +kernel) rfl rfl (Nat.le_of_ble_eq_true rfl) rfl ?_
  intro p e R s m args below meth c Q ls hC hw hQ hl
  have hl : lv_has ls 2 [(0, .ref l0), (1, .int l1)] := hl
  exact J0_charAt_5068e_W hC hQ hf hw hl

def X11_replace_43_s (E : gE) (r_43 : Nat → Int32 → Nat → Int32 → gS → Option gS) (l0 : Nat) (l2 : Int32) (l3 : Nat) (l4 : Int32) (σ : gS) : Option gS :=
  if l2 ≤ l4 then
    some σ
  else
    ob (gfI σ l0 9 1) fun x1 =>
    ob (gcl σ l0 9) fun _ =>
    ob (X11_appendRow_f E l0 l3 (l4 * x1) σ) fun x3 =>
    r_43 l0 l2 l3 (l4 + 1) x3
set_option maxHeartbeats 4000000 in
set_option maxRecDepth 100000 in
theorem X11_replace_43_s_W {σ : gS} {l0 : Nat} {l2 : Int32} {l3 : Nat} {l4 : Int32} {σz : gS} {ls : Array Slot} (hC : gC E D A p R s m args meth c cX11_replace 5 RX11 "replace" 7 168) (hQ : gQV E D A p l e R s m args below meth c Q cX11_replace σz) {r_43 : Nat → Int32 → Nat → Int32 → gS → Option gS} (h_43 : ∀ {l0 : Nat} {l2 : Int32} {l3 : Nat} {l4 : Int32} {σ : gS} {H : Heap} {locs : List Loc} {cells slots : Nat} {ls : Array Slot}, r_43 l0 l2 l3 l4 σ = some σz → gW E D A s σ H locs → lv_has ls 5 [(0, .ref l0), (2, .int l2), (3, .ref l3), (4, .int l4)] → W p l e R s m args below meth c H locs cells slots Q (F0 m 43 ls [])) (hf : X11_replace_43_s E r_43 l0 l2 l3 l4 σ = some σz) (hw : gW E D A s σ H locs) (hl : lv_has ls 5 [(0, .ref l0), (2, .int l2), (3, .ref l3), (4, .int l4)]) : W p l e R s m args below meth c H locs cells slots Q (F0 m 43 ls []) := by
  have hC0 := hC
  obtain ⟨hx, hb, hml, hown, hts, -⟩ := hC0
  unfold X11_replace_43_s at hf
  refine lv_iload hx hb dX11_replace_43 (lv_at hl 3 rfl) ?_
  refine lv_iload_n hx hb dX11_replace_45 rfl (lv_at hl 1 rfl) ?_
  refine lv_icmp_ge (tgt := 67) hx hb dX11_replace_46 (by decide) (fun c6 => ?_) (fun c6 => ?_)
  · replace hf := (if_pos c6).symm.trans hf
    cases hf
    exact hQ _ _ _ _ _ _ dX11_replace_67 hw
  · replace hf := (if_neg c6).symm.trans hf
    refine lv_aload_n hx hb dX11_replace_49 rfl (lv_at hl 0 rfl) ?_
    refine lv_aload_n hx hb dX11_replace_50 rfl (lv_at hl 2 rfl) ?_
    refine lv_iload hx hb dX11_replace_51 (lv_at hl 3 rfl) ?_
    refine lv_aload_n hx hb dX11_replace_53 rfl (lv_at hl 0 rfl) ?_
    obtain ⟨x1, h2, hf⟩ := ob_some hf
    refine rI_fl_X11_17 hC hw h2 dX11_replace_54 ?_
    refine lv_imul hx hb dX11_replace_57 ?_
    obtain ⟨_, h5, hf⟩ := ob_some hf
    obtain ⟨x3, h4, hf⟩ := ob_some hf
    refine gg_cVV (As := [.ref l3, .int (l4 * x1)]) hC hw (X11_appendRow_M l E D A h4) h5 rfl g_ml_X11_44 hd_X11_appendRow (Nat.le_of_ble_eq_true rfl) (Nat.le_of_ble_eq_true rfl) hl.1 rfl (Nat.le_of_ble_eq_true rfl) dX11_replace_58 (fun H locs cells slots hw => ?_)
    refine lv_iinc (v := (l4 + 1)) (lv' := [(4, .int (l4 + 1)), (0, .ref l0), (2, .int l2), (3, .ref l3)]) hx hb dX11_replace_61 hl (k := 3) rfl rfl (by decide) rfl (fun ls hl => ?_)
    refine lv_goto (tgt := 43) hx hb dX11_replace_64 (by decide) ?_
    exact h_43 hf hw (lv_sub hl [1, 2, 3, 0] rfl)
def X11_replace_43 (E : gE) : Nat → Nat → Int32 → Nat → Int32 → gS → Option gS
  | 0 => fun _ _ _ _ _ => none
  | n + 1 => X11_replace_43_s E (X11_replace_43 E n)
theorem X11_replace_43_W {σz : gS} (hC : gC E D A p R s m args meth c cX11_replace 5 RX11 "replace" 7 168) (hQ : gQV E D A p l e R s m args below meth c Q cX11_replace σz) : ∀ (n : Nat), ∀ {l0 : Nat} {l2 : Int32} {l3 : Nat} {l4 : Int32} {σ : gS} {H : Heap} {locs : List Loc} {cells slots : Nat} {ls : Array Slot}, X11_replace_43 E n l0 l2 l3 l4 σ = some σz → gW E D A s σ H locs → lv_has ls 5 [(0, .ref l0), (2, .int l2), (3, .ref l3), (4, .int l4)] → W p l e R s m args below meth c H locs cells slots Q (F0 m 43 ls []) := by
  intro n
  induction n with
  | zero =>
    intros
    rename_i hf _ _
    exact absurd hf (fun h => by cases (show (none : Option gS) = some σz from h))
  | succ n ih =>
    intros
    rename_i hf hw hl
    exact X11_replace_43_s_W hC hQ ih hf hw hl

def X11_replace_15_s (E : gE) (r_15 : Nat → Int32 → Nat → Int32 → gS → Option gS) (l0 : Nat) (l2 : Int32) (l3 : Nat) (l4 : Int32) (σ : gS) : Option gS :=
  ob (gfI σ l0 9 1) fun x7 =>
  if x7 ≤ l4 then
    X11_replace_43 E (gN E) l0 l2 l3 (0 : Int32) σ
  else
    ob (gfR σ l0 9 0) fun x9 =>
    ob (graR E 4 σ x9 l4) fun x11 =>
    ob (gcl σ x11 0) fun _ =>
    ob (X1_clear_f E x11 σ) fun x13 =>
    r_15 l0 l2 l3 (l4 + 1) x13
set_option maxHeartbeats 4000000 in
set_option maxRecDepth 100000 in
theorem X11_replace_15_s_W {σ : gS} {l0 : Nat} {l2 : Int32} {l3 : Nat} {l4 : Int32} {σz : gS} {ls : Array Slot} (hC : gC E D A p R s m args meth c cX11_replace 5 RX11 "replace" 7 168) (hQ : gQV E D A p l e R s m args below meth c Q cX11_replace σz) {r_15 : Nat → Int32 → Nat → Int32 → gS → Option gS} (h_15 : ∀ {l0 : Nat} {l2 : Int32} {l3 : Nat} {l4 : Int32} {σ : gS} {H : Heap} {locs : List Loc} {cells slots : Nat} {ls : Array Slot}, r_15 l0 l2 l3 l4 σ = some σz → gW E D A s σ H locs → lv_has ls 5 [(0, .ref l0), (2, .int l2), (3, .ref l3), (4, .int l4)] → W p l e R s m args below meth c H locs cells slots Q (F0 m 15 ls [])) (hf : X11_replace_15_s E r_15 l0 l2 l3 l4 σ = some σz) (hw : gW E D A s σ H locs) (hl : lv_has ls 5 [(0, .ref l0), (2, .int l2), (3, .ref l3), (4, .int l4)]) : W p l e R s m args below meth c H locs cells slots Q (F0 m 15 ls []) := by
  have hC0 := hC
  obtain ⟨hx, hb, hml, hown, hts, -⟩ := hC0
  unfold X11_replace_15_s at hf
  refine lv_iload hx hb dX11_replace_15 (lv_at hl 3 rfl) ?_
  refine lv_aload_n hx hb dX11_replace_17 rfl (lv_at hl 0 rfl) ?_
  obtain ⟨x7, h8, hf⟩ := ob_some hf
  refine rI_fl_X11_17 hC hw h8 dX11_replace_18 ?_
  refine lv_icmp_ge (tgt := 40) hx hb dX11_replace_21 (by decide) (fun c16 => ?_) (fun c16 => ?_)
  · replace hf := (if_pos c16).symm.trans hf
    refine lv_iconst (v := 0) hx hb dX11_replace_40 (by decide) ?_
    refine lv_istore (lv' := [(4, .int (0 : Int32)), (0, .ref l0), (2, .int l2), (3, .ref l3)]) hx hb dX11_replace_41 hl (by decide) rfl (fun ls hl => ?_)
    exact X11_replace_43_W hC hQ (gN E) hf hw (lv_sub hl [1, 2, 3, 0] rfl)
  · replace hf := (if_neg c16).symm.trans hf
    refine lv_aload_n hx hb dX11_replace_24 rfl (lv_at hl 0 rfl) ?_
    obtain ⟨x9, h10, hf⟩ := ob_some hf
    refine rR_fl_X11_11 hC hw h10 dX11_replace_25 ?_
    refine lv_iload hx hb dX11_replace_28 (lv_at hl 3 rfl) ?_
    obtain ⟨x11, h12, hf⟩ := ob_some hf
    refine gg_aldR hC hw h12 rfl rfl dX11_replace_30 ?_
    obtain ⟨_, h15, hf⟩ := ob_some hf
    obtain ⟨x13, h14, hf⟩ := ob_some hf
    refine gg_cVV (As := []) hC hw (X1_clear_M l E D A h14) h15 rfl g_ml_X11_43 hd_X1_clear (Nat.le_of_ble_eq_true rfl) (Nat.le_of_ble_eq_true rfl) hl.1 rfl (Nat.le_of_ble_eq_true rfl) dX11_replace_31 (fun H locs cells slots hw => ?_)
    refine lv_iinc (v := (l4 + 1)) (lv' := [(4, .int (l4 + 1)), (0, .ref l0), (2, .int l2), (3, .ref l3)]) hx hb dX11_replace_34 hl (k := 3) rfl rfl (by decide) rfl (fun ls hl => ?_)
    refine lv_goto (tgt := 15) hx hb dX11_replace_37 (by decide) ?_
    exact h_15 hf hw (lv_sub hl [1, 2, 3, 0] rfl)
def X11_replace_15 (E : gE) : Nat → Nat → Int32 → Nat → Int32 → gS → Option gS
  | 0 => fun _ _ _ _ _ => none
  | n + 1 => X11_replace_15_s E (X11_replace_15 E n)
theorem X11_replace_15_W {σz : gS} (hC : gC E D A p R s m args meth c cX11_replace 5 RX11 "replace" 7 168) (hQ : gQV E D A p l e R s m args below meth c Q cX11_replace σz) : ∀ (n : Nat), ∀ {l0 : Nat} {l2 : Int32} {l3 : Nat} {l4 : Int32} {σ : gS} {H : Heap} {locs : List Loc} {cells slots : Nat} {ls : Array Slot}, X11_replace_15 E n l0 l2 l3 l4 σ = some σz → gW E D A s σ H locs → lv_has ls 5 [(0, .ref l0), (2, .int l2), (3, .ref l3), (4, .int l4)] → W p l e R s m args below meth c H locs cells slots Q (F0 m 15 ls []) := by
  intro n
  induction n with
  | zero =>
    intros
    rename_i hf _ _
    exact absurd hf (fun h => by cases (show (none : Option gS) = some σz from h))
  | succ n ih =>
    intros
    rename_i hf hw hl
    exact X11_replace_15_s_W hC hQ ih hf hw hl

def X11_replace (E : gE) (l0 : Nat) (l1 : Int32) (l2 : Int32) (l3 : Nat) (σ : gS) : Option gS :=
  ob (gpf E σ l0 9 1 (.int l1)) fun σ17 =>
  ob (gfR σ17 l0 9 2) fun x19 =>
  ob (gcl σ17 x19 3) fun _ =>
  ob (X4_clear_f E x19 σ17) fun x21 =>
  X11_replace_15 E (gN E) l0 l2 l3 (0 : Int32) x21
set_option maxHeartbeats 4000000 in
set_option maxRecDepth 100000 in
theorem X11_replace_W {σ : gS} {l0 : Nat} {l1 : Int32} {l2 : Int32} {l3 : Nat} {σz : gS} {ls : Array Slot} (hC : gC E D A p R s m args meth c cX11_replace 5 RX11 "replace" 7 168) (hQ : gQV E D A p l e R s m args below meth c Q cX11_replace σz) (hf : X11_replace E l0 l1 l2 l3 σ = some σz) (hw : gW E D A s σ H locs) (hl : lv_has ls 5 [(0, .ref l0), (1, .int l1), (2, .int l2), (3, .ref l3)]) : W p l e R s m args below meth c H locs cells slots Q (F0 m 0 ls []) := by
  have hC0 := hC
  obtain ⟨hx, hb, hml, hown, hts, -⟩ := hC0
  unfold X11_replace at hf
  refine lv_aload_n hx hb dX11_replace_0 rfl (lv_at hl 0 rfl) ?_
  refine lv_iload_n hx hb dX11_replace_1 rfl (lv_at hl 1 rfl) ?_
  obtain ⟨σ17, h18, hf⟩ := ob_some hf
  refine p_fl_X11_17 hC hw h18 rfl rfl dX11_replace_2 (fun H locs hw => ?_)
  refine lv_aload_n hx hb dX11_replace_5 rfl (lv_at hl 0 rfl) ?_
  obtain ⟨x19, h20, hf⟩ := ob_some hf
  refine rR_fl_X11_24 hC hw h20 dX11_replace_6 ?_
  obtain ⟨_, h23, hf⟩ := ob_some hf
  obtain ⟨x21, h22, hf⟩ := ob_some hf
  refine gg_cVV (As := []) hC hw (X4_clear_M l E D A h22) h23 rfl g_ml_X11_40 hd_X4_clear (Nat.le_of_ble_eq_true rfl) (Nat.le_of_ble_eq_true rfl) hl.1 rfl (Nat.le_of_ble_eq_true rfl) dX11_replace_9 (fun H locs cells slots hw => ?_)
  refine lv_iconst (v := 0) hx hb dX11_replace_12 (by decide) ?_
  refine lv_istore (lv' := [(4, .int (0 : Int32)), (0, .ref l0), (1, .int l1), (2, .int l2), (3, .ref l3)]) hx hb dX11_replace_13 hl (by decide) rfl (fun ls hl => ?_)
  exact X11_replace_15_W hC hQ (gN E) hf hw (lv_sub hl [1, 3, 4, 0] rfl)

def X11_replace_f (E : gE) (l0 : Nat) (l1 : Int32) (l2 : Int32) (l3 : Nat) (σ : gS) : Option gS := X11_replace E l0 l1 l2 l3 σ
set_option maxRecDepth 100000 in
theorem X11_replace_M (l : Launch) (E : gE) (D : va_G) (A : Nat → Prop) {l0 : Nat} {l1 : Int32} {l2 : Int32} {l3 : Nat} {σ : gS} {σz : gS} (hf : X11_replace_f E l0 l1 l2 l3 σ = some σz) : gCV l E D A yX11_replace cX11_replace 5 7 168 none [.ref l0, .int l1, .int l2, .ref l3] σ σz := by
  refine gg_entV (own := RX11) (nm := "replace") (by decide +kernel) rfl rfl (Nat.le_of_ble_eq_true rfl) rfl ?_
  intro p e R s m args below meth c Q ls hC hw hQ hl
  have hl : lv_has ls 5 [(0, .ref l0), (1, .int l1), (2, .int l2), (3, .ref l3)] := hl
  exact X11_replace_W hC hQ hf hw hl

end MA3
