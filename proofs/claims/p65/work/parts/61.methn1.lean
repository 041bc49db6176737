/-! decompiled: L_most, L_cell, L_add, L_end, L_alike, L_all, L_say, L_areColumns -/
section MN1
variable {p : Program} {l : Launch} {e : Env} {R : Room} {s : State} {m : MethodId} {args : Array Value} {below : List Frame} {meth : Method} {c : Code} {H : Heap} {locs : List Loc} {cells slots : Nat} {Q : State → Prop} {E : gE} {D : va_G} {A : Nat → Prop}
def L_most (E : gE) (σ : gS) (l0 : Int32) (l1 : Int32) : Option Int32 :=
  ob (gnz l1) fun _ =>
  some ((l0 &&& (2147483647 : Int32)) - (l0 &&& (2147483647 : Int32)) / l1 * l1)
set_option maxHeartbeats 4000000 in
set_option maxRecDepth 100000 in
theorem L_most_W {σ : gS} {l0 : Int32} {l1 : Int32} {res : Int32} {ls : Array Slot} (hC : gC E D A p R s m args meth c cL_most 2 RL "most" 0 0) (hQ : gQI E D A p l e R s m args below meth c Q cL_most FieldType.int (res, σ)) (hst : l.stackTraces = false) (hf : L_most E σ l0 l1 = some res) (hw : gW E D A s σ H locs) (hl : lv_has ls 2 [(0, .int l0), (1, .int l1)]) : W p l e R s m args below meth c H locs cells slots Q (F0 m 0 ls []) := by
  have hC0 := hC
  obtain ⟨hx, hb, hml, hown, hts, -⟩ := hC0
  unfold L_most at hf
  refine lv_iload_n hx hb dL_most_0 rfl (lv_at hl 0 rfl) ?_
  refine lv_ldc (v := 2147483647) hx hb hown (hts _ kc_L_7) dL_most_1 ?_
  refine lv_iand hx hb dL_most_3 ?_
  refine lv_iload_n hx hb dL_most_4 rfl (lv_at hl 1 rfl) ?_
  obtain ⟨_, h1, hf⟩ := ob_some hf
  refine lv_irem hx hb dL_most_5 (gnz_some h1) ?_
  cases hf
  exact hQ _ _ _ _ _ _ dL_most_6 rfl hw

def L_most_f (E : gE) (σ : gS) (l0 : Int32) (l1 : Int32) : Option Int32 := L_most E σ l0 l1
set_option maxRecDepth 100000 in
theorem L_most_M (l : Launch) (hst : l.stackTraces = false) (E : gE) (D : va_G) (A : Nat → Prop) {l0 : Int32} {l1 : Int32} {σ : gS} {res : Int32} (hf : L_most_f E σ l0 l1 = some res) : gCI l E D A yL_most cL_most 2 0 0 (some FieldType.int) [.int l0, .int l1] σ (res, σ) := by
  refine gg_entI (own := RL) (nm := "most") (ty := FieldType.int) (by decide +kernel) rfl rfl (Nat.le_of_ble_eq_true rfl) rfl ?_
  intro p e R s m args below meth c Q ls hC hw hQ hl
  have hl : lv_has ls 2 [(0, .int l0), (1, .int l1)] := hl
  exact L_most_W hC hQ hst hf hw hl

def L_cell (E : gE) (σ : gS) (l0 : Nat) (l1 : Int32) : Option Int32 :=
  ob (gal E 0 σ l0) fun x1 =>
  if x1 ≤ l1 then
    some ((37 : Int32) * l1)
  else
    ob (graI E 0 σ l0 l1) fun x3 =>
    some x3
set_option maxHeartbeats 4000000 in
set_option maxRecDepth 100000 in
theorem L_cell_W {σ : gS} {l0 : Nat} {l1 : Int32} {res : Int32} {ls : Array Slot} (hC : gC E D A p R s m args meth c cL_cell 2 RL "cell" 0 0) (hQ : gQI E D A p l e R s m args below meth c Q cL_cell FieldType.int (res, σ)) (hst : l.stackTraces = false) (hf : L_cell E σ l0 l1 = some res) (hw : gW E D A s σ H locs) (hl : lv_has ls 2 [(0, .ref l0), (1, .int l1)]) : W p l e R s m args below meth c H locs cells slots Q (F0 m 0 ls []) := by
  have hC0 := hC
  obtain ⟨hx, hb, hml, hown, hts, -⟩ := hC0
  unfold L_cell at hf
  refine lv_iload_n hx hb dL_cell_0 rfl (lv_at hl 1 rfl) ?_
  refine lv_aload_n hx hb dL_cell_1 rfl (lv_at hl 0 rfl) ?_
  obtain ⟨x1, h2, hf⟩ := ob_some hf
  refine gg_alen hC hw h2 (Or.inr rfl) dL_cell_2 ?_
  refine lv_icmp_ge (tgt := 12) hx hb dL_cell_3 (by decide) (fun c5 => ?_) (fun c5 => ?_)
  · replace hf := (if_pos c5).symm.trans hf
    refine lv_bipush (v := 37) hx hb dL_cell_12 (by decide) ?_
    refine lv_iload_n hx hb dL_cell_14 rfl (lv_at hl 1 rfl) ?_
    refine lv_imul hx hb dL_cell_15 ?_
    cases hf
    exact hQ _ _ _ _ _ _ dL_cell_16 rfl hw
  · replace hf := (if_neg c5).symm.trans hf
    refine lv_aload_n hx hb dL_cell_6 rfl (lv_at hl 0 rfl) ?_
    refine lv_iload_n hx hb dL_cell_7 rfl (lv_at hl 1 rfl) ?_
    obtain ⟨x3, h4, hf⟩ := ob_some hf
    refine gg_aldI hC hw h4 dL_cell_8 ?_
    refine lv_goto (tgt := 16) hx hb dL_cell_9 (by decide) ?_
    cases hf
    exact hQ _ _ _ _ _ _ dL_cell_16 rfl hw

def L_cell_f (E : gE) (σ : gS) (l0 : Nat) (l1 : Int32) : Option Int32 := L_cell E σ l0 l1
set_option maxRecDepth 100000 in
theorem L_cell_M (l : Launch) (hst : l.stackTraces = false) (E : gE) (D : va_G) (A : Nat → Prop) {l0 : Nat} {l1 : Int32} {σ : gS} {res : Int32} (hf : L_cell_f E σ l0 l1 = some res) : gCI l E D A yL_cell cL_cell 2 0 0 (some FieldType.int) [.ref l0, .int l1] σ (res, σ) := by
  refine gg_entI (own := RL) (nm := "cell") (ty := FieldType.int) (by decide +kernel) rfl rfl (Nat.le_of_ble_eq_true rfl) rfl ?_
  intro p e R s m args below meth c Q ls hC hw hQ hl
  have hl : lv_has ls 2 [(0, .ref l0), (1, .int l1)] := hl
  exact L_cell_W hC hQ hst hf hw hl

def L_add_65_s (E : gE) (r_65 : Nat → Int32 → gS → Option gS) (l1 : Nat) (l3 : Int32) (σ : gS) : Option gS :=
  if (5 : Int32) ≤ l3 then
    some σ
  else
    ob (gwaI E σ l1 l3 (0 : Int32)) fun σ1 =>
    r_65 l1 (l3 + 1) σ1
set_option maxHeartbeats 4000000 in
set_option maxRecDepth 100000 in
theorem L_add_65_s_W {σ : gS} {l1 : Nat} {l3 : Int32} {σz : gS} {ls : Array Slot} (hC : gC E D A p R s m args meth c cL_add 4 RL "add" 2 47) (hQ : gQV E D A p l e R s m args below meth c Q cL_add σz) (hst : l.stackTraces = false) {r_65 : Nat → Int32 → gS → Option gS} (h_65 : ∀ {l1 : Nat} {l3 : Int32} {σ : gS} {H : Heap} {locs : List Loc} {cells slots : Nat} {ls : Array Slot}, r_65 l1 l3 σ = some σz → gW E D A s σ H locs → lv_has ls 4 [(1, .ref l1), (3, .int l3)] → W p l e R s m args below meth c H locs cells slots Q (F0 m 65 ls [])) (hf : L_add_65_s E r_65 l1 l3 σ = some σz) (hw : gW E D A s σ H locs) (hl : lv_has ls 4 [(1, .ref l1), (3, .int l3)]) : W p l e R s m args below meth c H locs cells slots Q (F0 m 65 ls []) := by
  have hC0 := hC
  obtain ⟨hx, hb, hml, hown, hts, -⟩ := hC0
  unfold L_add_65_s at hf
  refine lv_iload_n hx hb dL_add_65 rfl (lv_at hl 1 rfl) ?_
  refine lv_iconst (v := 5) hx hb dL_add_66 (by decide) ?_
  refine lv_icmp_ge (tgt := 80) hx hb dL_add_67 (by decide) (fun c3 => ?_) (fun c3 => ?_)
  · replace hf := (if_pos c3).symm.trans hf
    cases hf
    exact hQ _ _ _ _ _ _ dL_add_80 hw
  · replace hf := (if_neg c3).symm.trans hf
    refine lv_aload_n hx hb dL_add_70 rfl (lv_at hl 0 rfl) ?_
    refine lv_iload_n hx hb dL_add_71 rfl (lv_at hl 1 rfl) ?_
    refine lv_iconst (v := 0) hx hb dL_add_72 (by decide) ?_
    obtain ⟨σ1, h2, hf⟩ := ob_some hf
    refine gg_astI hC hw h2 dL_add_73 (fun H locs hw => ?_)
    refine lv_iinc (v := (l3 + 1)) (lv' := [(3, .int (l3 + 1)), (1, .ref l1)]) hx hb dL_add_74 hl (k := 1) rfl rfl (by decide) rfl (fun ls hl => ?_)
    refine lv_goto (tgt := 65) hx hb dL_add_77 (by decide) ?_
    exact h_65 hf hw (lv_sub hl [1, 0] rfl)
def L_add_65 (E : gE) : Nat → Nat → Int32 → gS → Option gS
  | 0 => fun _ _ _ => none
  | n + 1 => L_add_65_s E (L_add_65 E n)
theorem L_add_65_W {σz : gS} (hC : gC E D A p R s m args meth c cL_add 4 RL "add" 2 47) (hQ : gQV E D A p l e R s m args below meth c Q cL_add σz) (hst : l.stackTraces = false) : ∀ (n : Nat), ∀ {l1 : Nat} {l3 : Int32} {σ : gS} {H : Heap} {locs : List Loc} {cells slots : Nat} {ls : Array Slot}, L_add_65 E n l1 l3 σ = some σz → gW E D A s σ H locs → lv_has ls 4 [(1, .ref l1), (3, .int l3)] → W p l e R s m args below meth c H locs cells slots Q (F0 m 65 ls []) := by
  intro n
  induction n with
  | zero =>
    intros
    rename_i hf _ _
    exact absurd hf (fun h => by cases (show (none : Option gS) = some σz from h))
  | succ n ih =>
    intros
    rename_i hf hw hl
    exact L_add_65_s_W hC hQ hst ih hf hw hl

def L_add (E : gE) (l0 : Nat) (l1 : Nat) (l2 : Int32) (σ : gS) : Option gS :=
  ob (graI E 0 σ l1 (5 : Int32)) fun x4 =>
  ob (graI E 0 σ l1 ((x4 - x4 / (20 : Int32) * (20 : Int32)) / (4 : Int32))) fun x6 =>
  ob (graI E 0 σ l1 (5 : Int32)) fun x8 =>
  ob (gwaI E σ l1 ((x4 - x4 / (20 : Int32) * (20 : Int32)) / (4 : Int32)) (x6 ||| (l2 <<< (((24 : Int32) - ((8 : Int32) * (x8 - x8 / (4 : Int32) * (4 : Int32)))) &&& 31)))) fun σ10 =>
  ob (graI E 0 σ10 l1 (5 : Int32)) fun x12 =>
  ob (gwaI E σ10 l1 (5 : Int32) (x12 + (1 : Int32))) fun σ14 =>
  ob (graI E 0 σ14 l1 (5 : Int32)) fun x16 =>
  if (x16 - x16 / (20 : Int32) * (20 : Int32)) = 0 then
    ob (graI E 0 σ14 l1 (0 : Int32)) fun x18 =>
    ob (graI E 0 σ14 l1 (1 : Int32)) fun x20 =>
    ob (graI E 0 σ14 l1 (2 : Int32)) fun x22 =>
    ob (graI E 0 σ14 l1 (3 : Int32)) fun x24 =>
    ob (graI E 0 σ14 l1 (4 : Int32)) fun x26 =>
    ob (gcl σ14 l0 10) fun _ =>
    ob (X12_appendText_f E l0 x18 x20 x22 x24 x26 σ14) fun x28 =>
    L_add_65 E (gN E) l1 (0 : Int32) x28.2
  else
    some σ14
set_option maxHeartbeats 4000000 in
set_option maxRecDepth 100000 in
theorem L_add_W {σ : gS} {l0 : Nat} {l1 : Nat} {l2 : Int32} {σz : gS} {ls : Array Slot} (hC : gC E D A p R s m args meth c cL_add 4 RL "add" 2 47) (hQ : gQV E D A p l e R s m args below meth c Q cL_add σz) (hst : l.stackTraces = false) (hf : L_add E l0 l1 l2 σ = some σz) (hw : gW E D A s σ H locs) (hl : lv_has ls 4 [(0, .ref l0), (1, .ref l1), (2, .int l2)]) : W p l e R s m args below meth c H locs cells slots Q (F0 m 0 ls []) := by
  have hC0 := hC
  obtain ⟨hx, hb, hml, hown, hts, -⟩ := hC0
  unfold L_add at hf
  refine lv_aload_n hx hb dL_add_0 rfl (lv_at hl 1 rfl) ?_
  refine lv_aload_n hx hb dL_add_1 rfl (lv_at hl 1 rfl) ?_
  refine lv_iconst (v := 5) hx hb dL_add_2 (by decide) ?_
  obtain ⟨x4, h5, hf⟩ := ob_some hf
  refine gg_aldI hC hw h5 dL_add_3 ?_
  refine lv_bipush (v := 20) hx hb dL_add_4 (by decide) ?_
  refine lv_irem hx hb dL_add_6 (by decide) ?_
  refine lv_iconst (v := 4) hx hb dL_add_7 (by decide) ?_
  refine lv_idiv hx hb dL_add_8 (by decide) ?_
  refine lv_dup2_11 hx hb dL_add_9 rfl rfl ?_
  obtain ⟨x6, h7, hf⟩ := ob_some hf
  refine gg_aldI hC hw h7 dL_add_10 ?_
  refine lv_iload_n hx hb dL_add_11 rfl (lv_at hl 2 rfl) ?_
  refine lv_bipush (v := 24) hx hb dL_add_12 (by decide) ?_
  refine lv_bipush (v := 8) hx hb dL_add_14 (by decide) ?_
  refine lv_aload_n hx hb dL_add_16 rfl (lv_at hl 1 rfl) ?_
  refine lv_iconst (v := 5) hx hb dL_add_17 (by decide) ?_
  obtain ⟨x8, h9, hf⟩ := ob_some hf
  refine gg_aldI hC hw h9 dL_add_18 ?_
  refine lv_iconst (v := 4) hx hb dL_add_19 (by decide) ?_
  refine lv_irem hx hb dL_add_20 (by decide) ?_
  refine lv_imul hx hb dL_add_21 ?_
  refine lv_isub hx hb dL_add_22 ?_
  refine lv_ishl hx hb dL_add_23 ?_
  refine lv_ior hx hb dL_add_24 ?_
  obtain ⟨σ10, h11, hf⟩ := ob_some hf
  refine gg_astI hC hw h11 dL_add_25 (fun H locs hw => ?_)
  refine lv_aload_n hx hb dL_add_26 rfl (lv_at hl 1 rfl) ?_
  refine lv_iconst (v := 5) hx hb dL_add_27 (by decide) ?_
  refine lv_dup2_11 hx hb dL_add_28 rfl rfl ?_
  obtain ⟨x12, h13, hf⟩ := ob_some hf
  refine gg_aldI hC hw h13 dL_add_29 ?_
  refine lv_iconst (v := 1) hx hb dL_add_30 (by decide) ?_
  refine lv_iadd hx hb dL_add_31 ?_
  obtain ⟨σ14, h15, hf⟩ := ob_some hf
  refine gg_astI hC hw h15 dL_add_32 (fun H locs hw => ?_)
  refine lv_aload_n hx hb dL_add_33 rfl (lv_at hl 1 rfl) ?_
  refine lv_iconst (v := 5) hx hb dL_add_34 (by decide) ?_
  obtain ⟨x16, h17, hf⟩ := ob_some hf
  refine gg_aldI hC hw h17 dL_add_35 ?_
  refine lv_bipush (v := 20) hx hb dL_add_36 (by decide) ?_
  refine lv_irem hx hb dL_add_38 (by decide) ?_
  refine lv_if_eq (tgt := 43) hx hb dL_add_39 (by decide) (fun c31 => ?_) (fun c31 => ?_)
  · replace hf := (if_pos c31).symm.trans hf
    refine lv_aload_n hx hb dL_add_43 rfl (lv_at hl 0 rfl) ?_
    refine lv_aload_n hx hb dL_add_44 rfl (lv_at hl 1 rfl) ?_
    refine lv_iconst (v := 0) hx hb dL_add_45 (by decide) ?_
    obtain ⟨x18, h19, hf⟩ := ob_some hf
    refine gg_aldI hC hw h19 dL_add_46 ?_
    refine lv_aload_n hx hb dL_add_47 rfl (lv_at hl 1 rfl) ?_
    refine lv_iconst (v := 1) hx hb dL_add_48 (by decide) ?_
    obtain ⟨x20, h21, hf⟩ := ob_some hf
    refine gg_aldI hC hw h21 dL_add_49 ?_
    refine lv_aload_n hx hb dL_add_50 rfl (lv_at hl 1 rfl) ?_
    refine lv_iconst (v := 2) hx hb dL_add_51 (by decide) ?_
    obtain ⟨x22, h23, hf⟩ := ob_some hf
    refine gg_aldI hC hw h23 dL_add_52 ?_
    refine lv_aload_n hx hb dL_add_53 rfl (lv_at hl 1 rfl) ?_
    refine lv_iconst (v := 3) hx hb dL_add_54 (by decide) ?_
    obtain ⟨x24, h25, hf⟩ := ob_some hf
    refine gg_aldI hC hw h25 dL_add_55 ?_
    refine lv_aload_n hx hb dL_add_56 rfl (lv_at hl 1 rfl) ?_
    refine lv_iconst (v := 4) hx hb dL_add_57 (by decide) ?_
    obtain ⟨x26, h27, hf⟩ := ob_some hf
    refine gg_aldI hC hw h27 dL_add_58 ?_
    obtain ⟨_, h30, hf⟩ := ob_some hf
    obtain ⟨x28, h29, hf⟩ := ob_some hf
    refine gg_cVI (As := [.int x18, .int x20, .int x22, .int x24, .int x26]) hC hw (X12_appendText_M l E D A h29) h30 rfl g_ml_L_8 hd_X12_appendText (Nat.le_of_ble_eq_true rfl) (Nat.le_of_ble_eq_true rfl) hl.1 rfl (Nat.le_of_ble_eq_true rfl) dL_add_59 (fun H locs cells slots hw => ?_)
    refine lv_pop hx hb dL_add_62 rfl ?_
    refine lv_iconst (v := 0) hx hb dL_add_63 (by decide) ?_
    refine lv_istore_n (lv' := [(3, .int (0 : Int32)), (0, .ref l0), (1, .ref l1), (2, .int l2)]) hx hb dL_add_64 rfl hl (by decide) rfl (fun ls hl => ?_)
    exact L_add_65_W hC hQ hst (gN E) hf hw (lv_sub hl [2, 0] rfl)
  · replace hf := (if_neg c31).symm.trans hf
    cases hf
    exact hQ _ _ _ _ _ _ dL_add_42 hw

def L_add_f (E : gE) (l0 : Nat) (l1 : Nat) (l2 : Int32) (σ : gS) : Option gS := L_add E l0 l1 l2 σ
set_option maxRecDepth 100000 in
theorem L_add_M (l : Launch) (hst : l.stackTraces = false) (E : gE) (D : va_G) (A : Nat → Prop) {l0 : Nat} {l1 : Nat} {l2 : Int32} {σ : gS} {σz : gS} (hf : L_add_f E l0 l1 l2 σ = some σz) : gCV l E D A yL_add cL_add 4 2 47 none [.ref l0, .ref l1, .int l2] σ σz := by
  refine gg_entV (own := RL) (nm := "add") (by decide +kernel) rfl rfl (Nat.le_of_ble_eq_true rfl) rfl ?_
  intro p e R s m args below meth c Q ls hC hw hQ hl
  have hl : lv_has ls 4 [(0, .ref l0), (1, .ref l1), (2, .int l2)] := hl
  exact L_add_W hC hQ hst hf hw hl

def L_end_4_s (E : gE) (r_4 : Nat → Nat → Int32 → gS → Option (Int32 × gS)) (l0 : Nat) (l1 : Nat) (l2 : Int32) (σ : gS) : Option (Int32 × gS) :=
  ob (graI E 0 σ l1 (5 : Int32)) fun x1 =>
  if (x1 - x1 / (20 : Int32) * (20 : Int32)) = 0 then
    ob (gwaI E σ l1 (5 : Int32) (0 : Int32)) fun σ3 =>
    some (l2, σ3)
  else
    ob (L_add_f E l0 l1 (32 : Int32) σ) fun x5 =>
    r_4 l0 l1 l2 x5
set_option maxHeartbeats 4000000 in
set_option maxRecDepth 100000 in
theorem L_end_4_s_W {σ : gS} {l0 : Nat} {l1 : Nat} {l2 : Int32} {res : (Int32 × gS)} {ls : Array Slot} (hC : gC E D A p R s m args meth c cL_end 3 RL "end" 3 70) (hQ : gQI E D A p l e R s m args below meth c Q cL_end FieldType.int res) (hst : l.stackTraces = false) {r_4 : Nat → Nat → Int32 → gS → Option (Int32 × gS)} (h_4 : ∀ {l0 : Nat} {l1 : Nat} {l2 : Int32} {σ : gS} {H : Heap} {locs : List Loc} {cells slots : Nat} {ls : Array Slot}, r_4 l0 l1 l2 σ = some res → gW E D A s σ H locs → lv_has ls 3 [(0, .ref l0), (1, .ref l1), (2, .int l2)] → W p l e R s m args below meth c H locs cells slots Q (F0 m 4 ls [])) (hf : L_end_4_s E r_4 l0 l1 l2 σ = some res) (hw : gW E D A s σ H locs) (hl : lv_has ls 3 [(0, .ref l0), (1, .ref l1), (2, .int l2)]) : W p l e R s m args below meth c H locs cells slots Q (F0 m 4 ls []) := by
  have hC0 := hC
  obtain ⟨hx, hb, hml, hown, hts, -⟩ := hC0
  unfold L_end_4_s at hf
  refine lv_aload_n hx hb dL_end_4 rfl (lv_at hl 1 rfl) ?_
  refine lv_iconst (v := 5) hx hb dL_end_5 (by decide) ?_
  obtain ⟨x1, h2, hf⟩ := ob_some hf
  refine gg_aldI hC hw h2 dL_end_6 ?_
  refine lv_bipush (v := 20) hx hb dL_end_7 (by decide) ?_
  refine lv_irem hx hb dL_end_9 (by decide) ?_
  refine lv_if_eq (tgt := 23) hx hb dL_end_10 (by decide) (fun c7 => ?_) (fun c7 => ?_)
  · replace hf := (if_pos c7).symm.trans hf
    refine lv_aload_n hx hb dL_end_23 rfl (lv_at hl 1 rfl) ?_
    refine lv_iconst (v := 5) hx hb dL_end_24 (by decide) ?_
    refine lv_iconst (v := 0) hx hb dL_end_25 (by decide) ?_
    obtain ⟨σ3, h4, hf⟩ := ob_some hf
    refine gg_astI hC hw h4 dL_end_26 (fun H locs hw => ?_)
    refine lv_iload_n hx hb dL_end_27 rfl (lv_at hl 2 rfl) ?_
    cases hf
    exact hQ _ _ _ _ _ _ dL_end_28 rfl hw
  · replace hf := (if_neg c7).symm.trans hf
    refine lv_aload_n hx hb dL_end_13 rfl (lv_at hl 0 rfl) ?_
    refine lv_aload_n hx hb dL_end_14 rfl (lv_at hl 1 rfl) ?_
    refine lv_bipush (v := 32) hx hb dL_end_15 (by decide) ?_
    obtain ⟨x5, h6, hf⟩ := ob_some hf
    refine gg_cSV (As := [.ref l0, .ref l1, .int (32 : Int32)]) hC hw (L_add_M l hst E D A h6) g_ml_L_24 hd_L_add.2 (Nat.le_of_ble_eq_true rfl) (Nat.le_of_ble_eq_true rfl) hl.1 rfl (Nat.le_of_ble_eq_true rfl) dL_end_17 (fun H locs cells slots hw => ?_)
    refine lv_goto (tgt := 4) hx hb dL_end_20 (by decide) ?_
    exact h_4 hf hw (lv_sub hl [0, 1, 2] rfl)
def L_end_4 (E : gE) : Nat → Nat → Nat → Int32 → gS → Option (Int32 × gS)
  | 0 => fun _ _ _ _ => none
  | n + 1 => L_end_4_s E (L_end_4 E n)
theorem L_end_4_W {res : (Int32 × gS)} (hC : gC E D A p R s m args meth c cL_end 3 RL "end" 3 70) (hQ : gQI E D A p l e R s m args below meth c Q cL_end FieldType.int res) (hst : l.stackTraces = false) : ∀ (n : Nat), ∀ {l0 : Nat} {l1 : Nat} {l2 : Int32} {σ : gS} {H : Heap} {locs : List Loc} {cells slots : Nat} {ls : Array Slot}, L_end_4 E n l0 l1 l2 σ = some res → gW E D A s σ H locs → lv_has ls 3 [(0, .ref l0), (1, .ref l1), (2, .int l2)] → W p l e R s m args below meth c H locs cells slots Q (F0 m 4 ls []) := by
  intro n
  induction n with
  | zero =>
    intros
    rename_i hf _ _
    exact absurd hf (fun h => by cases (show (none : Option (Int32 × gS)) = some res from h))
  | succ n ih =>
    intros
    rename_i hf hw hl
    exact L_end_4_s_W hC hQ hst ih hf hw hl

def L_end (E : gE) (l0 : Nat) (l1 : Nat) (σ : gS) : Option (Int32 × gS) :=
  ob (graI E 0 σ l1 (5 : Int32)) fun x8 =>
  L_end_4 E (gN E) l0 l1 x8 σ
set_option maxHeartbeats 4000000 in
set_option maxRecDepth 100000 in
theorem L_end_W {σ : gS} {l0 : Nat} {l1 : Nat} {res : (Int32 × gS)} {ls : Array Slot} (hC : gC E D A p R s m args meth c cL_end 3 RL "end" 3 70) (hQ : gQI E D A p l e R s m args below meth c Q cL_end FieldType.int res) (hst : l.stackTraces = false) (hf : L_end E l0 l1 σ = some res) (hw : gW E D A s σ H locs) (hl : lv_has ls 3 [(0, .ref l0), (1, .ref l1)]) : W p l e R s m args below meth c H locs cells slots Q (F0 m 0 ls []) := by
  have hC0 := hC
  obtain ⟨hx, hb, hml, hown, hts, -⟩ := hC0
  unfold L_end at hf
  refine lv_aload_n hx hb dL_end_0 rfl (lv_at hl 1 rfl) ?_
  refine lv_iconst (v := 5) hx hb dL_end_1 (by decide) ?_
  obtain ⟨x8, h9, hf⟩ := ob_some hf
  refine gg_aldI hC hw h9 dL_end_2 ?_
  refine lv_istore_n (lv' := [(2, .int x8), (0, .ref l0), (1, .ref l1)]) hx hb dL_end_3 rfl hl (by decide) rfl (fun ls hl => ?_)
  exact L_end_4_W hC hQ hst (gN E) hf hw (lv_sub hl [1, 2, 0] rfl)

def L_end_f (E : gE) (l0 : Nat) (l1 : Nat) (σ : gS) : Option (Int32 × gS) := L_end E l0 l1 σ
set_option maxRecDepth 100000 in
theorem L_end_M (l : Launch) (hst : l.stackTraces = false) (E : gE) (D : va_G) (A : Nat → Prop) {l0 : Nat} {l1 : Nat} {σ : gS} {res : (Int32 × gS)} (hf : L_end_f E l0 l1 σ = some res) : gCI l E D A yL_end cL_end 3 3 70 (some FieldType.int) [.ref l0, .ref l1] σ res := by
  refine gg_entI (own := RL) (nm := "end") (ty := FieldType.int) (by decide +kernel) rfl rfl (Nat.le_of_ble_eq_true rfl) rfl ?_
  intro p e R s m args below meth c Q ls hC hw hQ hl
  have hl : lv_has ls 3 [(0, .ref l0), (1, .ref l1)] := hl
  exact L_end_W hC hQ hst hf hw hl

def L_alike_11_s (E : gE) (σ : gS) (r_11 : Nat → Nat → Int32 → Option Int32) (l0 : Nat) (l1 : Nat) (l2 : Int32) : Option Int32 :=
  ob (gal E 0 σ l0) fun x1 =>
  if x1 ≤ l2 then
    some (1 : Int32)
  else
    ob (graI E 0 σ l0 l2) fun x3 =>
    ob (graI E 0 σ l1 l2) fun x5 =>
    if x3 = x5 then
      r_11 l0 l1 (l2 + 1)
    else
      some (0 : Int32)
set_option maxHeartbeats 4000000 in
set_option maxRecDepth 100000 in
theorem L_alike_11_s_W {σ : gS} {l0 : Nat} {l1 : Nat} {l2 : Int32} {res : Int32} {ls : Array Slot} (hC : gC E D A p R s m args meth c cL_alike 3 RL "alike" 0 0) (hQ : gQI E D A p l e R s m args below meth c Q cL_alike FieldType.boolean (res, σ)) (hst : l.stackTraces = false) {r_11 : Nat → Nat → Int32 → Option Int32} (h_11 : ∀ {l0 : Nat} {l1 : Nat} {l2 : Int32} {H : Heap} {locs : List Loc} {cells slots : Nat} {ls : Array Slot}, r_11 l0 l1 l2 = some res → gW E D A s σ H locs → lv_has ls 3 [(0, .ref l0), (1, .ref l1), (2, .int l2)] → W p l e R s m args below meth c H locs cells slots Q (F0 m 11 ls [])) (hf : L_alike_11_s E σ r_11 l0 l1 l2 = some res) (hw : gW E D A s σ H locs) (hl : lv_has ls 3 [(0, .ref l0), (1, .ref l1), (2, .int l2)]) : W p l e R s m args below meth c H locs cells slots Q (F0 m 11 ls []) := by
  have hC0 := hC
  obtain ⟨hx, hb, hml, hown, hts, -⟩ := hC0
  unfold L_alike_11_s at hf
  refine lv_iload_n hx hb dL_alike_11 rfl (lv_at hl 2 rfl) ?_
  refine lv_aload_n hx hb dL_alike_12 rfl (lv_at hl 0 rfl) ?_
  obtain ⟨x1, h2, hf⟩ := ob_some hf
  refine gg_alen hC hw h2 (Or.inr rfl) dL_alike_13 ?_
  refine lv_icmp_ge (tgt := 34) hx hb dL_alike_14 (by decide) (fun c8 => ?_) (fun c8 => ?_)
  · replace hf := (if_pos c8).symm.trans hf
    refine lv_iconst (v := 1) hx hb dL_alike_34 (by decide) ?_
    cases hf
    exact hQ _ _ _ _ _ _ dL_alike_35 gz1 hw
  · replace hf := (if_neg c8).symm.trans hf
    refine lv_aload_n hx hb dL_alike_17 rfl (lv_at hl 0 rfl) ?_
    refine lv_iload_n hx hb dL_alike_18 rfl (lv_at hl 2 rfl) ?_
    obtain ⟨x3, h4, hf⟩ := ob_some hf
    refine gg_aldI hC hw h4 dL_alike_19 ?_
    refine lv_aload_n hx hb dL_alike_20 rfl (lv_at hl 1 rfl) ?_
    refine lv_iload_n hx hb dL_alike_21 rfl (lv_at hl 2 rfl) ?_
    obtain ⟨x5, h6, hf⟩ := ob_some hf
    refine gg_aldI hC hw h6 dL_alike_22 ?_
    refine lv_icmp_eq (tgt := 28) hx hb dL_alike_23 (by decide) (fun c7 => ?_) (fun c7 => ?_)
    · replace hf := (if_pos c7).symm.trans hf
      refine lv_iinc (v := (l2 + 1)) (lv' := [(2, .int (l2 + 1)), (0, .ref l0), (1, .ref l1)]) hx hb dL_alike_28 hl (k := 2) rfl rfl (by decide) rfl (fun ls hl => ?_)
      refine lv_goto (tgt := 11) hx hb dL_alike_31 (by decide) ?_
      exact h_11 hf hw (lv_sub hl [1, 2, 0] rfl)
    · replace hf := (if_neg c7).symm.trans hf
      refine lv_iconst (v := 0) hx hb dL_alike_26 (by decide) ?_
      cases hf
      exact hQ _ _ _ _ _ _ dL_alike_27 gz0 hw
def L_alike_11 (E : gE) (σ : gS) : Nat → Nat → Nat → Int32 → Option Int32
  | 0 => fun _ _ _ => none
  | n + 1 => L_alike_11_s E σ (L_alike_11 E σ n)
theorem L_alike_11_W {σ : gS} {res : Int32} (hC : gC E D A p R s m args meth c cL_alike 3 RL "alike" 0 0) (hQ : gQI E D A p l e R s m args below meth c Q cL_alike FieldType.boolean (res, σ)) (hst : l.stackTraces = false) : ∀ (n : Nat), ∀ {l0 : Nat} {l1 : Nat} {l2 : Int32} {H : Heap} {locs : List Loc} {cells slots : Nat} {ls : Array Slot}, L_alike_11 E σ n l0 l1 l2 = some res → gW E D A s σ H locs → lv_has ls 3 [(0, .ref l0), (1, .ref l1), (2, .int l2)] → W p l e R s m args below meth c H locs cells slots Q (F0 m 11 ls []) := by
  intro n
  induction n with
  | zero =>
    intros
    rename_i hf _ _
    exact absurd hf (fun h => by cases (show (none : Option Int32) = some res from h))
  | succ n ih =>
    intros
    rename_i hf hw hl
    exact L_alike_11_s_W hC hQ hst ih hf hw hl

def L_alike (E : gE) (σ : gS) (l0 : Nat) (l1 : Nat) : Option Int32 :=
  ob (gal E 0 σ l0) fun x9 =>
  ob (gal E 0 σ l1) fun x11 =>
  if x9 = x11 then
    L_alike_11 E σ (gN E) l0 l1 (0 : Int32)
  else
    some (0 : Int32)
set_option maxHeartbeats 4000000 in
set_option maxRecDepth 100000 in
theorem L_alike_W {σ : gS} {l0 : Nat} {l1 : Nat} {res : Int32} {ls : Array Slot} (hC : gC E D A p R s m args meth c cL_alike 3 RL "alike" 0 0) (hQ : gQI E D A p l e R s m args below meth c Q cL_alike FieldType.boolean (res, σ)) (hst : l.stackTraces = false) (hf : L_alike E σ l0 l1 = some res) (hw : gW E D A s σ H locs) (hl : lv_has ls 3 [(0, .ref l0), (1, .ref l1)]) : W p l e R s m args below meth c H locs cells slots Q (F0 m 0 ls []) := by
  have hC0 := hC
  obtain ⟨hx, hb, hml, hown, hts, -⟩ := hC0
  unfold L_alike at hf
  refine lv_aload_n hx hb dL_alike_0 rfl (lv_at hl 0 rfl) ?_
  obtain ⟨x9, h10, hf⟩ := ob_some hf
  refine gg_alen hC hw h10 (Or.inr rfl) dL_alike_1 ?_
  refine lv_aload_n hx hb dL_alike_2 rfl (lv_at hl 1 rfl) ?_
  obtain ⟨x11, h12, hf⟩ := ob_some hf
  refine gg_alen hC hw h12 (Or.inr rfl) dL_alike_3 ?_
  refine lv_icmp_eq (tgt := 9) hx hb dL_alike_4 (by decide) (fun c13 => ?_) (fun c13 => ?_)
  · replace hf := (if_pos c13).symm.trans hf
    refine lv_iconst (v := 0) hx hb dL_alike_9 (by decide) ?_
    refine lv_istore_n (lv' := [(2, .int (0 : Int32)), (0, .ref l0), (1, .ref l1)]) hx hb dL_alike_10 rfl hl (by decide) rfl (fun ls hl => ?_)
    exact L_alike_11_W hC hQ hst (gN E) hf hw (lv_sub hl [1, 2, 0] rfl)
  · replace hf := (if_neg c13).symm.trans hf
    refine lv_iconst (v := 0) hx hb dL_alike_7 (by decide) ?_
    cases hf
    exact hQ _ _ _ _ _ _ dL_alike_8 gz0 hw

def L_alike_f (E : gE) (σ : gS) (l0 : Nat) (l1 : Nat) : Option Int32 := L_alike E σ l0 l1
set_option maxRecDepth 100000 in
theorem L_alike_M (l : Launch) (hst : l.stackTraces = false) (E : gE) (D : va_G) (A : Nat → Prop) {l0 : Nat} {l1 : Nat} {σ : gS} {res : Int32} (hf : L_alike_f E σ l0 l1 = some res) : gCI l E D A yL_alike cL_alike 3 0 0 (some FieldType.boolean) [.ref l0, .ref l1] σ (res, σ) := by
  refine gg_entI (own := RL) (nm := "alike") (ty := FieldType.boolean) (by decide +kernel) rfl rfl (Nat.le_of_ble_eq_true rfl) rfl ?_
  intro p e R s m args below meth c Q ls hC hw hQ hl
  have hl : lv_has ls 3 [(0, .ref l0), (1, .ref l1)] := hl
  exact L_alike_W hC hQ hst hf hw hl

def L_all_146_s (E : gE) (r_92 : Nat → Int32 → Int32 → Nat → Int32 → Int32 → gS → Option (Nat × gS)) (r_146 : Nat → Int32 → Int32 → Nat → Int32 → Int32 → Int32 → gS → Option (Nat × gS)) (l0 : Nat) (l1 : Int32) (l2 : Int32) (l4 : Nat) (l5 : Int32) (l6 : Int32) (l7 : Int32) (σ : gS) : Option (Nat × gS) :=
  ob (gcl σ l0 10) fun _ =>
  ob (X12_dictionarySize_f E l0 l6 σ) fun x1 =>
  gtry x1 (fun _ _ => none) (fun x5 σ4 =>
    if x5 ≤ l7 then
      r_92 l0 l1 l2 l4 l5 (l6 + 1) σ4
    else
      ob (gcl σ4 l0 10) fun _ =>
      ob (X12_dictionaryValue_f E l0 l6 l7 σ4) fun x6 =>
      gtry x6 (fun _ _ => none) (fun x10 σ9 =>
        ob (gwaI E σ9 l4 l5 x10) fun σ11 =>
        r_146 l0 l1 l2 l4 (l5 + 1) l6 (l7 + 1) σ11))
set_option maxHeartbeats 4000000 in
set_option maxRecDepth 100000 in
theorem L_all_146_s_W {σ : gS} {l0 : Nat} {l1 : Int32} {l2 : Int32} {l4 : Nat} {l5 : Int32} {l6 : Int32} {l7 : Int32} {res : (Nat × gS)} {ls : Array Slot} (hC : gC E D A p R s m args meth c cL_all 8 RL "all" 8 134) (hQ : gQR E D A p l e R s m args below meth c Q cL_all res) (hst : l.stackTraces = false) {r_92 : Nat → Int32 → Int32 → Nat → Int32 → Int32 → gS → Option (Nat × gS)} (h_92 : ∀ {l0 : Nat} {l1 : Int32} {l2 : Int32} {l4 : Nat} {l5 : Int32} {l6 : Int32} {σ : gS} {H : Heap} {locs : List Loc} {cells slots : Nat} {ls : Array Slot}, r_92 l0 l1 l2 l4 l5 l6 σ = some res → gW E D A s σ H locs → lv_has ls 8 [(0, .ref l0), (1, .int l1), (2, .int l2), (4, .ref l4), (5, .int l5), (6, .int l6)] → W p l e R s m args below meth c H locs cells slots Q (F0 m 92 ls [])) {r_146 : Nat → Int32 → Int32 → Nat → Int32 → Int32 → Int32 → gS → Option (Nat × gS)} (h_146 : ∀ {l0 : Nat} {l1 : Int32} {l2 : Int32} {l4 : Nat} {l5 : Int32} {l6 : Int32} {l7 : Int32} {σ : gS} {H : Heap} {locs : List Loc} {cells slots : Nat} {ls : Array Slot}, r_146 l0 l1 l2 l4 l5 l6 l7 σ = some res → gW E D A s σ H locs → lv_has ls 8 [(0, .ref l0), (1, .int l1), (2, .int l2), (4, .ref l4), (5, .int l5), (6, .int l6), (7, .int l7)] → W p l e R s m args below meth c H locs cells slots Q (F0 m 146 ls [])) (hf : L_all_146_s E r_92 r_146 l0 l1 l2 l4 l5 l6 l7 σ = some res) (hw : gW E D A s σ H locs) (hl : lv_has ls 8 [(0, .ref l0), (1, .int l1), (2, .int l2), (4, .ref l4), (5, .int l5), (6, .int l6), (7, .int l7)]) : W p l e R s m args below meth c H locs cells slots Q (F0 m 146 ls []) := by
  have hC0 := hC
  obtain ⟨hx, hb, hml, hown, hts, -⟩ := hC0
  unfold L_all_146_s at hf
  refine lv_iload hx hb dL_all_146 (lv_at hl 6 rfl) ?_
  refine lv_aload_n hx hb dL_all_148 rfl (lv_at hl 0 rfl) ?_
  refine lv_iload hx hb dL_all_149 (lv_at hl 5 rfl) ?_
  obtain ⟨_, h3, hf⟩ := ob_some hf
  obtain ⟨x1, h2, hf⟩ := ob_some hf
  refine gg_yVI (As := [.int l6]) hC hw (X12_dictionarySize_M l hst E D A h2) h3 rfl g_ml_L_36 hd_X12_dictionarySize (Nat.le_of_ble_eq_true rfl) (Nat.le_of_ble_eq_true rfl) hl.1 rfl (Nat.le_of_ble_eq_true rfl) dL_all_151 (fun k9 σ9 he => ?_) (fun x5 σ4 he H locs cells slots hw => ?_)
  · subst he
    replace hf := gtry_inl.symm.trans hf
    cases hf
  · subst he
    replace hf := gtry_inr.symm.trans hf
    refine lv_icmp_ge (tgt := 179) hx hb dL_all_154 (by decide) (fun c13 => ?_) (fun c13 => ?_)
    · replace hf := (if_pos c13).symm.trans hf
      refine lv_iinc (v := (l6 + 1)) (lv' := [(6, .int (l6 + 1)), (0, .ref l0), (1, .int l1), (2, .int l2), (4, .ref l4), (5, .int l5), (7, .int l7)]) hx hb dL_all_179 hl (k := 5) rfl rfl (by decide) rfl (fun ls hl => ?_)
      refine lv_goto (tgt := 92) hx hb dL_all_182 (by decide) ?_
      exact h_92 hf hw (lv_sub hl [1, 2, 3, 4, 5, 0] rfl)
    · replace hf := (if_neg c13).symm.trans hf
      refine lv_aload hx hb dL_all_157 (lv_at hl 3 rfl) ?_
      refine lv_iload hx hb dL_all_159 (lv_at hl 4 rfl) ?_
      refine lv_iinc (v := (l5 + 1)) (lv' := [(5, .int (l5 + 1)), (0, .ref l0), (1, .int l1), (2, .int l2), (4, .ref l4), (6, .int l6), (7, .int l7)]) hx hb dL_all_161 hl (k := 4) rfl rfl (by decide) rfl (fun ls hl => ?_)
      refine lv_aload_n hx hb dL_all_164 rfl (lv_at hl 1 rfl) ?_
      refine lv_iload hx hb dL_all_165 (lv_at hl 5 rfl) ?_
      refine lv_iload hx hb dL_all_167 (lv_at hl 6 rfl) ?_
      obtain ⟨_, h8, hf⟩ := ob_some hf
      obtain ⟨x6, h7, hf⟩ := ob_some hf
      refine gg_yVI (As := [.int l6, .int l7]) hC hw (X12_dictionaryValue_M l hst E D A h7) h8 rfl g_ml_L_47 hd_X12_dictionaryValue (Nat.le_of_ble_eq_true rfl) (Nat.le_of_ble_eq_true rfl) hl.1 rfl (Nat.le_of_ble_eq_true rfl) dL_all_169 (fun k9 σ9 he => ?_) (fun x10 σ9 he H locs cells slots hw => ?_)
      · subst he
        replace hf := gtry_inl.symm.trans hf
        cases hf
      · subst he
        replace hf := gtry_inr.symm.trans hf
        obtain ⟨σ11, h12, hf⟩ := ob_some hf
        refine gg_astI hC hw h12 dL_all_172 (fun H locs hw => ?_)
        refine lv_iinc (v := (l7 + 1)) (lv' := [(7, .int (l7 + 1)), (5, .int (l5 + 1)), (0, .ref l0), (1, .int l1), (2, .int l2), (4, .ref l4), (6, .int l6)]) hx hb dL_all_173 hl (k := 6) rfl rfl (by decide) rfl (fun ls hl => ?_)
        refine lv_goto (tgt := 146) hx hb dL_all_176 (by decide) ?_
        exact h_146 hf hw (lv_sub hl [2, 3, 4, 5, 1, 6, 0] rfl)
def L_all_146 (E : gE) (r_92 : Nat → Int32 → Int32 → Nat → Int32 → Int32 → gS → Option (Nat × gS)) : Nat → Nat → Int32 → Int32 → Nat → Int32 → Int32 → Int32 → gS → Option (Nat × gS)
  | 0 => fun _ _ _ _ _ _ _ _ => none
  | n + 1 => L_all_146_s E r_92 (L_all_146 E r_92 n)
theorem L_all_146_W {res : (Nat × gS)} (hC : gC E D A p R s m args meth c cL_all 8 RL "all" 8 134) (hQ : gQR E D A p l e R s m args below meth c Q cL_all res) (hst : l.stackTraces = false) {r_92 : Nat → Int32 → Int32 → Nat → Int32 → Int32 → gS → Option (Nat × gS)} (h_92 : ∀ {l0 : Nat} {l1 : Int32} {l2 : Int32} {l4 : Nat} {l5 : Int32} {l6 : Int32} {σ : gS} {H : Heap} {locs : List Loc} {cells slots : Nat} {ls : Array Slot}, r_92 l0 l1 l2 l4 l5 l6 σ = some res → gW E D A s σ H locs → lv_has ls 8 [(0, .ref l0), (1, .int l1), (2, .int l2), (4, .ref l4), (5, .int l5), (6, .int l6)] → W p l e R s m args below meth c H locs cells slots Q (F0 m 92 ls [])) : ∀ (n : Nat), ∀ {l0 : Nat} {l1 : Int32} {l2 : Int32} {l4 : Nat} {l5 : Int32} {l6 : Int32} {l7 : Int32} {σ : gS} {H : Heap} {locs : List Loc} {cells slots : Nat} {ls : Array Slot}, L_all_146 E r_92 n l0 l1 l2 l4 l5 l6 l7 σ = some res → gW E D A s σ H locs → lv_has ls 8 [(0, .ref l0), (1, .int l1), (2, .int l2), (4, .ref l4), (5, .int l5), (6, .int l6), (7, .int l7)] → W p l e R s m args below meth c H locs cells slots Q (F0 m 146 ls []) := by
  intro n
  induction n with
  | zero =>
    intros
    rename_i hf _ _
    exact absurd hf (fun h => by cases (show (none : Option (Nat × gS)) = some res from h))
  | succ n ih =>
    intros
    rename_i hf hw hl
    exact L_all_146_s_W hC hQ hst h_92 ih hf hw hl

def L_all_115_s (E : gE) (r_92 : Nat → Int32 → Int32 → Nat → Int32 → Int32 → gS → Option (Nat × gS)) (r_115 : Nat → Int32 → Int32 → Nat → Int32 → Int32 → Int32 → gS → Option (Nat × gS)) (l0 : Nat) (l1 : Int32) (l2 : Int32) (l4 : Nat) (l5 : Int32) (l6 : Int32) (l7 : Int32) (σ : gS) : Option (Nat × gS) :=
  if l2 ≤ l7 then
    L_all_146 E r_92 (gN E) l0 l1 l2 l4 l5 l6 (0 : Int32) σ
  else
    ob (gcl σ l0 10) fun _ =>
    ob (X12_value_f E l0 l6 l7 σ) fun x14 =>
    gtry x14 (fun _ _ => none) (fun x18 σ17 =>
      ob (gwaI E σ17 l4 l5 x18) fun σ19 =>
      r_115 l0 l1 l2 l4 (l5 + 1) l6 (l7 + 1) σ19)
set_option maxHeartbeats 4000000 in
set_option maxRecDepth 100000 in
theorem L_all_115_s_W {σ : gS} {l0 : Nat} {l1 : Int32} {l2 : Int32} {l4 : Nat} {l5 : Int32} {l6 : Int32} {l7 : Int32} {res : (Nat × gS)} {ls : Array Slot} (hC : gC E D A p R s m args meth c cL_all 8 RL "all" 8 134) (hQ : gQR E D A p l e R s m args below meth c Q cL_all res) (hst : l.stackTraces = false) {r_92 : Nat → Int32 → Int32 → Nat → Int32 → Int32 → gS → Option (Nat × gS)} (h_92 : ∀ {l0 : Nat} {l1 : Int32} {l2 : Int32} {l4 : Nat} {l5 : Int32} {l6 : Int32} {σ : gS} {H : Heap} {locs : List Loc} {cells slots : Nat} {ls : Array Slot}, r_92 l0 l1 l2 l4 l5 l6 σ = some res → gW E D A s σ H locs → lv_has ls 8 [(0, .ref l0), (1, .int l1), (2, .int l2), (4, .ref l4), (5, .int l5), (6, .int l6)] → W p l e R s m args below meth c H locs cells slots Q (F0 m 92 ls [])) {r_115 : Nat → Int32 → Int32 → Nat → Int32 → Int32 → Int32 → gS → Option (Nat × gS)} (h_115 : ∀ {l0 : Nat} {l1 : Int32} {l2 : Int32} {l4 : Nat} {l5 : Int32} {l6 : Int32} {l7 : Int32} {σ : gS} {H : Heap} {locs : List Loc} {cells slots : Nat} {ls : Array Slot}, r_115 l0 l1 l2 l4 l5 l6 l7 σ = some res → gW E D A s σ H locs → lv_has ls 8 [(0, .ref l0), (1, .int l1), (2, .int l2), (4, .ref l4), (5, .int l5), (6, .int l6), (7, .int l7)] → W p l e R s m args below meth c H locs cells slots Q (F0 m 115 ls [])) (hf : L_all_115_s E r_92 r_115 l0 l1 l2 l4 l5 l6 l7 σ = some res) (hw : gW E D A s σ H locs) (hl : lv_has ls 8 [(0, .ref l0), (1, .int l1), (2, .int l2), (4, .ref l4), (5, .int l5), (6, .int l6), (7, .int l7)]) : W p l e R s m args below meth c H locs cells slots Q (F0 m 115 ls []) := by
  have hC0 := hC
  obtain ⟨hx, hb, hml, hown, hts, -⟩ := hC0
  unfold L_all_115_s at hf
  refine lv_iload hx hb dL_all_115 (lv_at hl 6 rfl) ?_
  refine lv_iload_n hx hb dL_all_117 rfl (lv_at hl 2 rfl) ?_
  refine lv_icmp_ge (tgt := 143) hx hb dL_all_118 (by decide) (fun c21 => ?_) (fun c21 => ?_)
  · replace hf := (if_pos c21).symm.trans hf
    refine lv_iconst (v := 0) hx hb dL_all_143 (by decide) ?_
    refine lv_istore (lv' := [(7, .int (0 : Int32)), (0, .ref l0), (1, .int l1), (2, .int l2), (4, .ref l4), (5, .int l5), (6, .int l6)]) hx hb dL_all_144 hl (by decide) rfl (fun ls hl => ?_)
    exact L_all_146_W hC hQ hst h_92 (gN E) hf hw (lv_sub hl [1, 2, 3, 4, 5, 6, 0] rfl)
  · replace hf := (if_neg c21).symm.trans hf
    refine lv_aload hx hb dL_all_121 (lv_at hl 3 rfl) ?_
    refine lv_iload hx hb dL_all_123 (lv_at hl 4 rfl) ?_
    refine lv_iinc (v := (l5 + 1)) (lv' := [(5, .int (l5 + 1)), (0, .ref l0), (1, .int l1), (2, .int l2), (4, .ref l4), (6, .int l6), (7, .int l7)]) hx hb dL_all_125 hl (k := 4) rfl rfl (by decide) rfl (fun ls hl => ?_)
    refine lv_aload_n hx hb dL_all_128 rfl (lv_at hl 1 rfl) ?_
    refine lv_iload hx hb dL_all_129 (lv_at hl 5 rfl) ?_
    refine lv_iload hx hb dL_all_131 (lv_at hl 6 rfl) ?_
    obtain ⟨_, h16, hf⟩ := ob_some hf
    obtain ⟨x14, h15, hf⟩ := ob_some hf
    refine gg_yVI (As := [.int l6, .int l7]) hC hw (X12_value_M l hst E D A h15) h16 rfl g_ml_L_43 hd_X12_value (Nat.le_of_ble_eq_true rfl) (Nat.le_of_ble_eq_true rfl) hl.1 rfl (Nat.le_of_ble_eq_true rfl) dL_all_133 (fun k9 σ9 he => ?_) (fun x18 σ17 he H locs cells slots hw => ?_)
    · subst he
      replace hf := gtry_inl.symm.trans hf
      cases hf
    · subst he
      replace hf := gtry_inr.symm.trans hf
      obtain ⟨σ19, h20, hf⟩ := ob_some hf
      refine gg_astI hC hw h20 dL_all_136 (fun H locs hw => ?_)
      refine lv_iinc (v := (l7 + 1)) (lv' := [(7, .int (l7 + 1)), (5, .int (l5 + 1)), (0, .ref l0), (1, .int l1), (2, .int l2), (4, .ref l4), (6, .int l6)]) hx hb dL_all_137 hl (k := 6) rfl rfl (by decide) rfl (fun ls hl => ?_)
      refine lv_goto (tgt := 115) hx hb dL_all_140 (by decide) ?_
      exact h_115 hf hw (lv_sub hl [2, 3, 4, 5, 1, 6, 0] rfl)
def L_all_115 (E : gE) (r_92 : Nat → Int32 → Int32 → Nat → Int32 → Int32 → gS → Option (Nat × gS)) : Nat → Nat → Int32 → Int32 → Nat → Int32 → Int32 → Int32 → gS → Option (Nat × gS)
  | 0 => fun _ _ _ _ _ _ _ _ => none
  | n + 1 => L_all_115_s E r_92 (L_all_115 E r_92 n)
theorem L_all_115_W {res : (Nat × gS)} (hC : gC E D A p R s m args meth c cL_all 8 RL "all" 8 134) (hQ : gQR E D A p l e R s m args below meth c Q cL_all res) (hst : l.stackTraces = false) {r_92 : Nat → Int32 → Int32 → Nat → Int32 → Int32 → gS → Option (Nat × gS)} (h_92 : ∀ {l0 : Nat} {l1 : Int32} {l2 : Int32} {l4 : Nat} {l5 : Int32} {l6 : Int32} {σ : gS} {H : Heap} {locs : List Loc} {cells slots : Nat} {ls : Array Slot}, r_92 l0 l1 l2 l4 l5 l6 σ = some res → gW E D A s σ H locs → lv_has ls 8 [(0, .ref l0), (1, .int l1), (2, .int l2), (4, .ref l4), (5, .int l5), (6, .int l6)] → W p l e R s m args below meth c H locs cells slots Q (F0 m 92 ls [])) : ∀ (n : Nat), ∀ {l0 : Nat} {l1 : Int32} {l2 : Int32} {l4 : Nat} {l5 : Int32} {l6 : Int32} {l7 : Int32} {σ : gS} {H : Heap} {locs : List Loc} {cells slots : Nat} {ls : Array Slot}, L_all_115 E r_92 n l0 l1 l2 l4 l5 l6 l7 σ = some res → gW E D A s σ H locs → lv_has ls 8 [(0, .ref l0), (1, .int l1), (2, .int l2), (4, .ref l4), (5, .int l5), (6, .int l6), (7, .int l7)] → W p l e R s m args below meth c H locs cells slots Q (F0 m 115 ls []) := by
  intro n
  induction n with
  | zero =>
    intros
    rename_i hf _ _
    exact absurd hf (fun h => by cases (show (none : Option (Nat × gS)) = some res from h))
  | succ n ih =>
    intros
    rename_i hf hw hl
    exact L_all_115_s_W hC hQ hst h_92 ih hf hw hl

def L_all_188_s (E : gE) (r_188 : Nat → Nat → Int32 → Int32 → gS → Option (Nat × gS)) (l0 : Nat) (l4 : Nat) (l5 : Int32) (l6 : Int32) (σ : gS) : Option (Nat × gS) :=
  ob (gcl σ l0 10) fun _ =>
  ob (X12_conditionCount_f E σ l0) fun x22 =>
  if x22 ≤ l6 then
    some (l4, σ)
  else
    ob (gcl σ l0 10) fun _ =>
    ob (X12_conditionColumn_f E l0 l6 σ) fun x25 =>
    gtry x25 (fun _ _ => none) (fun x29 σ28 =>
      ob (gwaI E σ28 l4 l5 x29) fun σ30 =>
      ob (gcl σ30 l0 10) fun _ =>
      ob (X12_conditionValue_f E l0 l6 σ30) fun x32 =>
      gtry x32 (fun _ _ => none) (fun x36 σ35 =>
        ob (gwaI E σ35 l4 (l5 + 1) x36) fun σ37 =>
        ob (gcl σ37 l0 10) fun _ =>
        ob (X12_conditionDirection_f E l0 l6 σ37) fun x39 =>
        gtry x39 (fun _ _ => none) (fun x43 σ42 =>
          ob (gwaI E σ42 l4 ((l5 + 1) + 1) x43) fun σ44 =>
          r_188 l0 l4 (((l5 + 1) + 1) + 1) (l6 + 1) σ44)))
set_option maxHeartbeats 4000000 in
set_option maxRecDepth 100000 in
theorem L_all_188_s_W {σ : gS} {l0 : Nat} {l4 : Nat} {l5 : Int32} {l6 : Int32} {res : (Nat × gS)} {ls : Array Slot} (hC : gC E D A p R s m args meth c cL_all 8 RL "all" 8 134) (hQ : gQR E D A p l e R s m args below meth c Q cL_all res) (hst : l.stackTraces = false) {r_188 : Nat → Nat → Int32 → Int32 → gS → Option (Nat × gS)} (h_188 : ∀ {l0 : Nat} {l4 : Nat} {l5 : Int32} {l6 : Int32} {σ : gS} {H : Heap} {locs : List Loc} {cells slots : Nat} {ls : Array Slot}, r_188 l0 l4 l5 l6 σ = some res → gW E D A s σ H locs → lv_has ls 8 [(0, .ref l0), (4, .ref l4), (5, .int l5), (6, .int l6)] → W p l e R s m args below meth c H locs cells slots Q (F0 m 188 ls [])) (hf : L_all_188_s E r_188 l0 l4 l5 l6 σ = some res) (hw : gW E D A s σ H locs) (hl : lv_has ls 8 [(0, .ref l0), (4, .ref l4), (5, .int l5), (6, .int l6)]) : W p l e R s m args below meth c H locs cells slots Q (F0 m 188 ls []) := by
  have hC0 := hC
  obtain ⟨hx, hb, hml, hown, hts, -⟩ := hC0
  unfold L_all_188_s at hf
  refine lv_iload hx hb dL_all_188 (lv_at hl 3 rfl) ?_
  refine lv_aload_n hx hb dL_all_190 rfl (lv_at hl 0 rfl) ?_
  obtain ⟨_, h24, hf⟩ := ob_some hf
  obtain ⟨x22, h23, hf⟩ := ob_some hf
  refine gg_cVI (As := []) hC hw (X12_conditionCount_M l E D A h23) h24 rfl g_ml_L_40 hd_X12_conditionCount (Nat.le_of_ble_eq_true rfl) (Nat.le_of_ble_eq_true rfl) hl.1 rfl (Nat.le_of_ble_eq_true rfl) dL_all_191 (fun H locs cells slots hw => ?_)
  refine lv_icmp_ge (tgt := 245) hx hb dL_all_194 (by decide) (fun c46 => ?_) (fun c46 => ?_)
  · replace hf := (if_pos c46).symm.trans hf
    refine lv_aload hx hb dL_all_245 (lv_at hl 1 rfl) ?_
    cases hf
    exact hQ _ _ _ _ _ _ dL_all_247 hw
  · replace hf := (if_neg c46).symm.trans hf
    refine lv_aload hx hb dL_all_197 (lv_at hl 1 rfl) ?_
    refine lv_iload hx hb dL_all_199 (lv_at hl 2 rfl) ?_
    refine lv_iinc (v := (l5 + 1)) (lv' := [(5, .int (l5 + 1)), (0, .ref l0), (4, .ref l4), (6, .int l6)]) hx hb dL_all_201 hl (k := 2) rfl rfl (by decide) rfl (fun ls hl => ?_)
    refine lv_aload_n hx hb dL_all_204 rfl (lv_at hl 1 rfl) ?_
    refine lv_iload hx hb dL_all_205 (lv_at hl 3 rfl) ?_
    obtain ⟨_, h27, hf⟩ := ob_some hf
    obtain ⟨x25, h26, hf⟩ := ob_some hf
    refine gg_yVI (As := [.int l6]) hC hw (X12_conditionColumn_M l hst E D A h26) h27 rfl g_ml_L_50 hd_X12_conditionColumn (Nat.le_of_ble_eq_true rfl) (Nat.le_of_ble_eq_true rfl) hl.1 rfl (Nat.le_of_ble_eq_true rfl) dL_all_207 (fun k9 σ9 he => ?_) (fun x29 σ28 he H locs cells slots hw => ?_)
    · subst he
      replace hf := gtry_inl.symm.trans hf
      cases hf
    · subst he
      replace hf := gtry_inr.symm.trans hf
      obtain ⟨σ30, h31, hf⟩ := ob_some hf
      refine gg_astI hC hw h31 dL_all_210 (fun H locs hw => ?_)
      refine lv_aload hx hb dL_all_211 (lv_at hl 2 rfl) ?_
      refine lv_iload hx hb dL_all_213 (lv_at hl 0 rfl) ?_
      refine lv_iinc (v := ((l5 + 1) + 1)) (lv' := [(5, .int ((l5 + 1) + 1)), (0, .ref l0), (4, .ref l4), (6, .int l6)]) hx hb dL_all_215 hl (k := 0) rfl rfl (by decide) rfl (fun ls hl => ?_)
      refine lv_aload_n hx hb dL_all_218 rfl (lv_at hl 1 rfl) ?_
      refine lv_iload hx hb dL_all_219 (lv_at hl 3 rfl) ?_
      obtain ⟨_, h34, hf⟩ := ob_some hf
      obtain ⟨x32, h33, hf⟩ := ob_some hf
      refine gg_yVI (As := [.int l6]) hC hw (X12_conditionValue_M l hst E D A h33) h34 rfl g_ml_L_53 hd_X12_conditionValue (Nat.le_of_ble_eq_true rfl) (Nat.le_of_ble_eq_true rfl) hl.1 rfl (Nat.le_of_ble_eq_true rfl) dL_all_221 (fun k9 σ9 he => ?_) (fun x36 σ35 he H locs cells slots hw => ?_)
      · subst he
        replace hf := gtry_inl.symm.trans hf
        cases hf
      · subst he
        replace hf := gtry_inr.symm.trans hf
        obtain ⟨σ37, h38, hf⟩ := ob_some hf
        refine gg_astI hC hw h38 dL_all_224 (fun H locs hw => ?_)
        refine lv_aload hx hb dL_all_225 (lv_at hl 2 rfl) ?_
        refine lv_iload hx hb dL_all_227 (lv_at hl 0 rfl) ?_
        refine lv_iinc (v := (((l5 + 1) + 1) + 1)) (lv' := [(5, .int (((l5 + 1) + 1) + 1)), (0, .ref l0), (4, .ref l4), (6, .int l6)]) hx hb dL_all_229 hl (k := 0) rfl rfl (by decide) rfl (fun ls hl => ?_)
        refine lv_aload_n hx hb dL_all_232 rfl (lv_at hl 1 rfl) ?_
        refine lv_iload hx hb dL_all_233 (lv_at hl 3 rfl) ?_
        obtain ⟨_, h41, hf⟩ := ob_some hf
        obtain ⟨x39, h40, hf⟩ := ob_some hf
        refine gg_yVI (As := [.int l6]) hC hw (X12_conditionDirection_M l hst E D A h40) h41 rfl g_ml_L_56 hd_X12_conditionDirection (Nat.le_of_ble_eq_true rfl) (Nat.le_of_ble_eq_true rfl) hl.1 rfl (Nat.le_of_ble_eq_true rfl) dL_all_235 (fun k9 σ9 he => ?_) (fun x43 σ42 he H locs cells slots hw => ?_)
        · subst he
          replace hf := gtry_inl.symm.trans hf
          cases hf
        · subst he
          replace hf := gtry_inr.symm.trans hf
          obtain ⟨σ44, h45, hf⟩ := ob_some hf
          refine gg_astI hC hw h45 dL_all_238 (fun H locs hw => ?_)
          refine lv_iinc (v := (l6 + 1)) (lv' := [(6, .int (l6 + 1)), (5, .int (((l5 + 1) + 1) + 1)), (0, .ref l0), (4, .ref l4)]) hx hb dL_all_239 hl (k := 3) rfl rfl (by decide) rfl (fun ls hl => ?_)
          refine lv_goto (tgt := 188) hx hb dL_all_242 (by decide) ?_
          exact h_188 hf hw (lv_sub hl [2, 3, 1, 0] rfl)
def L_all_188 (E : gE) : Nat → Nat → Nat → Int32 → Int32 → gS → Option (Nat × gS)
  | 0 => fun _ _ _ _ _ => none
  | n + 1 => L_all_188_s E (L_all_188 E n)
theorem L_all_188_W {res : (Nat × gS)} (hC : gC E D A p R s m args meth c cL_all 8 RL "all" 8 134) (hQ : gQR E D A p l e R s m args below meth c Q cL_all res) (hst : l.stackTraces = false) : ∀ (n : Nat), ∀ {l0 : Nat} {l4 : Nat} {l5 : Int32} {l6 : Int32} {σ : gS} {H : Heap} {locs : List Loc} {cells slots : Nat} {ls : Array Slot}, L_all_188 E n l0 l4 l5 l6 σ = some res → gW E D A s σ H locs → lv_has ls 8 [(0, .ref l0), (4, .ref l4), (5, .int l5), (6, .int l6)] → W p l e R s m args below meth c H locs cells slots Q (F0 m 188 ls []) := by
  intro n
  induction n with
  | zero =>
    intros
    rename_i hf _ _
    exact absurd hf (fun h => by cases (show (none : Option (Nat × gS)) = some res from h))
  | succ n ih =>
    intros
    rename_i hf hw hl
    exact L_all_188_s_W hC hQ hst ih hf hw hl

def L_all_92_s (E : gE) (r_92 : Nat → Int32 → Int32 → Nat → Int32 → Int32 → gS → Option (Nat × gS)) (l0 : Nat) (l1 : Int32) (l2 : Int32) (l4 : Nat) (l5 : Int32) (l6 : Int32) (σ : gS) : Option (Nat × gS) :=
  if l1 ≤ l6 then
    L_all_188 E (gN E) l0 l4 l5 (0 : Int32) σ
  else
    ob (gcl σ l0 10) fun _ =>
    ob (X12_dictionarySize_f E l0 l6 σ) fun x47 =>
    gtry x47 (fun _ _ => none) (fun x51 σ50 =>
      ob (gwaI E σ50 l4 l5 x51) fun σ52 =>
      L_all_115 E r_92 (gN E) l0 l1 l2 l4 (l5 + 1) l6 (0 : Int32) σ52)
set_option maxHeartbeats 4000000 in
set_option maxRecDepth 100000 in
theorem L_all_92_s_W {σ : gS} {l0 : Nat} {l1 : Int32} {l2 : Int32} {l4 : Nat} {l5 : Int32} {l6 : Int32} {res : (Nat × gS)} {ls : Array Slot} (hC : gC E D A p R s m args meth c cL_all 8 RL "all" 8 134) (hQ : gQR E D A p l e R s m args below meth c Q cL_all res) (hst : l.stackTraces = false) {r_92 : Nat → Int32 → Int32 → Nat → Int32 → Int32 → gS → Option (Nat × gS)} (h_92 : ∀ {l0 : Nat} {l1 : Int32} {l2 : Int32} {l4 : Nat} {l5 : Int32} {l6 : Int32} {σ : gS} {H : Heap} {locs : List Loc} {cells slots : Nat} {ls : Array Slot}, r_92 l0 l1 l2 l4 l5 l6 σ = some res → gW E D A s σ H locs → lv_has ls 8 [(0, .ref l0), (1, .int l1), (2, .int l2), (4, .ref l4), (5, .int l5), (6, .int l6)] → W p l e R s m args below meth c H locs cells slots Q (F0 m 92 ls [])) (hf : L_all_92_s E r_92 l0 l1 l2 l4 l5 l6 σ = some res) (hw : gW E D A s σ H locs) (hl : lv_has ls 8 [(0, .ref l0), (1, .int l1), (2, .int l2), (4, .ref l4), (5, .int l5), (6, .int l6)]) : W p l e R s m args below meth c H locs cells slots Q (F0 m 92 ls []) := by
  have hC0 := hC
  obtain ⟨hx, hb, hml, hown, hts, -⟩ := hC0
  unfold L_all_92_s at hf
  refine lv_iload hx hb dL_all_92 (lv_at hl 5 rfl) ?_
  refine lv_iload_n hx hb dL_all_94 rfl (lv_at hl 1 rfl) ?_
  refine lv_icmp_ge (tgt := 185) hx hb dL_all_95 (by decide) (fun c54 => ?_) (fun c54 => ?_)
  · replace hf := (if_pos c54).symm.trans hf
    refine lv_iconst (v := 0) hx hb dL_all_185 (by decide) ?_
    refine lv_istore (lv' := [(6, .int (0 : Int32)), (0, .ref l0), (1, .int l1), (2, .int l2), (4, .ref l4), (5, .int l5)]) hx hb dL_all_186 hl (by decide) rfl (fun ls hl => ?_)
    exact L_all_188_W hC hQ hst (gN E) hf hw (lv_sub hl [1, 4, 5, 0] rfl)
  · replace hf := (if_neg c54).symm.trans hf
    refine lv_aload hx hb dL_all_98 (lv_at hl 3 rfl) ?_
    refine lv_iload hx hb dL_all_100 (lv_at hl 4 rfl) ?_
    refine lv_iinc (v := (l5 + 1)) (lv' := [(5, .int (l5 + 1)), (0, .ref l0), (1, .int l1), (2, .int l2), (4, .ref l4), (6, .int l6)]) hx hb dL_all_102 hl (k := 4) rfl rfl (by decide) rfl (fun ls hl => ?_)
    refine lv_aload_n hx hb dL_all_105 rfl (lv_at hl 1 rfl) ?_
    refine lv_iload hx hb dL_all_106 (lv_at hl 5 rfl) ?_
    obtain ⟨_, h49, hf⟩ := ob_some hf
    obtain ⟨x47, h48, hf⟩ := ob_some hf
    refine gg_yVI (As := [.int l6]) hC hw (X12_dictionarySize_M l hst E D A h48) h49 rfl g_ml_L_36 hd_X12_dictionarySize (Nat.le_of_ble_eq_true rfl) (Nat.le_of_ble_eq_true rfl) hl.1 rfl (Nat.le_of_ble_eq_true rfl) dL_all_108 (fun k9 σ9 he => ?_) (fun x51 σ50 he H locs cells slots hw => ?_)
    · subst he
      replace hf := gtry_inl.symm.trans hf
      cases hf
    · subst he
      replace hf := gtry_inr.symm.trans hf
      obtain ⟨σ52, h53, hf⟩ := ob_some hf
      refine gg_astI hC hw h53 dL_all_111 (fun H locs hw => ?_)
      refine lv_iconst (v := 0) hx hb dL_all_112 (by decide) ?_
      refine lv_istore (lv' := [(7, .int (0 : Int32)), (5, .int (l5 + 1)), (0, .ref l0), (1, .int l1), (2, .int l2), (4, .ref l4), (6, .int l6)]) hx hb dL_all_113 hl (by decide) rfl (fun ls hl => ?_)
      exact L_all_115_W hC hQ hst h_92 (gN E) hf hw (lv_sub hl [2, 3, 4, 5, 1, 6, 0] rfl)
def L_all_92 (E : gE) : Nat → Nat → Int32 → Int32 → Nat → Int32 → Int32 → gS → Option (Nat × gS)
  | 0 => fun _ _ _ _ _ _ _ => none
  | n + 1 => L_all_92_s E (L_all_92 E n)
theorem L_all_92_W {res : (Nat × gS)} (hC : gC E D A p R s m args meth c cL_all 8 RL "all" 8 134) (hQ : gQR E D A p l e R s m args below meth c Q cL_all res) (hst : l.stackTraces = false) : ∀ (n : Nat), ∀ {l0 : Nat} {l1 : Int32} {l2 : Int32} {l4 : Nat} {l5 : Int32} {l6 : Int32} {σ : gS} {H : Heap} {locs : List Loc} {cells slots : Nat} {ls : Array Slot}, L_all_92 E n l0 l1 l2 l4 l5 l6 σ = some res → gW E D A s σ H locs → lv_has ls 8 [(0, .ref l0), (1, .int l1), (2, .int l2), (4, .ref l4), (5, .int l5), (6, .int l6)] → W p l e R s m args below meth c H locs cells slots Q (F0 m 92 ls []) := by
  intro n
  induction n with
  | zero =>
    intros
    rename_i hf _ _
    exact absurd hf (fun h => by cases (show (none : Option (Nat × gS)) = some res from h))
  | succ n ih =>
    intros
    rename_i hf hw hl
    exact L_all_92_s_W hC hQ hst ih hf hw hl

def L_all_15_s (E : gE) (r_15 : Nat → Int32 → Int32 → Int32 → Int32 → gS → Option (Nat × gS)) (l0 : Nat) (l1 : Int32) (l2 : Int32) (l3 : Int32) (l4 : Int32) (σ : gS) : Option (Nat × gS) :=
  if l1 ≤ l4 then
    ob (gcl σ l0 10) fun _ =>
    ob (X12_conditionCount_f E σ l0) fun x55 =>
    ob (gnaI E σ ((((3 : Int32) + (l1 * (l2 + (1 : Int32)))) + l3) + ((3 : Int32) * x55))) fun q58 =>
    ob (gwaI E q58.2 q58.1 (0 : Int32) l1) fun σ60 =>
    ob (gwaI E σ60 q58.1 ((0 : Int32) + 1) l2) fun σ62 =>
    ob (gcl σ62 l0 10) fun _ =>
    ob (X12_conditionCount_f E σ62 l0) fun x64 =>
    ob (gwaI E σ62 q58.1 (((0 : Int32) + 1) + 1) x64) fun σ67 =>
    L_all_92 E (gN E) l0 l1 l2 q58.1 ((((0 : Int32) + 1) + 1) + 1) (0 : Int32) σ67
  else
    ob (gcl σ l0 10) fun _ =>
    ob (X12_dictionarySize_f E l0 l4 σ) fun x69 =>
    gtry x69 (fun _ _ => none) (fun x73 σ72 =>
      r_15 l0 l1 l2 (l3 + x73) (l4 + 1) σ72)
set_option maxHeartbeats 4000000 in
set_option maxRecDepth 100000 in
theorem L_all_15_s_W {σ : gS} {l0 : Nat} {l1 : Int32} {l2 : Int32} {l3 : Int32} {l4 : Int32} {res : (Nat × gS)} {ls : Array Slot} (hC : gC E D A p R s m args meth c cL_all 8 RL "all" 8 134) (hQ : gQR E D A p l e R s m args below meth c Q cL_all res) (hst : l.stackTraces = false) {r_15 : Nat → Int32 → Int32 → Int32 → Int32 → gS → Option (Nat × gS)} (h_15 : ∀ {l0 : Nat} {l1 : Int32} {l2 : Int32} {l3 : Int32} {l4 : Int32} {σ : gS} {H : Heap} {locs : List Loc} {cells slots : Nat} {ls : Array Slot}, r_15 l0 l1 l2 l3 l4 σ = some res → gW E D A s σ H locs → lv_has ls 8 [(0, .ref l0), (1, .int l1), (2, .int l2), (3, .int l3), (4, .int l4)] → W p l e R s m args below meth c H locs cells slots Q (F0 m 15 ls [])) (hf : L_all_15_s E r_15 l0 l1 l2 l3 l4 σ = some res) (hw : gW E D A s σ H locs) (hl : lv_has ls 8 [(0, .ref l0), (1, .int l1), (2, .int l2), (3, .int l3), (4, .int l4)]) : W p l e R s m args below meth c H locs cells slots Q (F0 m 15 ls []) := by
  have hC0 := hC
  obtain ⟨hx, hb, hml, hown, hts, -⟩ := hC0
  unfold L_all_15_s at hf
  refine lv_iload hx hb dL_all_15 (lv_at hl 4 rfl) ?_
  refine lv_iload_n hx hb dL_all_17 rfl (lv_at hl 1 rfl) ?_
  refine lv_icmp_ge (tgt := 36) hx hb dL_all_18 (by decide) (fun c74 => ?_) (fun c74 => ?_)
  · replace hf := (if_pos c74).symm.trans hf
    refine lv_iconst (v := 3) hx hb dL_all_36 (by decide) ?_
    refine lv_iload_n hx hb dL_all_37 rfl (lv_at hl 1 rfl) ?_
    refine lv_iload_n hx hb dL_all_38 rfl (lv_at hl 2 rfl) ?_
    refine lv_iconst (v := 1) hx hb dL_all_39 (by decide) ?_
    refine lv_iadd hx hb dL_all_40 ?_
    refine lv_imul hx hb dL_all_41 ?_
    refine lv_iadd hx hb dL_all_42 ?_
    refine lv_iload_n hx hb dL_all_43 rfl (lv_at hl 3 rfl) ?_
    refine lv_iadd hx hb dL_all_44 ?_
    refine lv_iconst (v := 3) hx hb dL_all_45 (by decide) ?_
    refine lv_aload_n hx hb dL_all_46 rfl (lv_at hl 0 rfl) ?_
    obtain ⟨_, h57, hf⟩ := ob_some hf
    obtain ⟨x55, h56, hf⟩ := ob_some hf
    refine gg_cVI (As := []) hC hw (X12_conditionCount_M l E D A h56) h57 rfl g_ml_L_40 hd_X12_conditionCount (Nat.le_of_ble_eq_true rfl) (Nat.le_of_ble_eq_true rfl) hl.1 rfl (Nat.le_of_ble_eq_true rfl) dL_all_47 (fun H locs cells slots hw => ?_)
    refine lv_imul hx hb dL_all_50 ?_
    refine lv_iadd hx hb dL_all_51 ?_
    obtain ⟨q58, h59, hf⟩ := ob_some hf
    refine gg_naI hC hw h59 dL_all_52 (fun H locs cells slots hw => ?_)
    refine lv_astore (lv' := [(4, .ref q58.1), (0, .ref l0), (1, .int l1), (2, .int l2), (3, .int l3)]) hx hb dL_all_54 hl (by decide) rfl (fun ls hl => ?_)
    refine lv_iconst (v := 0) hx hb dL_all_56 (by decide) ?_
    refine lv_istore (lv' := [(5, .int (0 : Int32)), (4, .ref q58.1), (0, .ref l0), (1, .int l1), (2, .int l2), (3, .int l3)]) hx hb dL_all_57 hl (by decide) rfl (fun ls hl => ?_)
    refine lv_aload hx hb dL_all_59 (lv_at hl 1 rfl) ?_
    refine lv_iload hx hb dL_all_61 (lv_at hl 0 rfl) ?_
    refine lv_iinc (v := ((0 : Int32) + 1)) (lv' := [(5, .int ((0 : Int32) + 1)), (4, .ref q58.1), (0, .ref l0), (1, .int l1), (2, .int l2), (3, .int l3)]) hx hb dL_all_63 hl (k := 0) rfl rfl (by decide) rfl (fun ls hl => ?_)
    refine lv_iload_n hx hb dL_all_66 rfl (lv_at hl 3 rfl) ?_
    obtain ⟨σ60, h61, hf⟩ := ob_some hf
    refine gg_astI hC hw h61 dL_all_67 (fun H locs hw => ?_)
    refine lv_aload hx hb dL_all_68 (lv_at hl 1 rfl) ?_
    refine lv_iload hx hb dL_all_70 (lv_at hl 0 rfl) ?_
    refine lv_iinc (v := (((0 : Int32) + 1) + 1)) (lv' := [(5, .int (((0 : Int32) + 1) + 1)), (4, .ref q58.1), (0, .ref l0), (1, .int l1), (2, .int l2), (3, .int l3)]) hx hb dL_all_72 hl (k := 0) rfl rfl (by decide) rfl (fun ls hl => ?_)
    refine lv_iload_n hx hb dL_all_75 rfl (lv_at hl 4 rfl) ?_
    obtain ⟨σ62, h63, hf⟩ := ob_some hf
    refine gg_astI hC hw h63 dL_all_76 (fun H locs hw => ?_)
    refine lv_aload hx hb dL_all_77 (lv_at hl 1 rfl) ?_
    refine lv_iload hx hb dL_all_79 (lv_at hl 0 rfl) ?_
    refine lv_iinc (v := ((((0 : Int32) + 1) + 1) + 1)) (lv' := [(5, .int ((((0 : Int32) + 1) + 1) + 1)), (4, .ref q58.1), (0, .ref l0), (1, .int l1), (2, .int l2), (3, .int l3)]) hx hb dL_all_81 hl (k := 0) rfl rfl (by decide) rfl (fun ls hl => ?_)
    refine lv_aload_n hx hb dL_all_84 rfl (lv_at hl 2 rfl) ?_
    obtain ⟨_, h66, hf⟩ := ob_some hf
    obtain ⟨x64, h65, hf⟩ := ob_some hf
    refine gg_cVI (As := []) hC hw (X12_conditionCount_M l E D A h65) h66 rfl g_ml_L_40 hd_X12_conditionCount (Nat.le_of_ble_eq_true rfl) (Nat.le_of_ble_eq_true rfl) hl.1 rfl (Nat.le_of_ble_eq_true rfl) dL_all_85 (fun H locs cells slots hw => ?_)
    obtain ⟨σ67, h68, hf⟩ := ob_some hf
    refine gg_astI hC hw h68 dL_all_88 (fun H locs hw => ?_)
    refine lv_iconst (v := 0) hx hb dL_all_89 (by decide) ?_
    refine lv_istore (lv' := [(6, .int (0 : Int32)), (5, .int ((((0 : Int32) + 1) + 1) + 1)), (4, .ref q58.1), (0, .ref l0), (1, .int l1), (2, .int l2), (3, .int l3)]) hx hb dL_all_90 hl (by decide) rfl (fun ls hl => ?_)
    exact L_all_92_W hC hQ hst (gN E) hf hw (lv_sub hl [3, 4, 5, 2, 1, 0] rfl)
  · replace hf := (if_neg c74).symm.trans hf
    refine lv_iload_n hx hb dL_all_21 rfl (lv_at hl 3 rfl) ?_
    refine lv_aload_n hx hb dL_all_22 rfl (lv_at hl 0 rfl) ?_
    refine lv_iload hx hb dL_all_23 (lv_at hl 4 rfl) ?_
    obtain ⟨_, h71, hf⟩ := ob_some hf
    obtain ⟨x69, h70, hf⟩ := ob_some hf
    refine gg_yVI (As := [.int l4]) hC hw (X12_dictionarySize_M l hst E D A h70) h71 rfl g_ml_L_36 hd_X12_dictionarySize (Nat.le_of_ble_eq_true rfl) (Nat.le_of_ble_eq_true rfl) hl.1 rfl (Nat.le_of_ble_eq_true rfl) dL_all_25 (fun k9 σ9 he => ?_) (fun x73 σ72 he H locs cells slots hw => ?_)
    · subst he
      replace hf := gtry_inl.symm.trans hf
      cases hf
    · subst he
      replace hf := gtry_inr.symm.trans hf
      refine lv_iadd hx hb dL_all_28 ?_
      refine lv_istore_n (lv' := [(3, .int (l3 + x73)), (0, .ref l0), (1, .int l1), (2, .int l2), (4, .int l4)]) hx hb dL_all_29 rfl hl (by decide) rfl (fun ls hl => ?_)
      refine lv_iinc (v := (l4 + 1)) (lv' := [(4, .int (l4 + 1)), (3, .int (l3 + x73)), (0, .ref l0), (1, .int l1), (2, .int l2)]) hx hb dL_all_30 hl (k := 4) rfl rfl (by decide) rfl (fun ls hl => ?_)
      refine lv_goto (tgt := 15) hx hb dL_all_33 (by decide) ?_
      exact h_15 hf hw (lv_sub hl [2, 3, 4, 1, 0] rfl)
def L_all_15 (E : gE) : Nat → Nat → Int32 → Int32 → Int32 → Int32 → gS → Option (Nat × gS)
  | 0 => fun _ _ _ _ _ _ => none
  | n + 1 => L_all_15_s E (L_all_15 E n)
theorem L_all_15_W {res : (Nat × gS)} (hC : gC E D A p R s m args meth c cL_all 8 RL "all" 8 134) (hQ : gQR E D A p l e R s m args below meth c Q cL_all res) (hst : l.stackTraces = false) : ∀ (n : Nat), ∀ {l0 : Nat} {l1 : Int32} {l2 : Int32} {l3 : Int32} {l4 : Int32} {σ : gS} {H : Heap} {locs : List Loc} {cells slots : Nat} {ls : Array Slot}, L_all_15 E n l0 l1 l2 l3 l4 σ = some res → gW E D A s σ H locs → lv_has ls 8 [(0, .ref l0), (1, .int l1), (2, .int l2), (3, .int l3), (4, .int l4)] → W p l e R s m args below meth c H locs cells slots Q (F0 m 15 ls []) := by
  intro n
  induction n with
  | zero =>
    intros
    rename_i hf _ _
    exact absurd hf (fun h => by cases (show (none : Option (Nat × gS)) = some res from h))
  | succ n ih =>
    intros
    rename_i hf hw hl
    exact L_all_15_s_W hC hQ hst ih hf hw hl

def L_all (E : gE) (l0 : Nat) (σ : gS) : Option (Nat × gS) :=
  ob (gcl σ l0 10) fun _ =>
  ob (X12_columnCount_f E σ l0) fun x75 =>
  ob (gcl σ l0 10) fun _ =>
  ob (X12_rowCount_f E σ l0) fun x78 =>
  L_all_15 E (gN E) l0 x75 x78 (0 : Int32) (0 : Int32) σ
set_option maxHeartbeats 4000000 in
set_option maxRecDepth 100000 in
theorem L_all_W {σ : gS} {l0 : Nat} {res : (Nat × gS)} {ls : Array Slot} (hC : gC E D A p R s m args meth c cL_all 8 RL "all" 8 134) (hQ : gQR E D A p l e R s m args below meth c Q cL_all res) (hst : l.stackTraces = false) (hf : L_all E l0 σ = some res) (hw : gW E D A s σ H locs) (hl : lv_has ls 8 [(0, .ref l0)]) : W p l e R s m args below meth c H locs cells slots Q (F0 m 0 ls []) := by
  have hC0 := hC
  obtain ⟨hx, hb, hml, hown, hts, -⟩ := hC0
  unfold L_all at hf
  refine lv_aload_n hx hb dL_all_0 rfl (lv_at hl 0 rfl) ?_
  obtain ⟨_, h77, hf⟩ := ob_some hf
  obtain ⟨x75, h76, hf⟩ := ob_some hf
  refine gg_cVI (As := []) hC hw (X12_columnCount_M l E D A h76) h77 rfl g_ml_L_30 hd_X12_columnCount (Nat.le_of_ble_eq_true rfl) (Nat.le_of_ble_eq_true rfl) hl.1 rfl (Nat.le_of_ble_eq_true rfl) dL_all_1 (fun H locs cells slots hw => ?_)
  refine lv_istore_n (lv' := [(1, .int x75), (0, .ref l0)]) hx hb dL_all_4 rfl hl (by decide) rfl (fun ls hl => ?_)
  refine lv_aload_n hx hb dL_all_5 rfl (lv_at hl 1 rfl) ?_
  obtain ⟨_, h80, hf⟩ := ob_some hf
  obtain ⟨x78, h79, hf⟩ := ob_some hf
  refine gg_cVI (As := []) hC hw (X12_rowCount_M l E D A h79) h80 rfl g_ml_L_33 hd_X12_rowCount (Nat.le_of_ble_eq_true rfl) (Nat.le_of_ble_eq_true rfl) hl.1 rfl (Nat.le_of_ble_eq_true rfl) dL_all_6 (fun H locs cells slots hw => ?_)
  refine lv_istore_n (lv' := [(2, .int x78), (1, .int x75), (0, .ref l0)]) hx hb dL_all_9 rfl hl (by decide) rfl (fun ls hl => ?_)
  refine lv_iconst (v := 0) hx hb dL_all_10 (by decide) ?_
  refine lv_istore_n (lv' := [(3, .int (0 : Int32)), (2, .int x78), (1, .int x75), (0, .ref l0)]) hx hb dL_all_11 rfl hl (by decide) rfl (fun ls hl => ?_)
  refine lv_iconst (v := 0) hx hb dL_all_12 (by decide) ?_
  refine lv_istore (lv' := [(4, .int (0 : Int32)), (3, .int (0 : Int32)), (2, .int x78), (1, .int x75), (0, .ref l0)]) hx hb dL_all_13 hl (by decide) rfl (fun ls hl => ?_)
  exact L_all_15_W hC hQ hst (gN E) hf hw (lv_sub hl [4, 3, 2, 1, 0] rfl)

def L_all_f (E : gE) (l0 : Nat) (σ : gS) : Option (Nat × gS) := L_all E l0 σ
set_option maxRecDepth 100000 in
theorem L_all_M (l : Launch) (hst : l.stackTraces = false) (E : gE) (D : va_G) (A : Nat → Prop) {l0 : Nat} {σ : gS} {res : (Nat × gS)} (hf : L_all_f E l0 σ = some res) : gCR l E D A yL_all cL_all 8 8 134 (some (FieldType.array FieldType.int)) [.ref l0] σ res := by
  refine gg_entR (own := RL) (nm := "all") (ty := ((FieldType.array FieldType.int))) (by decide +kernel) rfl rfl (Nat.le_of_ble_eq_true rfl) rfl (by first | exact Or.inl ⟨_, rfl⟩ | exact Or.inr ⟨_, rfl⟩) ?_
  intro p e R s m args below meth c Q ls hC hw hQ hl
  have hl : lv_has ls 8 [(0, .ref l0)] := hl
  exact L_all_W hC hQ hst hf hw hl

def L_say_2_s (E : gE) (r_2 : Nat → Nat → Nat → Int32 → gS → Option gS) (l0 : Nat) (l1 : Nat) (l2 : Nat) (l3 : Int32) (σ : gS) : Option gS :=
  ob (gcl σ l2 12) fun _ =>
  ob (J0_length_8abf5m_f E σ l2) fun x1 =>
  if x1 ≤ l3 then
    some σ
  else
    ob (gcl σ l2 12) fun _ =>
    ob (J0_charAt_5068em_f E σ l2 l3) fun x4 =>
    ob (L_add_f E l0 l1 x4 σ) fun x7 =>
    r_2 l0 l1 l2 (l3 + 1) x7
set_option maxHeartbeats 4000000 in
set_option maxRecDepth 100000 in
theorem L_say_2_s_W {σ : gS} {l0 : Nat} {l1 : Nat} {l2 : Nat} {l3 : Int32} {σz : gS} {ls : Array Slot} (hC : gC E D A p R s m args meth c cL_say 4 RL "say" 5 106) (hQ : gQV E D A p l e R s m args below meth c Q cL_say σz) (hst : l.stackTraces = false) {r_2 : Nat → Nat → Nat → Int32 → gS → Option gS} (h_2 : ∀ {l0 : Nat} {l1 : Nat} {l2 : Nat} {l3 : Int32} {σ : gS} {H : Heap} {locs : List Loc} {cells slots : Nat} {ls : Array Slot}, r_2 l0 l1 l2 l3 σ = some σz → gW E D A s σ H locs → lv_has ls 4 [(0, .ref l0), (1, .ref l1), (2, .ref l2), (3, .int l3)] → W p l e R s m args below meth c H locs cells slots Q (F0 m 2 ls [])) (hf : L_say_2_s E r_2 l0 l1 l2 l3 σ = some σz) (hw : gW E D A s σ H locs) (hl : lv_has ls 4 [(0, .ref l0), (1, .ref l1), (2, .ref l2), (3, .int l3)]) : W p l e R s m args below meth c H locs cells slots Q (F0 m 2 ls []) := by
  have hC0 := hC
  obtain ⟨hx, hb, hml, hown, hts, -⟩ := hC0
  unfold L_say_2_s at hf
  refine lv_iload_n hx hb dL_say_2 rfl (lv_at hl 3 rfl) ?_
  refine lv_aload_n hx hb dL_say_3 rfl (lv_at hl 2 rfl) ?_
  obtain ⟨_, h3, hf⟩ := ob_some hf
  obtain ⟨x1, h2, hf⟩ := ob_some hf
  refine gg_cVI (As := []) hC hw (J0_length_8abf5m_M l E D A h2) h3 rfl g_ml_L_14 hd_J0_length_8abf5 (Nat.le_of_ble_eq_true rfl) (Nat.le_of_ble_eq_true rfl) hl.1 rfl (Nat.le_of_ble_eq_true rfl) dL_say_4 (fun H locs cells slots hw => ?_)
  refine lv_icmp_ge (tgt := 26) hx hb dL_say_7 (by decide) (fun c9 => ?_) (fun c9 => ?_)
  · replace hf := (if_pos c9).symm.trans hf
    cases hf
    exact hQ _ _ _ _ _ _ dL_say_26 hw
  · replace hf := (if_neg c9).symm.trans hf
    refine lv_aload_n hx hb dL_say_10 rfl (lv_at hl 0 rfl) ?_
    refine lv_aload_n hx hb dL_say_11 rfl (lv_at hl 1 rfl) ?_
    refine lv_aload_n hx hb dL_say_12 rfl (lv_at hl 2 rfl) ?_
    refine lv_iload_n hx hb dL_say_13 rfl (lv_at hl 3 rfl) ?_
    obtain ⟨_, h6, hf⟩ := ob_some hf
    obtain ⟨x4, h5, hf⟩ := ob_some hf
    refine gg_cVI (As := [.int l3]) hC hw (J0_charAt_5068em_M l E D A h5) h6 rfl g_ml_L_20 hd_J0_charAt_5068e (Nat.le_of_ble_eq_true rfl) (Nat.le_of_ble_eq_true rfl) hl.1 rfl (Nat.le_of_ble_eq_true rfl) dL_say_14 (fun H locs cells slots hw => ?_)
    obtain ⟨x7, h8, hf⟩ := ob_some hf
    refine gg_cSV (As := [.ref l0, .ref l1, .int x4]) hC hw (L_add_M l hst E D A h8) g_ml_L_24 hd_L_add.2 (Nat.le_of_ble_eq_true rfl) (Nat.le_of_ble_eq_true rfl) hl.1 rfl (Nat.le_of_ble_eq_true rfl) dL_say_17 (fun H locs cells slots hw => ?_)
    refine lv_iinc (v := (l3 + 1)) (lv' := [(3, .int (l3 + 1)), (0, .ref l0), (1, .ref l1), (2, .ref l2)]) hx hb dL_say_20 hl (k := 3) rfl rfl (by decide) rfl (fun ls hl => ?_)
    refine lv_goto (tgt := 2) hx hb dL_say_23 (by decide) ?_
    exact h_2 hf hw (lv_sub hl [1, 2, 3, 0] rfl)
def L_say_2 (E : gE) : Nat → Nat → Nat → Nat → Int32 → gS → Option gS
  | 0 => fun _ _ _ _ _ => none
  | n + 1 => L_say_2_s E (L_say_2 E n)
theorem L_say_2_W {σz : gS} (hC : gC E D A p R s m args meth c cL_say 4 RL "say" 5 106) (hQ : gQV E D A p l e R s m args below meth c Q cL_say σz) (hst : l.stackTraces = false) : ∀ (n : Nat), ∀ {l0 : Nat} {l1 : Nat} {l2 : Nat} {l3 : Int32} {σ : gS} {H : Heap} {locs : List Loc} {cells slots : Nat} {ls : Array Slot}, L_say_2 E n l0 l1 l2 l3 σ = some σz → gW E D A s σ H locs → lv_has ls 4 [(0, .ref l0), (1, .ref l1), (2, .ref l2), (3, .int l3)] → W p l e R s m args below meth c H locs cells slots Q (F0 m 2 ls []) := by
  intro n
  induction n with
  | zero =>
    intros
    rename_i hf _ _
    exact absurd hf (fun h => by cases (show (none : Option gS) = some σz from h))
  | succ n ih =>
    intros
    rename_i hf hw hl
    exact L_say_2_s_W hC hQ hst ih hf hw hl

def L_say (E : gE) (l0 : Nat) (l1 : Nat) (l2 : Nat) (σ : gS) : Option gS :=
  L_say_2 E (gN E) l0 l1 l2 (0 : Int32) σ
set_option maxHeartbeats 4000000 in
set_option maxRecDepth 100000 in
theorem L_say_W {σ : gS} {l0 : Nat} {l1 : Nat} {l2 : Nat} {σz : gS} {ls : Array Slot} (hC : gC E D A p R s m args meth c cL_say 4 RL "say" 5 106) (hQ : gQV E D A p l e R s m args below meth c Q cL_say σz) (hst : l.stackTraces = false) (hf : L_say E l0 l1 l2 σ = some σz) (hw : gW E D A s σ H locs) (hl : lv_has ls 4 [(0, .ref l0), (1, .ref l1), (2, .ref l2)]) : W p l e R s m args below meth c H locs cells slots Q (F0 m 0 ls []) := by
  have hC0 := hC
  obtain ⟨hx, hb, hml, hown, hts, -⟩ := hC0
  unfold L_say at hf
  refine lv_iconst (v := 0) hx hb dL_say_0 (by decide) ?_
  refine lv_istore_n (lv' := [(3, .int (0 : Int32)), (0, .ref l0), (1, .ref l1), (2, .ref l2)]) hx hb dL_say_1 rfl hl (by decide) rfl (fun ls hl => ?_)
  exact L_say_2_W hC hQ hst (gN E) hf hw (lv_sub hl [1, 2, 3, 0] rfl)

def L_say_f (E : gE) (l0 : Nat) (l1 : Nat) (l2 : Nat) (σ : gS) : Option gS := L_say E l0 l1 l2 σ
set_option maxRecDepth 100000 in
theorem L_say_M (l : Launch) (hst : l.stackTraces = false) (E : gE) (D : va_G) (A : Nat → Prop) {l0 : Nat} {l1 : Nat} {l2 : Nat} {σ : gS} {σz : gS} (hf : L_say_f E l0 l1 l2 σ = some σz) : gCV l E D A yL_say cL_say 4 5 106 none [.ref l0, .ref l1, .ref l2] σ σz := by
  refine gg_entV (own := RL) (nm := "say") (by decide +kernel) rfl rfl (Nat.le_of_ble_eq_true rfl) rfl ?_
  intro p e R s m args below meth c Q ls hC hw hQ hl
  have hl : lv_has ls 4 [(0, .ref l0), (1, .ref l1), (2, .ref l2)] := hl
  exact L_say_W hC hQ hst hf hw hl

def L_areColumns_127 (E : gE) (σ : gS) : Option (Int32 × gS) :=
  some ((0 : Int32), σ)
set_option maxHeartbeats 4000000 in
set_option maxRecDepth 100000 in
theorem L_areColumns_127_W {σ : gS} {res : (Int32 × gS)} {ls : Array Slot} (hC : gC E D A p R s m args meth c cL_areColumns 11 RL "areColumns" 8 167) (hQ : gQI E D A p l e R s m args below meth c Q cL_areColumns FieldType.boolean res) (hst : l.stackTraces = false) (hf : L_areColumns_127 E σ = some res) (hw : gW E D A s σ H locs) (hl : lv_has ls 11 []) : W p l e R s m args below meth c H locs cells slots Q (F0 m 127 ls []) := by
  have hC0 := hC
  obtain ⟨hx, hb, hml, hown, hts, -⟩ := hC0
  unfold L_areColumns_127 at hf
  refine lv_iconst (v := 0) hx hb dL_areColumns_127 (by decide) ?_
  cases hf
  exact hQ _ _ _ _ _ _ dL_areColumns_128 gz0 hw

def L_areColumns_110 (E : gE) (r_9 : Nat → Int32 → Int32 → Int32 → gS → Option (Int32 × gS)) (r_47 : Nat → Int32 → Int32 → Int32 → Int32 → Int32 → Int32 → Int32 → Int32 → gS → Option (Int32 × gS)) (l0 : Nat) (l1 : Int32) (l2 : Int32) (l3 : Int32) (l4 : Int32) (l5 : Int32) (l6 : Int32) (l7 : Int32) (l8 : Int32) (σ : gS) : Option (Int32 × gS) :=
  ob (gcl σ l0 10) fun _ =>
  ob (X12_dictionaryValue_f E l0 l3 l8 σ) fun x1 =>
  gtry x1 (fun _ _ => none) (fun x5 σ4 =>
    ob (gcl σ4 l0 10) fun _ =>
    ob (X12_findCode_f E l0 l3 x5 σ4) fun x6 =>
    gtry x6 (fun _ _ => none) (fun x10 σ9 =>
      if x10 = l8 then
        r_47 l0 l1 l2 l3 l4 l5 l6 l7 (l8 + 1) σ9
      else
        L_areColumns_127 E σ9))
set_option maxHeartbeats 4000000 in
set_option maxRecDepth 100000 in
theorem L_areColumns_110_W {σ : gS} {l0 : Nat} {l1 : Int32} {l2 : Int32} {l3 : Int32} {l4 : Int32} {l5 : Int32} {l6 : Int32} {l7 : Int32} {l8 : Int32} {res : (Int32 × gS)} {ls : Array Slot} (hC : gC E D A p R s m args meth c cL_areColumns 11 RL "areColumns" 8 167) (hQ : gQI E D A p l e R s m args below meth c Q cL_areColumns FieldType.boolean res) (hst : l.stackTraces = false) {r_9 : Nat → Int32 → Int32 → Int32 → gS → Option (Int32 × gS)} (h_9 : ∀ {l0 : Nat} {l1 : Int32} {l2 : Int32} {l3 : Int32} {σ : gS} {H : Heap} {locs : List Loc} {cells slots : Nat} {ls : Array Slot}, r_9 l0 l1 l2 l3 σ = some res → gW E D A s σ H locs → lv_has ls 11 [(0, .ref l0), (1, .int l1), (2, .int l2), (3, .int l3)] → W p l e R s m args below meth c H locs cells slots Q (F0 m 9 ls [])) {r_47 : Nat → Int32 → Int32 → Int32 → Int32 → Int32 → Int32 → Int32 → Int32 → gS → Option (Int32 × gS)} (h_47 : ∀ {l0 : Nat} {l1 : Int32} {l2 : Int32} {l3 : Int32} {l4 : Int32} {l5 : Int32} {l6 : Int32} {l7 : Int32} {l8 : Int32} {σ : gS} {H : Heap} {locs : List Loc} {cells slots : Nat} {ls : Array Slot}, r_47 l0 l1 l2 l3 l4 l5 l6 l7 l8 σ = some res → gW E D A s σ H locs → lv_has ls 11 [(0, .ref l0), (1, .int l1), (2, .int l2), (3, .int l3), (4, .int l4), (5, .int l5), (6, .int l6), (7, .int l7), (8, .int l8)] → W p l e R s m args below meth c H locs cells slots Q (F0 m 47 ls [])) (hf : L_areColumns_110 E r_9 r_47 l0 l1 l2 l3 l4 l5 l6 l7 l8 σ = some res) (hw : gW E D A s σ H locs) (hl : lv_has ls 11 [(0, .ref l0), (1, .int l1), (2, .int l2), (3, .int l3), (4, .int l4), (5, .int l5), (6, .int l6), (7, .int l7), (8, .int l8)]) : W p l e R s m args below meth c H locs cells slots Q (F0 m 110 ls []) := by
  have hC0 := hC
  obtain ⟨hx, hb, hml, hown, hts, -⟩ := hC0
  unfold L_areColumns_110 at hf
  refine lv_aload_n hx hb dL_areColumns_110 rfl (lv_at hl 0 rfl) ?_
  refine lv_iload_n hx hb dL_areColumns_111 rfl (lv_at hl 3 rfl) ?_
  refine lv_aload_n hx hb dL_areColumns_112 rfl (lv_at hl 0 rfl) ?_
  refine lv_iload_n hx hb dL_areColumns_113 rfl (lv_at hl 3 rfl) ?_
  refine lv_iload hx hb dL_areColumns_114 (lv_at hl 8 rfl) ?_
  obtain ⟨_, h3, hf⟩ := ob_some hf
  obtain ⟨x1, h2, hf⟩ := ob_some hf
  refine gg_yVI (As := [.int l3, .int l8]) hC hw (X12_dictionaryValue_M l hst E D A h2) h3 rfl g_ml_L_47 hd_X12_dictionaryValue (Nat.le_of_ble_eq_true rfl) (Nat.le_of_ble_eq_true rfl) hl.1 rfl (Nat.le_of_ble_eq_true rfl) dL_areColumns_116 (fun k9 σ9 he => ?_) (fun x5 σ4 he H locs cells slots hw => ?_)
  · subst he
    replace hf := gtry_inl.symm.trans hf
    cases hf
  · subst he
    replace hf := gtry_inr.symm.trans hf
    obtain ⟨_, h8, hf⟩ := ob_some hf
    obtain ⟨x6, h7, hf⟩ := ob_some hf
    refine gg_yVI (As := [.int l3, .int x5]) hC hw (X12_findCode_M l hst E D A h7) h8 rfl g_ml_L_65 hd_X12_findCode (Nat.le_of_ble_eq_true rfl) (Nat.le_of_ble_eq_true rfl) hl.1 rfl (Nat.le_of_ble_eq_true rfl) dL_areColumns_119 (fun k9 σ9 he => ?_) (fun x10 σ9 he H locs cells slots hw => ?_)
    · subst he
      replace hf := gtry_inl.symm.trans hf
      cases hf
    · subst he
      replace hf := gtry_inr.symm.trans hf
      refine lv_iload hx hb dL_areColumns_122 (lv_at hl 8 rfl) ?_
      refine lv_icmp_eq (tgt := 129) hx hb dL_areColumns_124 (by decide) (fun c11 => ?_) (fun c11 => ?_)
      · replace hf := (if_pos c11).symm.trans hf
        refine lv_iinc (v := (l8 + 1)) (lv' := [(8, .int (l8 + 1)), (0, .ref l0), (1, .int l1), (2, .int l2), (3, .int l3), (4, .int l4), (5, .int l5), (6, .int l6), (7, .int l7)]) hx hb dL_areColumns_129 hl (k := 8) rfl rfl (by decide) rfl (fun ls hl => ?_)
        refine lv_goto (tgt := 47) hx hb dL_areColumns_132 (by decide) ?_
        exact h_47 hf hw (lv_sub hl [1, 2, 3, 4, 5, 6, 7, 8, 0] rfl)
      · replace hf := (if_neg c11).symm.trans hf
        exact L_areColumns_127_W hC hQ hst hf hw (lv_sub hl [] rfl)

def L_areColumns_83 (E : gE) (r_9 : Nat → Int32 → Int32 → Int32 → gS → Option (Int32 × gS)) (r_47 : Nat → Int32 → Int32 → Int32 → Int32 → Int32 → Int32 → Int32 → Int32 → gS → Option (Int32 × gS)) (l0 : Nat) (l1 : Int32) (l2 : Int32) (l3 : Int32) (l4 : Int32) (l5 : Int32) (l6 : Int32) (l8 : Int32) (s0 : Int32) (s1 : Int32) (σ : gS) : Option (Int32 × gS) :=
  if l8 ≤ 0 then
    L_areColumns_110 E r_9 r_47 l0 l1 l2 l3 l4 l5 l6 (s1 + s0) l8 σ
  else
    ob (gcl σ l0 10) fun _ =>
    ob (X12_dictionaryValue_f E l0 l3 (l8 - (1 : Int32)) σ) fun x12 =>
    gtry x12 (fun _ _ => none) (fun x16 σ15 =>
      ob (gcl σ15 l0 10) fun _ =>
      ob (X12_dictionaryValue_f E l0 l3 l8 σ15) fun x17 =>
      gtry x17 (fun _ _ => none) (fun x21 σ20 =>
        if x21 ≤ x16 then
          L_areColumns_127 E σ20
        else
          L_areColumns_110 E r_9 r_47 l0 l1 l2 l3 l4 l5 l6 (s1 + s0) l8 σ20))
set_option maxHeartbeats 4000000 in
set_option maxRecDepth 100000 in
theorem L_areColumns_83_W {σ : gS} {l0 : Nat} {l1 : Int32} {l2 : Int32} {l3 : Int32} {l4 : Int32} {l5 : Int32} {l6 : Int32} {l8 : Int32} {s0 : Int32} {s1 : Int32} {res : (Int32 × gS)} {ls : Array Slot} (hC : gC E D A p R s m args meth c cL_areColumns 11 RL "areColumns" 8 167) (hQ : gQI E D A p l e R s m args below meth c Q cL_areColumns FieldType.boolean res) (hst : l.stackTraces = false) {r_9 : Nat → Int32 → Int32 → Int32 → gS → Option (Int32 × gS)} (h_9 : ∀ {l0 : Nat} {l1 : Int32} {l2 : Int32} {l3 : Int32} {σ : gS} {H : Heap} {locs : List Loc} {cells slots : Nat} {ls : Array Slot}, r_9 l0 l1 l2 l3 σ = some res → gW E D A s σ H locs → lv_has ls 11 [(0, .ref l0), (1, .int l1), (2, .int l2), (3, .int l3)] → W p l e R s m args below meth c H locs cells slots Q (F0 m 9 ls [])) {r_47 : Nat → Int32 → Int32 → Int32 → Int32 → Int32 → Int32 → Int32 → Int32 → gS → Option (Int32 × gS)} (h_47 : ∀ {l0 : Nat} {l1 : Int32} {l2 : Int32} {l3 : Int32} {l4 : Int32} {l5 : Int32} {l6 : Int32} {l7 : Int32} {l8 : Int32} {σ : gS} {H : Heap} {locs : List Loc} {cells slots : Nat} {ls : Array Slot}, r_47 l0 l1 l2 l3 l4 l5 l6 l7 l8 σ = some res → gW E D A s σ H locs → lv_has ls 11 [(0, .ref l0), (1, .int l1), (2, .int l2), (3, .int l3), (4, .int l4), (5, .int l5), (6, .int l6), (7, .int l7), (8, .int l8)] → W p l e R s m args below meth c H locs cells slots Q (F0 m 47 ls [])) (hf : L_areColumns_83 E r_9 r_47 l0 l1 l2 l3 l4 l5 l6 l8 s0 s1 σ = some res) (hw : gW E D A s σ H locs) (hl : lv_has ls 11 [(0, .ref l0), (1, .int l1), (2, .int l2), (3, .int l3), (4, .int l4), (5, .int l5), (6, .int l6), (8, .int l8)]) : W p l e R s m args below meth c H locs cells slots Q (F0 m 83 ls [.int s0, .int s1]) := by
  have hC0 := hC
  obtain ⟨hx, hb, hml, hown, hts, -⟩ := hC0
  unfold L_areColumns_83 at hf
  refine lv_iadd hx hb dL_areColumns_83 ?_
  refine lv_istore (lv' := [(7, .int (s1 + s0)), (0, .ref l0), (1, .int l1), (2, .int l2), (3, .int l3), (4, .int l4), (5, .int l5), (6, .int l6), (8, .int l8)]) hx hb dL_areColumns_84 hl (by decide) rfl (fun ls hl => ?_)
  refine lv_iload hx hb dL_areColumns_86 (lv_at hl 8 rfl) ?_
  refine lv_if_le (tgt := 110) hx hb dL_areColumns_88 (by decide) (fun c23 => ?_) (fun c23 => ?_)
  · replace hf := (if_pos c23).symm.trans hf
    exact L_areColumns_110_W hC hQ hst h_9 h_47 hf hw (lv_sub hl [1, 2, 3, 4, 5, 6, 7, 0, 8] rfl)
  · replace hf := (if_neg c23).symm.trans hf
    refine lv_aload_n hx hb dL_areColumns_91 rfl (lv_at hl 1 rfl) ?_
    refine lv_iload_n hx hb dL_areColumns_92 rfl (lv_at hl 4 rfl) ?_
    refine lv_iload hx hb dL_areColumns_93 (lv_at hl 8 rfl) ?_
    refine lv_iconst (v := 1) hx hb dL_areColumns_95 (by decide) ?_
    refine lv_isub hx hb dL_areColumns_96 ?_
    obtain ⟨_, h14, hf⟩ := ob_some hf
    obtain ⟨x12, h13, hf⟩ := ob_some hf
    refine gg_yVI (As := [.int l3, .int (l8 - (1 : Int32))]) hC hw (X12_dictionaryValue_M l hst E D A h13) h14 rfl g_ml_L_47 hd_X12_dictionaryValue (Nat.le_of_ble_eq_true rfl) (Nat.le_of_ble_eq_true rfl) hl.1 rfl (Nat.le_of_ble_eq_true rfl) dL_areColumns_97 (fun k9 σ9 he => ?_) (fun x16 σ15 he H locs cells slots hw => ?_)
    · subst he
      replace hf := gtry_inl.symm.trans hf
      cases hf
    · subst he
      replace hf := gtry_inr.symm.trans hf
      refine lv_aload_n hx hb dL_areColumns_100 rfl (lv_at hl 1 rfl) ?_
      refine lv_iload_n hx hb dL_areColumns_101 rfl (lv_at hl 4 rfl) ?_
      refine lv_iload hx hb dL_areColumns_102 (lv_at hl 8 rfl) ?_
      obtain ⟨_, h19, hf⟩ := ob_some hf
      obtain ⟨x17, h18, hf⟩ := ob_some hf
      refine gg_yVI (As := [.int l3, .int l8]) hC hw (X12_dictionaryValue_M l hst E D A h18) h19 rfl g_ml_L_47 hd_X12_dictionaryValue (Nat.le_of_ble_eq_true rfl) (Nat.le_of_ble_eq_true rfl) hl.1 rfl (Nat.le_of_ble_eq_true rfl) dL_areColumns_104 (fun k9 σ9 he => ?_) (fun x21 σ20 he H locs cells slots hw => ?_)
      · subst he
        replace hf := gtry_inl.symm.trans hf
        cases hf
      · subst he
        replace hf := gtry_inr.symm.trans hf
        refine lv_icmp_ge (tgt := 127) hx hb dL_areColumns_107 (by decide) (fun c22 => ?_) (fun c22 => ?_)
        · replace hf := (if_pos c22).symm.trans hf
          exact L_areColumns_127_W hC hQ hst hf hw (lv_sub hl [] rfl)
        · replace hf := (if_neg c22).symm.trans hf
          exact L_areColumns_110_W hC hQ hst h_9 h_47 hf hw (lv_sub hl [1, 2, 3, 4, 5, 6, 7, 0, 8] rfl)

def L_areColumns_231 (E : gE) (σ : gS) : Option (Int32 × gS) :=
  some ((0 : Int32), σ)
set_option maxHeartbeats 4000000 in
set_option maxRecDepth 100000 in
theorem L_areColumns_231_W {σ : gS} {res : (Int32 × gS)} {ls : Array Slot} (hC : gC E D A p R s m args meth c cL_areColumns 11 RL "areColumns" 8 167) (hQ : gQI E D A p l e R s m args below meth c Q cL_areColumns FieldType.boolean res) (hst : l.stackTraces = false) (hf : L_areColumns_231 E σ = some res) (hw : gW E D A s σ H locs) (hl : lv_has ls 11 []) : W p l e R s m args below meth c H locs cells slots Q (F0 m 231 ls []) := by
  have hC0 := hC
  obtain ⟨hx, hb, hml, hown, hts, -⟩ := hC0
  unfold L_areColumns_231 at hf
  refine lv_iconst (v := 0) hx hb dL_areColumns_231 (by decide) ?_
  cases hf
  exact hQ _ _ _ _ _ _ dL_areColumns_232 gz0 hw

def L_areColumns_150_s (E : gE) (r_9 : Nat → Int32 → Int32 → Int32 → gS → Option (Int32 × gS)) (r_138 : Nat → Int32 → Int32 → Int32 → Int32 → Int32 → Int32 → Int32 → Int32 → gS → Option (Int32 × gS)) (r_150 : Nat → Int32 → Int32 → Int32 → Int32 → Int32 → Int32 → Int32 → Int32 → Int32 → Int32 → gS → Option (Int32 × gS)) (l0 : Nat) (l1 : Int32) (l2 : Int32) (l3 : Int32) (l4 : Int32) (l5 : Int32) (l6 : Int32) (l7 : Int32) (l8 : Int32) (l9 : Int32) (l10 : Int32) (σ : gS) : Option (Int32 × gS) :=
  if l5 ≤ l10 then
    ob (gcl σ l0 10) fun _ =>
    ob (X12_code_f E l0 l3 l8 σ) fun x24 =>
    gtry x24 (fun _ _ => none) (fun x28 σ27 =>
      if l9 = x28 then
        ob (gcl σ27 l0 10) fun _ =>
        ob (X12_dictionaryValue_f E l0 l3 l9 σ27) fun x29 =>
        gtry x29 (fun _ _ => none) (fun x33 σ32 =>
          ob (gcl σ32 l0 10) fun _ =>
          ob (X12_value_f E l0 l3 l8 σ32) fun x34 =>
          gtry x34 (fun _ _ => none) (fun x38 σ37 =>
            if x33 = x38 then
              r_138 l0 l1 l2 l3 l4 l5 l6 l7 (l8 + 1) σ37
            else
              L_areColumns_231 E σ37))
      else
        L_areColumns_231 E σ27)
  else
    ob (gcl σ l0 10) fun _ =>
    ob (X12_packedWord_f E l0 l3 (((l8 * l5) + l10) / (64 : Int32)) σ) fun x41 =>
    gtry x41 (fun _ _ => none) (fun x45 σ44 =>
      r_150 l0 l1 l2 l3 l4 l5 l6 l7 l8 (l9 ||| ((((glushr x45 (((l8 * l5) + l10) - ((l8 * l5) + l10) / (64 : Int32) * (64 : Int32))) &&& (1 : Int64))).toInt32 <<< (l10 &&& 31))) (l10 + 1) σ44)
set_option maxHeartbeats 4000000 in
set_option maxRecDepth 100000 in
theorem L_areColumns_150_s_W {σ : gS} {l0 : Nat} {l1 : Int32} {l2 : Int32} {l3 : Int32} {l4 : Int32} {l5 : Int32} {l6 : Int32} {l7 : Int32} {l8 : Int32} {l9 : Int32} {l10 : Int32} {res : (Int32 × gS)} {ls : Array Slot} (hC : gC E D A p R s m args meth c cL_areColumns 11 RL "areColumns" 8 167) (hQ : gQI E D A p l e R s m args below meth c Q cL_areColumns FieldType.boolean res) (hst : l.stackTraces = false) {r_9 : Nat → Int32 → Int32 → Int32 → gS → Option (Int32 × gS)} (h_9 : ∀ {l0 : Nat} {l1 : Int32} {l2 : Int32} {l3 : Int32} {σ : gS} {H : Heap} {locs : List Loc} {cells slots : Nat} {ls : Array Slot}, r_9 l0 l1 l2 l3 σ = some res → gW E D A s σ H locs → lv_has ls 11 [(0, .ref l0), (1, .int l1), (2, .int l2), (3, .int l3)] → W p l e R s m args below meth c H locs cells slots Q (F0 m 9 ls [])) {r_138 : Nat → Int32 → Int32 → Int32 → Int32 → Int32 → Int32 → Int32 → Int32 → gS → Option (Int32 × gS)} (h_138 : ∀ {l0 : Nat} {l1 : Int32} {l2 : Int32} {l3 : Int32} {l4 : Int32} {l5 : Int32} {l6 : Int32} {l7 : Int32} {l8 : Int32} {σ : gS} {H : Heap} {locs : List Loc} {cells slots : Nat} {ls : Array Slot}, r_138 l0 l1 l2 l3 l4 l5 l6 l7 l8 σ = some res → gW E D A s σ H locs → lv_has ls 11 [(0, .ref l0), (1, .int l1), (2, .int l2), (3, .int l3), (4, .int l4), (5, .int l5), (6, .int l6), (7, .int l7), (8, .int l8)] → W p l e R s m args below meth c H locs cells slots Q (F0 m 138 ls [])) {r_150 : Nat → Int32 → Int32 → Int32 → Int32 → Int32 → Int32 → Int32 → Int32 → Int32 → Int32 → gS → Option (Int32 × gS)} (h_150 : ∀ {l0 : Nat} {l1 : Int32} {l2 : Int32} {l3 : Int32} {l4 : Int32} {l5 : Int32} {l6 : Int32} {l7 : Int32} {l8 : Int32} {l9 : Int32} {l10 : Int32} {σ : gS} {H : Heap} {locs : List Loc} {cells slots : Nat} {ls : Array Slot}, r_150 l0 l1 l2 l3 l4 l5 l6 l7 l8 l9 l10 σ = some res → gW E D A s σ H locs → lv_has ls 11 [(0, .ref l0), (1, .int l1), (2, .int l2), (3, .int l3), (4, .int l4), (5, .int l5), (6, .int l6), (7, .int l7), (8, .int l8), (9, .int l9), (10, .int l10)] → W p l e R s m args below meth c H locs cells slots Q (F0 m 150 ls [])) (hf : L_areColumns_150_s E r_9 r_138 r_150 l0 l1 l2 l3 l4 l5 l6 l7 l8 l9 l10 σ = some res) (hw : gW E D A s σ H locs) (hl : lv_has ls 11 [(0, .ref l0), (1, .int l1), (2, .int l2), (3, .int l3), (4, .int l4), (5, .int l5), (6, .int l6), (7, .int l7), (8, .int l8), (9, .int l9), (10, .int l10)]) : W p l e R s m args below meth c H locs cells slots Q (F0 m 150 ls []) := by
  have hC0 := hC
  obtain ⟨hx, hb, hml, hown, hts, -⟩ := hC0
  unfold L_areColumns_150_s at hf
  refine lv_iload hx hb dL_areColumns_150 (lv_at hl 10 rfl) ?_
  refine lv_iload hx hb dL_areColumns_152 (lv_at hl 5 rfl) ?_
  refine lv_icmp_ge (tgt := 202) hx hb dL_areColumns_154 (by decide) (fun c46 => ?_) (fun c46 => ?_)
  · replace hf := (if_pos c46).symm.trans hf
    refine lv_iload hx hb dL_areColumns_202 (lv_at hl 9 rfl) ?_
    refine lv_aload_n hx hb dL_areColumns_204 rfl (lv_at hl 0 rfl) ?_
    refine lv_iload_n hx hb dL_areColumns_205 rfl (lv_at hl 3 rfl) ?_
    refine lv_iload hx hb dL_areColumns_206 (lv_at hl 8 rfl) ?_
    obtain ⟨_, h26, hf⟩ := ob_some hf
    obtain ⟨x24, h25, hf⟩ := ob_some hf
    refine gg_yVI (As := [.int l3, .int l8]) hC hw (X12_code_M l hst E D A h25) h26 rfl g_ml_L_72 hd_X12_code (Nat.le_of_ble_eq_true rfl) (Nat.le_of_ble_eq_true rfl) hl.1 rfl (Nat.le_of_ble_eq_true rfl) dL_areColumns_208 (fun k9 σ9 he => ?_) (fun x28 σ27 he H locs cells slots hw => ?_)
    · subst he
      replace hf := gtry_inl.symm.trans hf
      cases hf
    · subst he
      replace hf := gtry_inr.symm.trans hf
      refine lv_icmp_ne (tgt := 231) hx hb dL_areColumns_211 (by decide) (fun c40 => ?_) (fun c40 => ?_)
      · replace hf := (if_neg c40).symm.trans hf
        exact L_areColumns_231_W hC hQ hst hf hw (lv_sub hl [] rfl)
      · replace hf := (if_pos c40).symm.trans hf
        refine lv_aload_n hx hb dL_areColumns_214 rfl (lv_at hl 0 rfl) ?_
        refine lv_iload_n hx hb dL_areColumns_215 rfl (lv_at hl 3 rfl) ?_
        refine lv_iload hx hb dL_areColumns_216 (lv_at hl 9 rfl) ?_
        obtain ⟨_, h31, hf⟩ := ob_some hf
        obtain ⟨x29, h30, hf⟩ := ob_some hf
        refine gg_yVI (As := [.int l3, .int l9]) hC hw (X12_dictionaryValue_M l hst E D A h30) h31 rfl g_ml_L_47 hd_X12_dictionaryValue (Nat.le_of_ble_eq_true rfl) (Nat.le_of_ble_eq_true rfl) hl.1 rfl (Nat.le_of_ble_eq_true rfl) dL_areColumns_218 (fun k9 σ9 he => ?_) (fun x33 σ32 he H locs cells slots hw => ?_)
        · subst he
          replace hf := gtry_inl.symm.trans hf
          cases hf
        · subst he
          replace hf := gtry_inr.symm.trans hf
          refine lv_aload_n hx hb dL_areColumns_221 rfl (lv_at hl 0 rfl) ?_
          refine lv_iload_n hx hb dL_areColumns_222 rfl (lv_at hl 3 rfl) ?_
          refine lv_iload hx hb dL_areColumns_223 (lv_at hl 8 rfl) ?_
          obtain ⟨_, h36, hf⟩ := ob_some hf
          obtain ⟨x34, h35, hf⟩ := ob_some hf
          refine gg_yVI (As := [.int l3, .int l8]) hC hw (X12_value_M l hst E D A h35) h36 rfl g_ml_L_43 hd_X12_value (Nat.le_of_ble_eq_true rfl) (Nat.le_of_ble_eq_true rfl) hl.1 rfl (Nat.le_of_ble_eq_true rfl) dL_areColumns_225 (fun k9 σ9 he => ?_) (fun x38 σ37 he H locs cells slots hw => ?_)
          · subst he
            replace hf := gtry_inl.symm.trans hf
            cases hf
          · subst he
            replace hf := gtry_inr.symm.trans hf
            refine lv_icmp_eq (tgt := 233) hx hb dL_areColumns_228 (by decide) (fun c39 => ?_) (fun c39 => ?_)
            · replace hf := (if_pos c39).symm.trans hf
              refine lv_iinc (v := (l8 + 1)) (lv' := [(8, .int (l8 + 1)), (0, .ref l0), (1, .int l1), (2, .int l2), (3, .int l3), (4, .int l4), (5, .int l5), (6, .int l6), (7, .int l7), (9, .int l9), (10, .int l10)]) hx hb dL_areColumns_233 hl (k := 8) rfl rfl (by decide) rfl (fun ls hl => ?_)
              refine lv_goto (tgt := 138) hx hb dL_areColumns_236 (by decide) ?_
              exact h_138 hf hw (lv_sub hl [1, 2, 3, 4, 5, 6, 7, 8, 0] rfl)
            · replace hf := (if_neg c39).symm.trans hf
              exact L_areColumns_231_W hC hQ hst hf hw (lv_sub hl [] rfl)
  · replace hf := (if_neg c46).symm.trans hf
    refine lv_iload hx hb dL_areColumns_157 (lv_at hl 9 rfl) ?_
    refine lv_aload_n hx hb dL_areColumns_159 rfl (lv_at hl 0 rfl) ?_
    refine lv_iload_n hx hb dL_areColumns_160 rfl (lv_at hl 3 rfl) ?_
    refine lv_iload hx hb dL_areColumns_161 (lv_at hl 8 rfl) ?_
    refine lv_iload hx hb dL_areColumns_163 (lv_at hl 5 rfl) ?_
    refine lv_imul hx hb dL_areColumns_165 ?_
    refine lv_iload hx hb dL_areColumns_166 (lv_at hl 10 rfl) ?_
    refine lv_iadd hx hb dL_areColumns_168 ?_
    refine lv_bipush (v := 64) hx hb dL_areColumns_169 (by decide) ?_
    refine lv_idiv hx hb dL_areColumns_171 (by decide) ?_
    obtain ⟨_, h43, hf⟩ := ob_some hf
    obtain ⟨x41, h42, hf⟩ := ob_some hf
    refine gg_yVJ (As := [.int l3, .int (((l8 * l5) + l10) / (64 : Int32))]) hC hw (X12_packedWord_M l hst E D A h42) h43 rfl g_ml_L_68 hd_X12_packedWord (Nat.le_of_ble_eq_true rfl) (Nat.le_of_ble_eq_true rfl) hl.1 rfl (Nat.le_of_ble_eq_true rfl) dL_areColumns_172 (fun k9 σ9 he => ?_) (fun x45 σ44 he H locs cells slots hw => ?_)
    · subst he
      replace hf := gtry_inl.symm.trans hf
      cases hf
    · subst he
      replace hf := gtry_inr.symm.trans hf
      refine lv_iload hx hb dL_areColumns_175 (lv_at hl 8 rfl) ?_
      refine lv_iload hx hb dL_areColumns_177 (lv_at hl 5 rfl) ?_
      refine lv_imul hx hb dL_areColumns_179 ?_
      refine lv_iload hx hb dL_areColumns_180 (lv_at hl 10 rfl) ?_
      refine lv_iadd hx hb dL_areColumns_182 ?_
      refine lv_bipush (v := 64) hx hb dL_areColumns_183 (by decide) ?_
      refine lv_irem hx hb dL_areColumns_185 (by decide) ?_
      refine lv_lushr (v := glushr x45 (((l8 * l5) + l10) - ((l8 * l5) + l10) / (64 : Int32) * (64 : Int32))) hx hb dL_areColumns_186 rfl ?_
      refine lv_lconst (v := 1) hx hb dL_areColumns_187 (by decide) ?_
      refine lv_land hx hb dL_areColumns_188 ?_
      refine lv_l2i (v := (((glushr x45 (((l8 * l5) + l10) - ((l8 * l5) + l10) / (64 : Int32) * (64 : Int32))) &&& (1 : Int64))).toInt32) hx hb dL_areColumns_189 rfl ?_
      refine lv_iload hx hb dL_areColumns_190 (lv_at hl 10 rfl) ?_
      refine lv_ishl hx hb dL_areColumns_192 ?_
      refine lv_ior hx hb dL_areColumns_193 ?_
      refine lv_istore (lv' := [(9, .int (l9 ||| ((((glushr x45 (((l8 * l5) + l10) - ((l8 * l5) + l10) / (64 : Int32) * (64 : Int32))) &&& (1 : Int64))).toInt32 <<< (l10 &&& 31)))), (0, .ref l0), (1, .int l1), (2, .int l2), (3, .int l3), (4, .int l4), (5, .int l5), (6, .int l6), (7, .int l7), (8, .int l8), (10, .int l10)]) hx hb dL_areColumns_194 hl (by decide) rfl (fun ls hl => ?_)
      refine lv_iinc (v := (l10 + 1)) (lv' := [(10, .int (l10 + 1)), (9, .int (l9 ||| ((((glushr x45 (((l8 * l5) + l10) - ((l8 * l5) + l10) / (64 : Int32) * (64 : Int32))) &&& (1 : Int64))).toInt32 <<< (l10 &&& 31)))), (0, .ref l0), (1, .int l1), (2, .int l2), (3, .int l3), (4, .int l4), (5, .int l5), (6, .int l6), (7, .int l7), (8, .int l8)]) hx hb dL_areColumns_196 hl (k := 10) rfl rfl (by decide) rfl (fun ls hl => ?_)
      refine lv_goto (tgt := 150) hx hb dL_areColumns_199 (by decide) ?_
      exact h_150 hf hw (lv_sub hl [2, 3, 4, 5, 6, 7, 8, 9, 10, 1, 0] rfl)
def L_areColumns_150 (E : gE) (r_9 : Nat → Int32 → Int32 → Int32 → gS → Option (Int32 × gS)) (r_138 : Nat → Int32 → Int32 → Int32 → Int32 → Int32 → Int32 → Int32 → Int32 → gS → Option (Int32 × gS)) : Nat → Nat → Int32 → Int32 → Int32 → Int32 → Int32 → Int32 → Int32 → Int32 → Int32 → Int32 → gS → Option (Int32 × gS)
  | 0 => fun _ _ _ _ _ _ _ _ _ _ _ _ => none
  | n + 1 => L_areColumns_150_s E r_9 r_138 (L_areColumns_150 E r_9 r_138 n)
theorem L_areColumns_150_W {res : (Int32 × gS)} (hC : gC E D A p R s m args meth c cL_areColumns 11 RL "areColumns" 8 167) (hQ : gQI E D A p l e R s m args below meth c Q cL_areColumns FieldType.boolean res) (hst : l.stackTraces = false) {r_9 : Nat → Int32 → Int32 → Int32 → gS → Option (Int32 × gS)} (h_9 : ∀ {l0 : Nat} {l1 : Int32} {l2 : Int32} {l3 : Int32} {σ : gS} {H : Heap} {locs : List Loc} {cells slots : Nat} {ls : Array Slot}, r_9 l0 l1 l2 l3 σ = some res → gW E D A s σ H locs → lv_has ls 11 [(0, .ref l0), (1, .int l1), (2, .int l2), (3, .int l3)] → W p l e R s m args below meth c H locs cells slots Q (F0 m 9 ls [])) {r_138 : Nat → Int32 → Int32 → Int32 → Int32 → Int32 → Int32 → Int32 → Int32 → gS → Option (Int32 × gS)} (h_138 : ∀ {l0 : Nat} {l1 : Int32} {l2 : Int32} {l3 : Int32} {l4 : Int32} {l5 : Int32} {l6 : Int32} {l7 : Int32} {l8 : Int32} {σ : gS} {H : Heap} {locs : List Loc} {cells slots : Nat} {ls : Array Slot}, r_138 l0 l1 l2 l3 l4 l5 l6 l7 l8 σ = some res → gW E D A s σ H locs → lv_has ls 11 [(0, .ref l0), (1, .int l1), (2, .int l2), (3, .int l3), (4, .int l4), (5, .int l5), (6, .int l6), (7, .int l7), (8, .int l8)] → W p l e R s m args below meth c H locs cells slots Q (F0 m 138 ls [])) : ∀ (n : Nat), ∀ {l0 : Nat} {l1 : Int32} {l2 : Int32} {l3 : Int32} {l4 : Int32} {l5 : Int32} {l6 : Int32} {l7 : Int32} {l8 : Int32} {l9 : Int32} {l10 : Int32} {σ : gS} {H : Heap} {locs : List Loc} {cells slots : Nat} {ls : Array Slot}, L_areColumns_150 E r_9 r_138 n l0 l1 l2 l3 l4 l5 l6 l7 l8 l9 l10 σ = some res → gW E D A s σ H locs → lv_has ls 11 [(0, .ref l0), (1, .int l1), (2, .int l2), (3, .int l3), (4, .int l4), (5, .int l5), (6, .int l6), (7, .int l7), (8, .int l8), (9, .int l9), (10, .int l10)] → W p l e R s m args below meth c H locs cells slots Q (F0 m 150 ls []) := by
  intro n
  induction n with
  | zero =>
    intros
    rename_i hf _ _
    exact absurd hf (fun h => by cases (show (none : Option (Int32 × gS)) = some res from h))
  | succ n ih =>
    intros
    rename_i hf hw hl
    exact L_areColumns_150_s_W hC hQ hst h_9 h_138 ih hf hw hl

def L_areColumns_380 (E : gE) (σ : gS) : Option (Int32 × gS) :=
  some ((0 : Int32), σ)
set_option maxHeartbeats 4000000 in
set_option maxRecDepth 100000 in
theorem L_areColumns_380_W {σ : gS} {res : (Int32 × gS)} {ls : Array Slot} (hC : gC E D A p R s m args meth c cL_areColumns 11 RL "areColumns" 8 167) (hQ : gQI E D A p l e R s m args below meth c Q cL_areColumns FieldType.boolean res) (hst : l.stackTraces = false) (hf : L_areColumns_380 E σ = some res) (hw : gW E D A s σ H locs) (hl : lv_has ls 11 []) : W p l e R s m args below meth c H locs cells slots Q (F0 m 380 ls []) := by
  have hC0 := hC
  obtain ⟨hx, hb, hml, hown, hts, -⟩ := hC0
  unfold L_areColumns_380 at hf
  refine lv_iconst (v := 0) hx hb dL_areColumns_380 (by decide) ?_
  cases hf
  exact hQ _ _ _ _ _ _ dL_areColumns_381 gz0 hw

def L_areColumns_361 (E : gE) (r_9 : Nat → Int32 → Int32 → Int32 → gS → Option (Int32 × gS)) (l0 : Nat) (l1 : Int32) (l2 : Int32) (l3 : Int32) (s0 : Int32) (s1 : Int32) (σ : gS) : Option (Int32 × gS) :=
  if s0 < s1 then
    L_areColumns_380 E σ
  else
    ob (gcl σ l0 10) fun _ =>
    ob (X12_runsIfSorted_f E l0 l3 σ) fun x47 =>
    gtry x47 (fun _ _ => none) (fun x51 σ50 =>
      ob (gcl σ50 l0 10) fun _ =>
      ob (X12_bestSortColumn_f E l0 σ50) fun x52 =>
      ob (gcl x52.2 l0 10) fun _ =>
      ob (X12_runsIfSorted_f E l0 x52.1 x52.2) fun x55 =>
      gtry x55 (fun _ _ => none) (fun x59 σ58 =>
        if x59 ≤ x51 then
          r_9 l0 l1 l2 (l3 + 1) σ58
        else
          L_areColumns_380 E σ58))
set_option maxHeartbeats 4000000 in
set_option maxRecDepth 100000 in
theorem L_areColumns_361_W {σ : gS} {l0 : Nat} {l1 : Int32} {l2 : Int32} {l3 : Int32} {s0 : Int32} {s1 : Int32} {res : (Int32 × gS)} {ls : Array Slot} (hC : gC E D A p R s m args meth c cL_areColumns 11 RL "areColumns" 8 167) (hQ : gQI E D A p l e R s m args below meth c Q cL_areColumns FieldType.boolean res) (hst : l.stackTraces = false) {r_9 : Nat → Int32 → Int32 → Int32 → gS → Option (Int32 × gS)} (h_9 : ∀ {l0 : Nat} {l1 : Int32} {l2 : Int32} {l3 : Int32} {σ : gS} {H : Heap} {locs : List Loc} {cells slots : Nat} {ls : Array Slot}, r_9 l0 l1 l2 l3 σ = some res → gW E D A s σ H locs → lv_has ls 11 [(0, .ref l0), (1, .int l1), (2, .int l2), (3, .int l3)] → W p l e R s m args below meth c H locs cells slots Q (F0 m 9 ls [])) (hf : L_areColumns_361 E r_9 l0 l1 l2 l3 s0 s1 σ = some res) (hw : gW E D A s σ H locs) (hl : lv_has ls 11 [(0, .ref l0), (1, .int l1), (2, .int l2), (3, .int l3)]) : W p l e R s m args below meth c H locs cells slots Q (F0 m 361 ls [.int s0, .int s1]) := by
  have hC0 := hC
  obtain ⟨hx, hb, hml, hown, hts, -⟩ := hC0
  unfold L_areColumns_361 at hf
  refine lv_icmp_gt (tgt := 380) hx hb dL_areColumns_361 (by decide) (fun c61 => ?_) (fun c61 => ?_)
  · replace hf := (if_pos c61).symm.trans hf
    exact L_areColumns_380_W hC hQ hst hf hw (lv_sub hl [] rfl)
  · replace hf := (if_neg c61).symm.trans hf
    refine lv_aload_n hx hb dL_areColumns_364 rfl (lv_at hl 0 rfl) ?_
    refine lv_iload_n hx hb dL_areColumns_365 rfl (lv_at hl 3 rfl) ?_
    obtain ⟨_, h49, hf⟩ := ob_some hf
    obtain ⟨x47, h48, hf⟩ := ob_some hf
    refine gg_yVI (As := [.int l3]) hC hw (X12_runsIfSorted_M l hst E D A h48) h49 rfl g_ml_L_97 hd_X12_runsIfSorted (Nat.le_of_ble_eq_true rfl) (Nat.le_of_ble_eq_true rfl) hl.1 rfl (Nat.le_of_ble_eq_true rfl) dL_areColumns_366 (fun k9 σ9 he => ?_) (fun x51 σ50 he H locs cells slots hw => ?_)
    · subst he
      replace hf := gtry_inl.symm.trans hf
      cases hf
    · subst he
      replace hf := gtry_inr.symm.trans hf
      refine lv_aload_n hx hb dL_areColumns_369 rfl (lv_at hl 0 rfl) ?_
      refine lv_aload_n hx hb dL_areColumns_370 rfl (lv_at hl 0 rfl) ?_
      obtain ⟨_, h54, hf⟩ := ob_some hf
      obtain ⟨x52, h53, hf⟩ := ob_some hf
      refine gg_cVI (As := []) hC hw (X12_bestSortColumn_M l E D A h53) h54 rfl g_ml_L_100 hd_X12_bestSortColumn (Nat.le_of_ble_eq_true rfl) (Nat.le_of_ble_eq_true rfl) hl.1 rfl (Nat.le_of_ble_eq_true rfl) dL_areColumns_371 (fun H locs cells slots hw => ?_)
      obtain ⟨_, h57, hf⟩ := ob_some hf
      obtain ⟨x55, h56, hf⟩ := ob_some hf
      refine gg_yVI (As := [.int x52.1]) hC hw (X12_runsIfSorted_M l hst E D A h56) h57 rfl g_ml_L_97 hd_X12_runsIfSorted (Nat.le_of_ble_eq_true rfl) (Nat.le_of_ble_eq_true rfl) hl.1 rfl (Nat.le_of_ble_eq_true rfl) dL_areColumns_374 (fun k9 σ9 he => ?_) (fun x59 σ58 he H locs cells slots hw => ?_)
      · subst he
        replace hf := gtry_inl.symm.trans hf
        cases hf
      · subst he
        replace hf := gtry_inr.symm.trans hf
        refine lv_icmp_ge (tgt := 382) hx hb dL_areColumns_377 (by decide) (fun c60 => ?_) (fun c60 => ?_)
        · replace hf := (if_pos c60).symm.trans hf
          refine lv_iinc (v := (l3 + 1)) (lv' := [(3, .int (l3 + 1)), (0, .ref l0), (1, .int l1), (2, .int l2)]) hx hb dL_areColumns_382 hl (k := 3) rfl rfl (by decide) rfl (fun ls hl => ?_)
          refine lv_goto (tgt := 9) hx hb dL_areColumns_385 (by decide) ?_
          exact h_9 hf hw (lv_sub hl [1, 2, 3, 0] rfl)
        · replace hf := (if_neg c60).symm.trans hf
          exact L_areColumns_380_W hC hQ hst hf hw (lv_sub hl [] rfl)

def L_areColumns_338 (E : gE) (r_9 : Nat → Int32 → Int32 → Int32 → gS → Option (Int32 × gS)) (l0 : Nat) (l1 : Int32) (l2 : Int32) (l3 : Int32) (σ : gS) : Option (Int32 × gS) :=
  ob (gcl σ l0 10) fun _ =>
  ob (X12_longestRun_f E l0 l3 σ) fun x62 =>
  gtry x62 (fun _ _ => none) (fun x66 σ65 =>
    if l1 = 0 then
      L_areColumns_361 E r_9 l0 l1 l2 l3 (0 : Int32) x66 σ65
    else
      ob (gcl σ65 l0 10) fun _ =>
      ob (X12_commonestCode_f E l0 l3 σ65) fun x67 =>
      gtry x67 (fun _ _ => none) (fun x71 σ70 =>
        ob (gcl σ70 l0 10) fun _ =>
        ob (X12_frequency_f E l0 l3 x71 σ70) fun x72 =>
        gtry x72 (fun _ _ => none) (fun x76 σ75 =>
          L_areColumns_361 E r_9 l0 l1 l2 l3 x76 x66 σ75)))
set_option maxHeartbeats 4000000 in
set_option maxRecDepth 100000 in
theorem L_areColumns_338_W {σ : gS} {l0 : Nat} {l1 : Int32} {l2 : Int32} {l3 : Int32} {res : (Int32 × gS)} {ls : Array Slot} (hC : gC E D A p R s m args meth c cL_areColumns 11 RL "areColumns" 8 167) (hQ : gQI E D A p l e R s m args below meth c Q cL_areColumns FieldType.boolean res) (hst : l.stackTraces = false) {r_9 : Nat → Int32 → Int32 → Int32 → gS → Option (Int32 × gS)} (h_9 : ∀ {l0 : Nat} {l1 : Int32} {l2 : Int32} {l3 : Int32} {σ : gS} {H : Heap} {locs : List Loc} {cells slots : Nat} {ls : Array Slot}, r_9 l0 l1 l2 l3 σ = some res → gW E D A s σ H locs → lv_has ls 11 [(0, .ref l0), (1, .int l1), (2, .int l2), (3, .int l3)] → W p l e R s m args below meth c H locs cells slots Q (F0 m 9 ls [])) (hf : L_areColumns_338 E r_9 l0 l1 l2 l3 σ = some res) (hw : gW E D A s σ H locs) (hl : lv_has ls 11 [(0, .ref l0), (1, .int l1), (2, .int l2), (3, .int l3)]) : W p l e R s m args below meth c H locs cells slots Q (F0 m 338 ls []) := by
  have hC0 := hC
  obtain ⟨hx, hb, hml, hown, hts, -⟩ := hC0
  unfold L_areColumns_338 at hf
  refine lv_aload_n hx hb dL_areColumns_338 rfl (lv_at hl 0 rfl) ?_
  refine lv_iload_n hx hb dL_areColumns_339 rfl (lv_at hl 3 rfl) ?_
  obtain ⟨_, h64, hf⟩ := ob_some hf
  obtain ⟨x62, h63, hf⟩ := ob_some hf
  refine gg_yVI (As := [.int l3]) hC hw (X12_longestRun_M l hst E D A h63) h64 rfl g_ml_L_91 hd_X12_longestRun (Nat.le_of_ble_eq_true rfl) (Nat.le_of_ble_eq_true rfl) hl.1 rfl (Nat.le_of_ble_eq_true rfl) dL_areColumns_340 (fun k9 σ9 he => ?_) (fun x66 σ65 he H locs cells slots hw => ?_)
  · subst he
    replace hf := gtry_inl.symm.trans hf
    cases hf
  · subst he
    replace hf := gtry_inr.symm.trans hf
    refine lv_iload_n hx hb dL_areColumns_343 rfl (lv_at hl 1 rfl) ?_
    refine lv_if_ne (tgt := 351) hx hb dL_areColumns_344 (by decide) (fun c77 => ?_) (fun c77 => ?_)
    · replace hf := (if_neg c77).symm.trans hf
      refine lv_aload_n hx hb dL_areColumns_351 rfl (lv_at hl 0 rfl) ?_
      refine lv_iload_n hx hb dL_areColumns_352 rfl (lv_at hl 3 rfl) ?_
      refine lv_aload_n hx hb dL_areColumns_353 rfl (lv_at hl 0 rfl) ?_
      refine lv_iload_n hx hb dL_areColumns_354 rfl (lv_at hl 3 rfl) ?_
      obtain ⟨_, h69, hf⟩ := ob_some hf
      obtain ⟨x67, h68, hf⟩ := ob_some hf
      refine gg_yVI (As := [.int l3]) hC hw (X12_commonestCode_M l hst E D A h68) h69 rfl g_ml_L_94 hd_X12_commonestCode (Nat.le_of_ble_eq_true rfl) (Nat.le_of_ble_eq_true rfl) hl.1 rfl (Nat.le_of_ble_eq_true rfl) dL_areColumns_355 (fun k9 σ9 he => ?_) (fun x71 σ70 he H locs cells slots hw => ?_)
      · subst he
        replace hf := gtry_inl.symm.trans hf
        cases hf
      · subst he
        replace hf := gtry_inr.symm.trans hf
        obtain ⟨_, h74, hf⟩ := ob_some hf
        obtain ⟨x72, h73, hf⟩ := ob_some hf
        refine gg_yVI (As := [.int l3, .int x71]) hC hw (X12_frequency_M l hst E D A h73) h74 rfl g_ml_L_62 hd_X12_frequency (Nat.le_of_ble_eq_true rfl) (Nat.le_of_ble_eq_true rfl) hl.1 rfl (Nat.le_of_ble_eq_true rfl) dL_areColumns_358 (fun k9 σ9 he => ?_) (fun x76 σ75 he H locs cells slots hw => ?_)
        · subst he
          replace hf := gtry_inl.symm.trans hf
          cases hf
        · subst he
          replace hf := gtry_inr.symm.trans hf
          exact L_areColumns_361_W hC hQ hst h_9 hf hw (lv_sub hl [0, 1, 2, 3] rfl)
    · replace hf := (if_pos c77).symm.trans hf
      refine lv_iconst (v := 0) hx hb dL_areColumns_347 (by decide) ?_
      refine lv_goto (tgt := 361) hx hb dL_areColumns_348 (by decide) ?_
      exact L_areColumns_361_W hC hQ hst h_9 hf hw (lv_sub hl [0, 1, 2, 3] rfl)

def L_areColumns_280 (E : gE) (r_9 : Nat → Int32 → Int32 → Int32 → gS → Option (Int32 × gS)) (l0 : Nat) (l1 : Int32) (l2 : Int32) (l3 : Int32) (l4 : Int32) (l5 : Int32) (l7 : Int32) (σ : gS) : Option (Int32 × gS) :=
  ob (gcl σ l0 10) fun _ =>
  ob (X12_wordCount_f E l0 l3 σ) fun x78 =>
  gtry x78 (fun _ _ => none) (fun x82 σ81 =>
    if x82 = (((l1 * l5) + (63 : Int32)) / (64 : Int32)) then
      ob (gcl σ81 l0 10) fun _ =>
      ob (X12_bitWidthCompacted_f E l0 l3 σ81) fun x83 =>
      gtry x83 (fun _ _ => none) (fun x87 σ86 =>
        if l5 < x87 then
          L_areColumns_380 E σ86
        else
          ob (gcl σ86 l0 10) fun _ =>
          ob (X12_runCount_f E l0 l3 σ86) fun x88 =>
          gtry x88 (fun _ _ => none) (fun x92 σ91 =>
            if l1 < x92 then
              L_areColumns_380 E σ91
            else
              ob (gcl σ91 l0 10) fun _ =>
              ob (X12_isSorted_f E l0 l3 σ91) fun x93 =>
              gtry x93 (fun _ _ => none) (fun x97 σ96 =>
                if x97 = 0 then
                  L_areColumns_338 E r_9 l0 l1 l2 l3 σ96
                else
                  ob (gcl σ96 l0 10) fun _ =>
                  ob (X12_runCount_f E l0 l3 σ96) fun x98 =>
                  gtry x98 (fun _ _ => none) (fun x102 σ101 =>
                    if x102 = (l4 - l7) then
                      L_areColumns_338 E r_9 l0 l1 l2 l3 σ101
                    else
                      L_areColumns_380 E σ101))))
    else
      L_areColumns_380 E σ81)
set_option maxHeartbeats 4000000 in
set_option maxRecDepth 100000 in
theorem L_areColumns_280_W {σ : gS} {l0 : Nat} {l1 : Int32} {l2 : Int32} {l3 : Int32} {l4 : Int32} {l5 : Int32} {l7 : Int32} {res : (Int32 × gS)} {ls : Array Slot} (hC : gC E D A p R s m args meth c cL_areColumns 11 RL "areColumns" 8 167) (hQ : gQI E D A p l e R s m args below meth c Q cL_areColumns FieldType.boolean res) (hst : l.stackTraces = false) {r_9 : Nat → Int32 → Int32 → Int32 → gS → Option (Int32 × gS)} (h_9 : ∀ {l0 : Nat} {l1 : Int32} {l2 : Int32} {l3 : Int32} {σ : gS} {H : Heap} {locs : List Loc} {cells slots : Nat} {ls : Array Slot}, r_9 l0 l1 l2 l3 σ = some res → gW E D A s σ H locs → lv_has ls 11 [(0, .ref l0), (1, .int l1), (2, .int l2), (3, .int l3)] → W p l e R s m args below meth c H locs cells slots Q (F0 m 9 ls [])) (hf : L_areColumns_280 E r_9 l0 l1 l2 l3 l4 l5 l7 σ = some res) (hw : gW E D A s σ H locs) (hl : lv_has ls 11 [(0, .ref l0), (1, .int l1), (2, .int l2), (3, .int l3), (4, .int l4), (5, .int l5), (7, .int l7)]) : W p l e R s m args below meth c H locs cells slots Q (F0 m 280 ls []) := by
  have hC0 := hC
  obtain ⟨hx, hb, hml, hown, hts, -⟩ := hC0
  unfold L_areColumns_280 at hf
  refine lv_aload_n hx hb dL_areColumns_280 rfl (lv_at hl 0 rfl) ?_
  refine lv_iload_n hx hb dL_areColumns_281 rfl (lv_at hl 3 rfl) ?_
  obtain ⟨_, h80, hf⟩ := ob_some hf
  obtain ⟨x78, h79, hf⟩ := ob_some hf
  refine gg_yVI (As := [.int l3]) hC hw (X12_wordCount_M l hst E D A h79) h80 rfl g_ml_L_78 hd_X12_wordCount (Nat.le_of_ble_eq_true rfl) (Nat.le_of_ble_eq_true rfl) hl.1 rfl (Nat.le_of_ble_eq_true rfl) dL_areColumns_282 (fun k9 σ9 he => ?_) (fun x82 σ81 he H locs cells slots hw => ?_)
  · subst he
    replace hf := gtry_inl.symm.trans hf
    cases hf
  · subst he
    replace hf := gtry_inr.symm.trans hf
    refine lv_iload_n hx hb dL_areColumns_285 rfl (lv_at hl 1 rfl) ?_
    refine lv_iload hx hb dL_areColumns_286 (lv_at hl 5 rfl) ?_
    refine lv_imul hx hb dL_areColumns_288 ?_
    refine lv_bipush (v := 63) hx hb dL_areColumns_289 (by decide) ?_
    refine lv_iadd hx hb dL_areColumns_291 ?_
    refine lv_bipush (v := 64) hx hb dL_areColumns_292 (by decide) ?_
    refine lv_idiv hx hb dL_areColumns_294 (by decide) ?_
    refine lv_icmp_ne (tgt := 380) hx hb dL_areColumns_295 (by decide) (fun c107 => ?_) (fun c107 => ?_)
    · replace hf := (if_neg c107).symm.trans hf
      exact L_areColumns_380_W hC hQ hst hf hw (lv_sub hl [] rfl)
    · replace hf := (if_pos c107).symm.trans hf
      refine lv_aload_n hx hb dL_areColumns_298 rfl (lv_at hl 0 rfl) ?_
      refine lv_iload_n hx hb dL_areColumns_299 rfl (lv_at hl 3 rfl) ?_
      obtain ⟨_, h85, hf⟩ := ob_some hf
      obtain ⟨x83, h84, hf⟩ := ob_some hf
      refine gg_yVI (As := [.int l3]) hC hw (X12_bitWidthCompacted_M l hst E D A h84) h85 rfl g_ml_L_81 hd_X12_bitWidthCompacted (Nat.le_of_ble_eq_true rfl) (Nat.le_of_ble_eq_true rfl) hl.1 rfl (Nat.le_of_ble_eq_true rfl) dL_areColumns_300 (fun k9 σ9 he => ?_) (fun x87 σ86 he H locs cells slots hw => ?_)
      · subst he
        replace hf := gtry_inl.symm.trans hf
        cases hf
      · subst he
        replace hf := gtry_inr.symm.trans hf
        refine lv_iload hx hb dL_areColumns_303 (lv_at hl 5 rfl) ?_
        refine lv_icmp_gt (tgt := 380) hx hb dL_areColumns_305 (by decide) (fun c106 => ?_) (fun c106 => ?_)
        · replace hf := (if_pos c106).symm.trans hf
          exact L_areColumns_380_W hC hQ hst hf hw (lv_sub hl [] rfl)
        · replace hf := (if_neg c106).symm.trans hf
          refine lv_aload_n hx hb dL_areColumns_308 rfl (lv_at hl 0 rfl) ?_
          refine lv_iload_n hx hb dL_areColumns_309 rfl (lv_at hl 3 rfl) ?_
          obtain ⟨_, h90, hf⟩ := ob_some hf
          obtain ⟨x88, h89, hf⟩ := ob_some hf
          refine gg_yVI (As := [.int l3]) hC hw (X12_runCount_M l hst E D A h89) h90 rfl g_ml_L_84 hd_X12_runCount (Nat.le_of_ble_eq_true rfl) (Nat.le_of_ble_eq_true rfl) hl.1 rfl (Nat.le_of_ble_eq_true rfl) dL_areColumns_310 (fun k9 σ9 he => ?_) (fun x92 σ91 he H locs cells slots hw => ?_)
          · subst he
            replace hf := gtry_inl.symm.trans hf
            cases hf
          · subst he
            replace hf := gtry_inr.symm.trans hf
            refine lv_iload_n hx hb dL_areColumns_313 rfl (lv_at hl 1 rfl) ?_
            refine lv_icmp_gt (tgt := 380) hx hb dL_areColumns_314 (by decide) (fun c105 => ?_) (fun c105 => ?_)
            · replace hf := (if_pos c105).symm.trans hf
              exact L_areColumns_380_W hC hQ hst hf hw (lv_sub hl [] rfl)
            · replace hf := (if_neg c105).symm.trans hf
              refine lv_aload_n hx hb dL_areColumns_317 rfl (lv_at hl 0 rfl) ?_
              refine lv_iload_n hx hb dL_areColumns_318 rfl (lv_at hl 3 rfl) ?_
              obtain ⟨_, h95, hf⟩ := ob_some hf
              obtain ⟨x93, h94, hf⟩ := ob_some hf
              refine gg_yVI (As := [.int l3]) hC hw (X12_isSorted_M l hst E D A h94) h95 rfl g_ml_L_87 hd_X12_isSorted (Nat.le_of_ble_eq_true rfl) (Nat.le_of_ble_eq_true rfl) hl.1 rfl (Nat.le_of_ble_eq_true rfl) dL_areColumns_319 (fun k9 σ9 he => ?_) (fun x97 σ96 he H locs cells slots hw => ?_)
              · subst he
                replace hf := gtry_inl.symm.trans hf
                cases hf
              · subst he
                replace hf := gtry_inr.symm.trans hf
                refine lv_if_eq (tgt := 338) hx hb dL_areColumns_322 (by decide) (fun c104 => ?_) (fun c104 => ?_)
                · replace hf := (if_pos c104).symm.trans hf
                  exact L_areColumns_338_W hC hQ hst h_9 hf hw (lv_sub hl [0, 1, 2, 3] rfl)
                · replace hf := (if_neg c104).symm.trans hf
                  refine lv_aload_n hx hb dL_areColumns_325 rfl (lv_at hl 0 rfl) ?_
                  refine lv_iload_n hx hb dL_areColumns_326 rfl (lv_at hl 3 rfl) ?_
                  obtain ⟨_, h100, hf⟩ := ob_some hf
                  obtain ⟨x98, h99, hf⟩ := ob_some hf
                  refine gg_yVI (As := [.int l3]) hC hw (X12_runCount_M l hst E D A h99) h100 rfl g_ml_L_84 hd_X12_runCount (Nat.le_of_ble_eq_true rfl) (Nat.le_of_ble_eq_true rfl) hl.1 rfl (Nat.le_of_ble_eq_true rfl) dL_areColumns_327 (fun k9 σ9 he => ?_) (fun x102 σ101 he H locs cells slots hw => ?_)
                  · subst he
                    replace hf := gtry_inl.symm.trans hf
                    cases hf
                  · subst he
                    replace hf := gtry_inr.symm.trans hf
                    refine lv_iload hx hb dL_areColumns_330 (lv_at hl 4 rfl) ?_
                    refine lv_iload hx hb dL_areColumns_332 (lv_at hl 6 rfl) ?_
                    refine lv_isub hx hb dL_areColumns_334 ?_
                    refine lv_icmp_ne (tgt := 380) hx hb dL_areColumns_335 (by decide) (fun c103 => ?_) (fun c103 => ?_)
                    · replace hf := (if_neg c103).symm.trans hf
                      exact L_areColumns_380_W hC hQ hst hf hw (lv_sub hl [] rfl)
                    · replace hf := (if_pos c103).symm.trans hf
                      exact L_areColumns_338_W hC hQ hst h_9 hf hw (lv_sub hl [0, 1, 2, 3] rfl)

def L_areColumns_138_s (E : gE) (r_9 : Nat → Int32 → Int32 → Int32 → gS → Option (Int32 × gS)) (r_138 : Nat → Int32 → Int32 → Int32 → Int32 → Int32 → Int32 → Int32 → Int32 → gS → Option (Int32 × gS)) (l0 : Nat) (l1 : Int32) (l2 : Int32) (l3 : Int32) (l4 : Int32) (l5 : Int32) (l6 : Int32) (l7 : Int32) (l8 : Int32) (σ : gS) : Option (Int32 × gS) :=
  if l1 ≤ l8 then
    if l6 = l1 then
      ob (gcl σ l0 10) fun _ =>
      ob (X12_staleCount_f E l0 l3 σ) fun x108 =>
      gtry x108 (fun _ _ => none) (fun x112 σ111 =>
        if l7 = x112 then
          if ((1 : Int32) <<< (l5 &&& 31)) < l4 then
            L_areColumns_380 E σ111
          else
            if l5 ≤ 0 then
              L_areColumns_280 E r_9 l0 l1 l2 l3 l4 l5 l7 σ111
            else
              if l4 ≤ ((1 : Int32) <<< ((l5 - (1 : Int32)) &&& 31)) then
                L_areColumns_380 E σ111
              else
                L_areColumns_280 E r_9 l0 l1 l2 l3 l4 l5 l7 σ111
        else
          L_areColumns_380 E σ111)
    else
      L_areColumns_380 E σ
  else
    L_areColumns_150 E r_9 r_138 (gN E) l0 l1 l2 l3 l4 l5 l6 l7 l8 (0 : Int32) (0 : Int32) σ
set_option maxHeartbeats 4000000 in
set_option maxRecDepth 100000 in
theorem L_areColumns_138_s_W {σ : gS} {l0 : Nat} {l1 : Int32} {l2 : Int32} {l3 : Int32} {l4 : Int32} {l5 : Int32} {l6 : Int32} {l7 : Int32} {l8 : Int32} {res : (Int32 × gS)} {ls : Array Slot} (hC : gC E D A p R s m args meth c cL_areColumns 11 RL "areColumns" 8 167) (hQ : gQI E D A p l e R s m args below meth c Q cL_areColumns FieldType.boolean res) (hst : l.stackTraces = false) {r_9 : Nat → Int32 → Int32 → Int32 → gS → Option (Int32 × gS)} (h_9 : ∀ {l0 : Nat} {l1 : Int32} {l2 : Int32} {l3 : Int32} {σ : gS} {H : Heap} {locs : List Loc} {cells slots : Nat} {ls : Array Slot}, r_9 l0 l1 l2 l3 σ = some res → gW E D A s σ H locs → lv_has ls 11 [(0, .ref l0), (1, .int l1), (2, .int l2), (3, .int l3)] → W p l e R s m args below meth c H locs cells slots Q (F0 m 9 ls [])) {r_138 : Nat → Int32 → Int32 → Int32 → Int32 → Int32 → Int32 → Int32 → Int32 → gS → Option (Int32 × gS)} (h_138 : ∀ {l0 : Nat} {l1 : Int32} {l2 : Int32} {l3 : Int32} {l4 : Int32} {l5 : Int32} {l6 : Int32} {l7 : Int32} {l8 : Int32} {σ : gS} {H : Heap} {locs : List Loc} {cells slots : Nat} {ls : Array Slot}, r_138 l0 l1 l2 l3 l4 l5 l6 l7 l8 σ = some res → gW E D A s σ H locs → lv_has ls 11 [(0, .ref l0), (1, .int l1), (2, .int l2), (3, .int l3), (4, .int l4), (5, .int l5), (6, .int l6), (7, .int l7), (8, .int l8)] → W p l e R s m args below meth c H locs cells slots Q (F0 m 138 ls [])) (hf : L_areColumns_138_s E r_9 r_138 l0 l1 l2 l3 l4 l5 l6 l7 l8 σ = some res) (hw : gW E D A s σ H locs) (hl : lv_has ls 11 [(0, .ref l0), (1, .int l1), (2, .int l2), (3, .int l3), (4, .int l4), (5, .int l5), (6, .int l6), (7, .int l7), (8, .int l8)]) : W p l e R s m args below meth c H locs cells slots Q (F0 m 138 ls []) := by
  have hC0 := hC
  obtain ⟨hx, hb, hml, hown, hts, -⟩ := hC0
  unfold L_areColumns_138_s at hf
  refine lv_iload hx hb dL_areColumns_138 (lv_at hl 8 rfl) ?_
  refine lv_iload_n hx hb dL_areColumns_140 rfl (lv_at hl 1 rfl) ?_
  refine lv_icmp_ge (tgt := 239) hx hb dL_areColumns_141 (by decide) (fun c118 => ?_) (fun c118 => ?_)
  · replace hf := (if_pos c118).symm.trans hf
    refine lv_iload hx hb dL_areColumns_239 (lv_at hl 6 rfl) ?_
    refine lv_iload_n hx hb dL_areColumns_241 rfl (lv_at hl 1 rfl) ?_
    refine lv_icmp_ne (tgt := 380) hx hb dL_areColumns_242 (by decide) (fun c117 => ?_) (fun c117 => ?_)
    · replace hf := (if_neg c117).symm.trans hf
      exact L_areColumns_380_W hC hQ hst hf hw (lv_sub hl [] rfl)
    · replace hf := (if_pos c117).symm.trans hf
      refine lv_iload hx hb dL_areColumns_245 (lv_at hl 7 rfl) ?_
      refine lv_aload_n hx hb dL_areColumns_247 rfl (lv_at hl 0 rfl) ?_
      refine lv_iload_n hx hb dL_areColumns_248 rfl (lv_at hl 3 rfl) ?_
      obtain ⟨_, h110, hf⟩ := ob_some hf
      obtain ⟨x108, h109, hf⟩ := ob_some hf
      refine gg_yVI (As := [.int l3]) hC hw (X12_staleCount_M l hst E D A h109) h110 rfl g_ml_L_75 hd_X12_staleCount (Nat.le_of_ble_eq_true rfl) (Nat.le_of_ble_eq_true rfl) hl.1 rfl (Nat.le_of_ble_eq_true rfl) dL_areColumns_249 (fun k9 σ9 he => ?_) (fun x112 σ111 he H locs cells slots hw => ?_)
      · subst he
        replace hf := gtry_inl.symm.trans hf
        cases hf
      · subst he
        replace hf := gtry_inr.symm.trans hf
        refine lv_icmp_ne (tgt := 380) hx hb dL_areColumns_252 (by decide) (fun c116 => ?_) (fun c116 => ?_)
        · replace hf := (if_neg c116).symm.trans hf
          exact L_areColumns_380_W hC hQ hst hf hw (lv_sub hl [] rfl)
        · replace hf := (if_pos c116).symm.trans hf
          refine lv_iconst (v := 1) hx hb dL_areColumns_255 (by decide) ?_
          refine lv_iload hx hb dL_areColumns_256 (lv_at hl 5 rfl) ?_
          refine lv_ishl hx hb dL_areColumns_258 ?_
          refine lv_iload hx hb dL_areColumns_259 (lv_at hl 4 rfl) ?_
          refine lv_icmp_lt (tgt := 380) hx hb dL_areColumns_261 (by decide) (fun c115 => ?_) (fun c115 => ?_)
          · replace hf := (if_pos c115).symm.trans hf
            exact L_areColumns_380_W hC hQ hst hf hw (lv_sub hl [] rfl)
          · replace hf := (if_neg c115).symm.trans hf
            refine lv_iload hx hb dL_areColumns_264 (lv_at hl 5 rfl) ?_
            refine lv_if_le (tgt := 280) hx hb dL_areColumns_266 (by decide) (fun c114 => ?_) (fun c114 => ?_)
            · replace hf := (if_pos c114).symm.trans hf
              exact L_areColumns_280_W hC hQ hst h_9 hf hw (lv_sub hl [0, 1, 2, 3, 4, 5, 7] rfl)
            · replace hf := (if_neg c114).symm.trans hf
              refine lv_iconst (v := 1) hx hb dL_areColumns_269 (by decide) ?_
              refine lv_iload hx hb dL_areColumns_270 (lv_at hl 5 rfl) ?_
              refine lv_iconst (v := 1) hx hb dL_areColumns_272 (by decide) ?_
              refine lv_isub hx hb dL_areColumns_273 ?_
              refine lv_ishl hx hb dL_areColumns_274 ?_
              refine lv_iload hx hb dL_areColumns_275 (lv_at hl 4 rfl) ?_
              refine lv_icmp_ge (tgt := 380) hx hb dL_areColumns_277 (by decide) (fun c113 => ?_) (fun c113 => ?_)
              · replace hf := (if_pos c113).symm.trans hf
                exact L_areColumns_380_W hC hQ hst hf hw (lv_sub hl [] rfl)
              · replace hf := (if_neg c113).symm.trans hf
                exact L_areColumns_280_W hC hQ hst h_9 hf hw (lv_sub hl [0, 1, 2, 3, 4, 5, 7] rfl)
  · replace hf := (if_neg c118).symm.trans hf
    refine lv_iconst (v := 0) hx hb dL_areColumns_144 (by decide) ?_
    refine lv_istore (lv' := [(9, .int (0 : Int32)), (0, .ref l0), (1, .int l1), (2, .int l2), (3, .int l3), (4, .int l4), (5, .int l5), (6, .int l6), (7, .int l7), (8, .int l8)]) hx hb dL_areColumns_145 hl (by decide) rfl (fun ls hl => ?_)
    refine lv_iconst (v := 0) hx hb dL_areColumns_147 (by decide) ?_
    refine lv_istore (lv' := [(10, .int (0 : Int32)), (9, .int (0 : Int32)), (0, .ref l0), (1, .int l1), (2, .int l2), (3, .int l3), (4, .int l4), (5, .int l5), (6, .int l6), (7, .int l7), (8, .int l8)]) hx hb dL_areColumns_148 hl (by decide) rfl (fun ls hl => ?_)
    exact L_areColumns_150_W hC hQ hst h_9 h_138 (gN E) hf hw (lv_sub hl [2, 3, 4, 5, 6, 7, 8, 9, 10, 1, 0] rfl)
def L_areColumns_138 (E : gE) (r_9 : Nat → Int32 → Int32 → Int32 → gS → Option (Int32 × gS)) : Nat → Nat → Int32 → Int32 → Int32 → Int32 → Int32 → Int32 → Int32 → Int32 → gS → Option (Int32 × gS)
  | 0 => fun _ _ _ _ _ _ _ _ _ _ => none
  | n + 1 => L_areColumns_138_s E r_9 (L_areColumns_138 E r_9 n)
theorem L_areColumns_138_W {res : (Int32 × gS)} (hC : gC E D A p R s m args meth c cL_areColumns 11 RL "areColumns" 8 167) (hQ : gQI E D A p l e R s m args below meth c Q cL_areColumns FieldType.boolean res) (hst : l.stackTraces = false) {r_9 : Nat → Int32 → Int32 → Int32 → gS → Option (Int32 × gS)} (h_9 : ∀ {l0 : Nat} {l1 : Int32} {l2 : Int32} {l3 : Int32} {σ : gS} {H : Heap} {locs : List Loc} {cells slots : Nat} {ls : Array Slot}, r_9 l0 l1 l2 l3 σ = some res → gW E D A s σ H locs → lv_has ls 11 [(0, .ref l0), (1, .int l1), (2, .int l2), (3, .int l3)] → W p l e R s m args below meth c H locs cells slots Q (F0 m 9 ls [])) : ∀ (n : Nat), ∀ {l0 : Nat} {l1 : Int32} {l2 : Int32} {l3 : Int32} {l4 : Int32} {l5 : Int32} {l6 : Int32} {l7 : Int32} {l8 : Int32} {σ : gS} {H : Heap} {locs : List Loc} {cells slots : Nat} {ls : Array Slot}, L_areColumns_138 E r_9 n l0 l1 l2 l3 l4 l5 l6 l7 l8 σ = some res → gW E D A s σ H locs → lv_has ls 11 [(0, .ref l0), (1, .int l1), (2, .int l2), (3, .int l3), (4, .int l4), (5, .int l5), (6, .int l6), (7, .int l7), (8, .int l8)] → W p l e R s m args below meth c H locs cells slots Q (F0 m 138 ls []) := by
  intro n
  induction n with
  | zero =>
    intros
    rename_i hf _ _
    exact absurd hf (fun h => by cases (show (none : Option (Int32 × gS)) = some res from h))
  | succ n ih =>
    intros
    rename_i hf hw hl
    exact L_areColumns_138_s_W hC hQ hst h_9 ih hf hw hl

def L_areColumns_47_s (E : gE) (r_9 : Nat → Int32 → Int32 → Int32 → gS → Option (Int32 × gS)) (r_47 : Nat → Int32 → Int32 → Int32 → Int32 → Int32 → Int32 → Int32 → Int32 → gS → Option (Int32 × gS)) (l0 : Nat) (l1 : Int32) (l2 : Int32) (l3 : Int32) (l4 : Int32) (l5 : Int32) (l6 : Int32) (l7 : Int32) (l8 : Int32) (σ : gS) : Option (Int32 × gS) :=
  if l4 ≤ l8 then
    L_areColumns_138 E r_9 (gN E) l0 l1 l2 l3 l4 l5 l6 l7 (0 : Int32) σ
  else
    ob (gcl σ l0 10) fun _ =>
    ob (X12_frequency_f E l0 l3 l8 σ) fun x119 =>
    gtry x119 (fun _ _ => none) (fun x123 σ122 =>
      ob (gcl σ122 l0 10) fun _ =>
      ob (X12_frequency_f E l0 l3 l8 σ122) fun x124 =>
      gtry x124 (fun _ _ => none) (fun x128 σ127 =>
        if x128 = 0 then
          L_areColumns_83 E r_9 r_47 l0 l1 l2 l3 l4 l5 (l6 + x123) l8 (1 : Int32) l7 σ127
        else
          L_areColumns_83 E r_9 r_47 l0 l1 l2 l3 l4 l5 (l6 + x123) l8 (0 : Int32) l7 σ127))
set_option maxHeartbeats 4000000 in
set_option maxRecDepth 100000 in
theorem L_areColumns_47_s_W {σ : gS} {l0 : Nat} {l1 : Int32} {l2 : Int32} {l3 : Int32} {l4 : Int32} {l5 : Int32} {l6 : Int32} {l7 : Int32} {l8 : Int32} {res : (Int32 × gS)} {ls : Array Slot} (hC : gC E D A p R s m args meth c cL_areColumns 11 RL "areColumns" 8 167) (hQ : gQI E D A p l e R s m args below meth c Q cL_areColumns FieldType.boolean res) (hst : l.stackTraces = false) {r_9 : Nat → Int32 → Int32 → Int32 → gS → Option (Int32 × gS)} (h_9 : ∀ {l0 : Nat} {l1 : Int32} {l2 : Int32} {l3 : Int32} {σ : gS} {H : Heap} {locs : List Loc} {cells slots : Nat} {ls : Array Slot}, r_9 l0 l1 l2 l3 σ = some res → gW E D A s σ H locs → lv_has ls 11 [(0, .ref l0), (1, .int l1), (2, .int l2), (3, .int l3)] → W p l e R s m args below meth c H locs cells slots Q (F0 m 9 ls [])) {r_47 : Nat → Int32 → Int32 → Int32 → Int32 → Int32 → Int32 → Int32 → Int32 → gS → Option (Int32 × gS)} (h_47 : ∀ {l0 : Nat} {l1 : Int32} {l2 : Int32} {l3 : Int32} {l4 : Int32} {l5 : Int32} {l6 : Int32} {l7 : Int32} {l8 : Int32} {σ : gS} {H : Heap} {locs : List Loc} {cells slots : Nat} {ls : Array Slot}, r_47 l0 l1 l2 l3 l4 l5 l6 l7 l8 σ = some res → gW E D A s σ H locs → lv_has ls 11 [(0, .ref l0), (1, .int l1), (2, .int l2), (3, .int l3), (4, .int l4), (5, .int l5), (6, .int l6), (7, .int l7), (8, .int l8)] → W p l e R s m args below meth c H locs cells slots Q (F0 m 47 ls [])) (hf : L_areColumns_47_s E r_9 r_47 l0 l1 l2 l3 l4 l5 l6 l7 l8 σ = some res) (hw : gW E D A s σ H locs) (hl : lv_has ls 11 [(0, .ref l0), (1, .int l1), (2, .int l2), (3, .int l3), (4, .int l4), (5, .int l5), (6, .int l6), (7, .int l7), (8, .int l8)]) : W p l e R s m args below meth c H locs cells slots Q (F0 m 47 ls []) := by
  have hC0 := hC
  obtain ⟨hx, hb, hml, hown, hts, -⟩ := hC0
  unfold L_areColumns_47_s at hf
  refine lv_iload hx hb dL_areColumns_47 (lv_at hl 8 rfl) ?_
  refine lv_iload hx hb dL_areColumns_49 (lv_at hl 4 rfl) ?_
  refine lv_icmp_ge (tgt := 135) hx hb dL_areColumns_51 (by decide) (fun c130 => ?_) (fun c130 => ?_)
  · replace hf := (if_pos c130).symm.trans hf
    refine lv_iconst (v := 0) hx hb dL_areColumns_135 (by decide) ?_
    refine lv_istore (lv' := [(8, .int (0 : Int32)), (0, .ref l0), (1, .int l1), (2, .int l2), (3, .int l3), (4, .int l4), (5, .int l5), (6, .int l6), (7, .int l7)]) hx hb dL_areColumns_136 hl (by decide) rfl (fun ls hl => ?_)
    exact L_areColumns_138_W hC hQ hst h_9 (gN E) hf hw (lv_sub hl [1, 2, 3, 4, 5, 6, 7, 8, 0] rfl)
  · replace hf := (if_neg c130).symm.trans hf
    refine lv_iload hx hb dL_areColumns_54 (lv_at hl 6 rfl) ?_
    refine lv_aload_n hx hb dL_areColumns_56 rfl (lv_at hl 0 rfl) ?_
    refine lv_iload_n hx hb dL_areColumns_57 rfl (lv_at hl 3 rfl) ?_
    refine lv_iload hx hb dL_areColumns_58 (lv_at hl 8 rfl) ?_
    obtain ⟨_, h121, hf⟩ := ob_some hf
    obtain ⟨x119, h120, hf⟩ := ob_some hf
    refine gg_yVI (As := [.int l3, .int l8]) hC hw (X12_frequency_M l hst E D A h120) h121 rfl g_ml_L_62 hd_X12_frequency (Nat.le_of_ble_eq_true rfl) (Nat.le_of_ble_eq_true rfl) hl.1 rfl (Nat.le_of_ble_eq_true rfl) dL_areColumns_60 (fun k9 σ9 he => ?_) (fun x123 σ122 he H locs cells slots hw => ?_)
    · subst he
      replace hf := gtry_inl.symm.trans hf
      cases hf
    · subst he
      replace hf := gtry_inr.symm.trans hf
      refine lv_iadd hx hb dL_areColumns_63 ?_
      refine lv_istore (lv' := [(6, .int (l6 + x123)), (0, .ref l0), (1, .int l1), (2, .int l2), (3, .int l3), (4, .int l4), (5, .int l5), (7, .int l7), (8, .int l8)]) hx hb dL_areColumns_64 hl (by decide) rfl (fun ls hl => ?_)
      refine lv_iload hx hb dL_areColumns_66 (lv_at hl 7 rfl) ?_
      refine lv_aload_n hx hb dL_areColumns_68 rfl (lv_at hl 1 rfl) ?_
      refine lv_iload_n hx hb dL_areColumns_69 rfl (lv_at hl 4 rfl) ?_
      refine lv_iload hx hb dL_areColumns_70 (lv_at hl 8 rfl) ?_
      obtain ⟨_, h126, hf⟩ := ob_some hf
      obtain ⟨x124, h125, hf⟩ := ob_some hf
      refine gg_yVI (As := [.int l3, .int l8]) hC hw (X12_frequency_M l hst E D A h125) h126 rfl g_ml_L_62 hd_X12_frequency (Nat.le_of_ble_eq_true rfl) (Nat.le_of_ble_eq_true rfl) hl.1 rfl (Nat.le_of_ble_eq_true rfl) dL_areColumns_72 (fun k9 σ9 he => ?_) (fun x128 σ127 he H locs cells slots hw => ?_)
      · subst he
        replace hf := gtry_inl.symm.trans hf
        cases hf
      · subst he
        replace hf := gtry_inr.symm.trans hf
        refine lv_if_ne (tgt := 82) hx hb dL_areColumns_75 (by decide) (fun c129 => ?_) (fun c129 => ?_)
        · replace hf := (if_neg c129).symm.trans hf
          refine lv_iconst (v := 0) hx hb dL_areColumns_82 (by decide) ?_
          exact L_areColumns_83_W hC hQ hst h_9 h_47 hf hw (lv_sub hl [1, 2, 3, 4, 5, 6, 0, 8] rfl)
        · replace hf := (if_pos c129).symm.trans hf
          refine lv_iconst (v := 1) hx hb dL_areColumns_78 (by decide) ?_
          refine lv_goto (tgt := 83) hx hb dL_areColumns_79 (by decide) ?_
          exact L_areColumns_83_W hC hQ hst h_9 h_47 hf hw (lv_sub hl [1, 2, 3, 4, 5, 6, 0, 8] rfl)
def L_areColumns_47 (E : gE) (r_9 : Nat → Int32 → Int32 → Int32 → gS → Option (Int32 × gS)) : Nat → Nat → Int32 → Int32 → Int32 → Int32 → Int32 → Int32 → Int32 → Int32 → gS → Option (Int32 × gS)
  | 0 => fun _ _ _ _ _ _ _ _ _ _ => none
  | n + 1 => L_areColumns_47_s E r_9 (L_areColumns_47 E r_9 n)
theorem L_areColumns_47_W {res : (Int32 × gS)} (hC : gC E D A p R s m args meth c cL_areColumns 11 RL "areColumns" 8 167) (hQ : gQI E D A p l e R s m args below meth c Q cL_areColumns FieldType.boolean res) (hst : l.stackTraces = false) {r_9 : Nat → Int32 → Int32 → Int32 → gS → Option (Int32 × gS)} (h_9 : ∀ {l0 : Nat} {l1 : Int32} {l2 : Int32} {l3 : Int32} {σ : gS} {H : Heap} {locs : List Loc} {cells slots : Nat} {ls : Array Slot}, r_9 l0 l1 l2 l3 σ = some res → gW E D A s σ H locs → lv_has ls 11 [(0, .ref l0), (1, .int l1), (2, .int l2), (3, .int l3)] → W p l e R s m args below meth c H locs cells slots Q (F0 m 9 ls [])) : ∀ (n : Nat), ∀ {l0 : Nat} {l1 : Int32} {l2 : Int32} {l3 : Int32} {l4 : Int32} {l5 : Int32} {l6 : Int32} {l7 : Int32} {l8 : Int32} {σ : gS} {H : Heap} {locs : List Loc} {cells slots : Nat} {ls : Array Slot}, L_areColumns_47 E r_9 n l0 l1 l2 l3 l4 l5 l6 l7 l8 σ = some res → gW E D A s σ H locs → lv_has ls 11 [(0, .ref l0), (1, .int l1), (2, .int l2), (3, .int l3), (4, .int l4), (5, .int l5), (6, .int l6), (7, .int l7), (8, .int l8)] → W p l e R s m args below meth c H locs cells slots Q (F0 m 47 ls []) := by
  intro n
  induction n with
  | zero =>
    intros
    rename_i hf _ _
    exact absurd hf (fun h => by cases (show (none : Option (Int32 × gS)) = some res from h))
  | succ n ih =>
    intros
    rename_i hf hw hl
    exact L_areColumns_47_s_W hC hQ hst h_9 ih hf hw hl

def L_areColumns_9_s (E : gE) (r_9 : Nat → Int32 → Int32 → Int32 → gS → Option (Int32 × gS)) (l0 : Nat) (l1 : Int32) (l2 : Int32) (l3 : Int32) (σ : gS) : Option (Int32 × gS) :=
  ob (gcl σ l0 10) fun _ =>
  ob (X12_columnCount_f E σ l0) fun x131 =>
  if x131 ≤ l3 then
    ob (gcl σ l0 10) fun _ =>
    ob (X12_packedBits_f E σ l0) fun x134 =>
    if l2 = x134 then
      some ((1 : Int32), σ)
    else
      some ((0 : Int32), σ)
  else
    ob (gcl σ l0 10) fun _ =>
    ob (X12_dictionarySize_f E l0 l3 σ) fun x138 =>
    gtry x138 (fun _ _ => none) (fun x142 σ141 =>
      ob (gcl σ141 l0 10) fun _ =>
      ob (X12_bitWidth_f E l0 l3 σ141) fun x143 =>
      gtry x143 (fun _ _ => none) (fun x147 σ146 =>
        L_areColumns_47 E r_9 (gN E) l0 l1 (l2 + (x147 * l1)) l3 x142 x147 (0 : Int32) (0 : Int32) (0 : Int32) σ146))
set_option maxHeartbeats 4000000 in
set_option maxRecDepth 100000 in
theorem L_areColumns_9_s_W {σ : gS} {l0 : Nat} {l1 : Int32} {l2 : Int32} {l3 : Int32} {res : (Int32 × gS)} {ls : Array Slot} (hC : gC E D A p R s m args meth c cL_areColumns 11 RL "areColumns" 8 167) (hQ : gQI E D A p l e R s m args below meth c Q cL_areColumns FieldType.boolean res) (hst : l.stackTraces = false) {r_9 : Nat → Int32 → Int32 → Int32 → gS → Option (Int32 × gS)} (h_9 : ∀ {l0 : Nat} {l1 : Int32} {l2 : Int32} {l3 : Int32} {σ : gS} {H : Heap} {locs : List Loc} {cells slots : Nat} {ls : Array Slot}, r_9 l0 l1 l2 l3 σ = some res → gW E D A s σ H locs → lv_has ls 11 [(0, .ref l0), (1, .int l1), (2, .int l2), (3, .int l3)] → W p l e R s m args below meth c H locs cells slots Q (F0 m 9 ls [])) (hf : L_areColumns_9_s E r_9 l0 l1 l2 l3 σ = some res) (hw : gW E D A s σ H locs) (hl : lv_has ls 11 [(0, .ref l0), (1, .int l1), (2, .int l2), (3, .int l3)]) : W p l e R s m args below meth c H locs cells slots Q (F0 m 9 ls []) := by
  have hC0 := hC
  obtain ⟨hx, hb, hml, hown, hts, -⟩ := hC0
  unfold L_areColumns_9_s at hf
  refine lv_iload_n hx hb dL_areColumns_9 rfl (lv_at hl 3 rfl) ?_
  refine lv_aload_n hx hb dL_areColumns_10 rfl (lv_at hl 0 rfl) ?_
  obtain ⟨_, h133, hf⟩ := ob_some hf
  obtain ⟨x131, h132, hf⟩ := ob_some hf
  refine gg_cVI (As := []) hC hw (X12_columnCount_M l E D A h132) h133 rfl g_ml_L_30 hd_X12_columnCount (Nat.le_of_ble_eq_true rfl) (Nat.le_of_ble_eq_true rfl) hl.1 rfl (Nat.le_of_ble_eq_true rfl) dL_areColumns_11 (fun H locs cells slots hw => ?_)
  refine lv_icmp_ge (tgt := 388) hx hb dL_areColumns_14 (by decide) (fun c148 => ?_) (fun c148 => ?_)
  · replace hf := (if_pos c148).symm.trans hf
    refine lv_iload_n hx hb dL_areColumns_388 rfl (lv_at hl 2 rfl) ?_
    refine lv_aload_n hx hb dL_areColumns_389 rfl (lv_at hl 0 rfl) ?_
    obtain ⟨_, h136, hf⟩ := ob_some hf
    obtain ⟨x134, h135, hf⟩ := ob_some hf
    refine gg_cVI (As := []) hC hw (X12_packedBits_M l E D A h135) h136 rfl g_ml_L_103 hd_X12_packedBits (Nat.le_of_ble_eq_true rfl) (Nat.le_of_ble_eq_true rfl) hl.1 rfl (Nat.le_of_ble_eq_true rfl) dL_areColumns_390 (fun H locs cells slots hw => ?_)
    refine lv_icmp_ne (tgt := 400) hx hb dL_areColumns_393 (by decide) (fun c137 => ?_) (fun c137 => ?_)
    · replace hf := (if_neg c137).symm.trans hf
      refine lv_iconst (v := 0) hx hb dL_areColumns_400 (by decide) ?_
      cases hf
      exact hQ _ _ _ _ _ _ dL_areColumns_401 gz0 hw
    · replace hf := (if_pos c137).symm.trans hf
      refine lv_iconst (v := 1) hx hb dL_areColumns_396 (by decide) ?_
      refine lv_goto (tgt := 401) hx hb dL_areColumns_397 (by decide) ?_
      cases hf
      exact hQ _ _ _ _ _ _ dL_areColumns_401 gz1 hw
  · replace hf := (if_neg c148).symm.trans hf
    refine lv_aload_n hx hb dL_areColumns_17 rfl (lv_at hl 0 rfl) ?_
    refine lv_iload_n hx hb dL_areColumns_18 rfl (lv_at hl 3 rfl) ?_
    obtain ⟨_, h140, hf⟩ := ob_some hf
    obtain ⟨x138, h139, hf⟩ := ob_some hf
    refine gg_yVI (As := [.int l3]) hC hw (X12_dictionarySize_M l hst E D A h139) h140 rfl g_ml_L_36 hd_X12_dictionarySize (Nat.le_of_ble_eq_true rfl) (Nat.le_of_ble_eq_true rfl) hl.1 rfl (Nat.le_of_ble_eq_true rfl) dL_areColumns_19 (fun k9 σ9 he => ?_) (fun x142 σ141 he H locs cells slots hw => ?_)
    · subst he
      replace hf := gtry_inl.symm.trans hf
      cases hf
    · subst he
      replace hf := gtry_inr.symm.trans hf
      refine lv_istore (lv' := [(4, .int x142), (0, .ref l0), (1, .int l1), (2, .int l2), (3, .int l3)]) hx hb dL_areColumns_22 hl (by decide) rfl (fun ls hl => ?_)
      refine lv_aload_n hx hb dL_areColumns_24 rfl (lv_at hl 1 rfl) ?_
      refine lv_iload_n hx hb dL_areColumns_25 rfl (lv_at hl 4 rfl) ?_
      obtain ⟨_, h145, hf⟩ := ob_some hf
      obtain ⟨x143, h144, hf⟩ := ob_some hf
      refine gg_yVI (As := [.int l3]) hC hw (X12_bitWidth_M l hst E D A h144) h145 rfl g_ml_L_59 hd_X12_bitWidth (Nat.le_of_ble_eq_true rfl) (Nat.le_of_ble_eq_true rfl) hl.1 rfl (Nat.le_of_ble_eq_true rfl) dL_areColumns_26 (fun k9 σ9 he => ?_) (fun x147 σ146 he H locs cells slots hw => ?_)
      · subst he
        replace hf := gtry_inl.symm.trans hf
        cases hf
      · subst he
        replace hf := gtry_inr.symm.trans hf
        refine lv_istore (lv' := [(5, .int x147), (4, .int x142), (0, .ref l0), (1, .int l1), (2, .int l2), (3, .int l3)]) hx hb dL_areColumns_29 hl (by decide) rfl (fun ls hl => ?_)
        refine lv_iload_n hx hb dL_areColumns_31 rfl (lv_at hl 4 rfl) ?_
        refine lv_iload hx hb dL_areColumns_32 (lv_at hl 0 rfl) ?_
        refine lv_iload_n hx hb dL_areColumns_34 rfl (lv_at hl 3 rfl) ?_
        refine lv_imul hx hb dL_areColumns_35 ?_
        refine lv_iadd hx hb dL_areColumns_36 ?_
        refine lv_istore_n (lv' := [(2, .int (l2 + (x147 * l1))), (5, .int x147), (4, .int x142), (0, .ref l0), (1, .int l1), (3, .int l3)]) hx hb dL_areColumns_37 rfl hl (by decide) rfl (fun ls hl => ?_)
        refine lv_iconst (v := 0) hx hb dL_areColumns_38 (by decide) ?_
        refine lv_istore (lv' := [(6, .int (0 : Int32)), (2, .int (l2 + (x147 * l1))), (5, .int x147), (4, .int x142), (0, .ref l0), (1, .int l1), (3, .int l3)]) hx hb dL_areColumns_39 hl (by decide) rfl (fun ls hl => ?_)
        refine lv_iconst (v := 0) hx hb dL_areColumns_41 (by decide) ?_
        refine lv_istore (lv' := [(7, .int (0 : Int32)), (6, .int (0 : Int32)), (2, .int (l2 + (x147 * l1))), (5, .int x147), (4, .int x142), (0, .ref l0), (1, .int l1), (3, .int l3)]) hx hb dL_areColumns_42 hl (by decide) rfl (fun ls hl => ?_)
        refine lv_iconst (v := 0) hx hb dL_areColumns_44 (by decide) ?_
        refine lv_istore (lv' := [(8, .int (0 : Int32)), (7, .int (0 : Int32)), (6, .int (0 : Int32)), (2, .int (l2 + (x147 * l1))), (5, .int x147), (4, .int x142), (0, .ref l0), (1, .int l1), (3, .int l3)]) hx hb dL_areColumns_45 hl (by decide) rfl (fun ls hl => ?_)
        exact L_areColumns_47_W hC hQ hst h_9 (gN E) hf hw (lv_sub hl [6, 7, 3, 8, 5, 4, 2, 1, 0] rfl)
def L_areColumns_9 (E : gE) : Nat → Nat → Int32 → Int32 → Int32 → gS → Option (Int32 × gS)
  | 0 => fun _ _ _ _ _ => none
  | n + 1 => L_areColumns_9_s E (L_areColumns_9 E n)
theorem L_areColumns_9_W {res : (Int32 × gS)} (hC : gC E D A p R s m args meth c cL_areColumns 11 RL "areColumns" 8 167) (hQ : gQI E D A p l e R s m args below meth c Q cL_areColumns FieldType.boolean res) (hst : l.stackTraces = false) : ∀ (n : Nat), ∀ {l0 : Nat} {l1 : Int32} {l2 : Int32} {l3 : Int32} {σ : gS} {H : Heap} {locs : List Loc} {cells slots : Nat} {ls : Array Slot}, L_areColumns_9 E n l0 l1 l2 l3 σ = some res → gW E D A s σ H locs → lv_has ls 11 [(0, .ref l0), (1, .int l1), (2, .int l2), (3, .int l3)] → W p l e R s m args below meth c H locs cells slots Q (F0 m 9 ls []) := by
  intro n
  induction n with
  | zero =>
    intros
    rename_i hf _ _
    exact absurd hf (fun h => by cases (show (none : Option (Int32 × gS)) = some res from h))
  | succ n ih =>
    intros
    rename_i hf hw hl
    exact L_areColumns_9_s_W hC hQ hst ih hf hw hl

def L_areColumns (E : gE) (l0 : Nat) (σ : gS) : Option (Int32 × gS) :=
  ob (gcl σ l0 10) fun _ =>
  ob (X12_rowCount_f E σ l0) fun x149 =>
  L_areColumns_9 E (gN E) l0 x149 (0 : Int32) (0 : Int32) σ
set_option maxHeartbeats 4000000 in
set_option maxRecDepth 100000 in
theorem L_areColumns_W {σ : gS} {l0 : Nat} {res : (Int32 × gS)} {ls : Array Slot} (hC : gC E D A p R s m args meth c cL_areColumns 11 RL "areColumns" 8 167) (hQ : gQI E D A p l e R s m args below meth c Q cL_areColumns FieldType.boolean res) (hst : l.stackTraces = false) (hf : L_areColumns E l0 σ = some res) (hw : gW E D A s σ H locs) (hl : lv_has ls 11 [(0, .ref l0)]) : W p l e R s m args below meth c H locs cells slots Q (F0 m 0 ls []) := by
  have hC0 := hC
  obtain ⟨hx, hb, hml, hown, hts, -⟩ := hC0
  unfold L_areColumns at hf
  refine lv_aload_n hx hb dL_areColumns_0 rfl (lv_at hl 0 rfl) ?_
  obtain ⟨_, h151, hf⟩ := ob_some hf
  obtain ⟨x149, h150, hf⟩ := ob_some hf
  refine gg_cVI (As := []) hC hw (X12_rowCount_M l E D A h150) h151 rfl g_ml_L_33 hd_X12_rowCount (Nat.le_of_ble_eq_true rfl) (Nat.le_of_ble_eq_true rfl) hl.1 rfl (Nat.le_of_ble_eq_true rfl) dL_areColumns_1 (fun H locs cells slots hw => ?_)
  refine lv_istore_n (lv' := [(1, .int x149), (0, .ref l0)]) hx hb dL_areColumns_4 rfl hl (by decide) rfl (fun ls hl => ?_)
  refine lv_iconst (v := 0) hx hb dL_areColumns_5 (by decide) ?_
  refine lv_istore_n (lv' := [(2, .int (0 : Int32)), (1, .int x149), (0, .ref l0)]) hx hb dL_areColumns_6 rfl hl (by decide) rfl (fun ls hl => ?_)
  refine lv_iconst (v := 0) hx hb dL_areColumns_7 (by decide) ?_
  refine lv_istore_n (lv' := [(3, .int (0 : Int32)), (2, .int (0 : Int32)), (1, .int x149), (0, .ref l0)]) hx hb dL_areColumns_8 rfl hl (by decide) rfl (fun ls hl => ?_)
  exact L_areColumns_9_W hC hQ hst (gN E) hf hw (lv_sub hl [3, 2, 1, 0] rfl)

def L_areColumns_f (E : gE) (l0 : Nat) (σ : gS) : Option (Int32 × gS) := L_areColumns E l0 σ
set_option maxRecDepth 100000 in
theorem L_areColumns_M (l : Launch) (hst : l.stackTraces = false) (E : gE) (D : va_G) (A : Nat → Prop) {l0 : Nat} {σ : gS} {res : (Int32 × gS)} (hf : L_areColumns_f E l0 σ = some res) : gCI l E D A yL_areColumns cL_areColumns 11 8 167 (some FieldType.boolean) [.ref l0] σ res := by
  refine gg_entI (own := RL) (nm := "areColumns") (ty := FieldType.boolean) (by decide +kernel) rfl rfl (Nat.le_of_ble_eq_true rfl) rfl ?_
  intro p e R s m args below meth c Q ls hC hw hQ hl
  have hl : lv_has ls 11 [(0, .ref l0)] := hl
  exact L_areColumns_W hC hQ hst hf hw hl

end MN1
