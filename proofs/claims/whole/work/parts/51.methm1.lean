/-! decompiled: X13_thrown, X13_inRange, X13_lacks, X13_lacksBoth, X13_begin, X13_isColumn, X13_isRow, X13_isCondition, X13_isValue, X13_placeOf, X13_at, X13_bits, X13_has, X13_learn, X13_less, X13_sizeIn, X13_isCode, X13_valueOf, X13_codeAt, X13_countValue, X13_isFirst, X13_columnCount, X13_rowCount, X13_isCell, X13_value, X13_code, X13_dictionarySize, X13_dictionaryValue, X13_findCode, X13_frequency, X13_commonestCode, X13_widthFor, X13_widthOf, X13_wordsOf -/
section MM1
variable {p : Program} {l : Launch} {e : Env} {R : Room} {s : State} {m : MethodId} {args : Array Value} {below : List Frame} {meth : Method} {c : Code} {H : Heap} {locs : List Loc} {cells slots : Nat} {Q : State → Prop} {E : gE} {D : va_G} {A : Nat → Prop}
def X13_thrown (E : gE) (σ : gS) (l0 : Nat) : Option Int32 :=
  ob (gfI σ l0 11 10) fun x1 =>
  some x1
set_option maxHeartbeats 4000000 in
set_option maxRecDepth 100000 in
theorem X13_thrown_W {σ : gS} {l0 : Nat} {res : Int32} {ls : Array Slot} (hC : gC E D A p R s m args meth c cX13_thrown 1 RX13 "thrown" 0 0) (hQ : gQI E D A p l e R s m args below meth c Q cX13_thrown FieldType.int (res, σ)) (hf : X13_thrown E σ l0 = some res) (hw : gW E D A s σ H locs) (hl : lv_has ls 1 [(0, .ref l0)]) : W p l e R s m args below meth c H locs cells slots Q (F0 m 0 ls []) := by
  have hC0 := hC
  obtain ⟨hx, hb, hml, hown, hts, -⟩ := hC0
  unfold X13_thrown at hf
  refine lv_aload_n hx hb dX13_thrown_0 rfl (lv_at hl 0 rfl) ?_
  obtain ⟨x1, h2, hf⟩ := ob_some hf
  refine rI_fl_X13_85 hC hw h2 dX13_thrown_1 ?_
  cases hf
  exact hQ _ _ _ _ _ _ dX13_thrown_4 rfl hw

def X13_thrown_f (E : gE) (σ : gS) (l0 : Nat) : Option Int32 := X13_thrown E σ l0
set_option maxRecDepth 100000 in
theorem X13_thrown_M (l : Launch) (E : gE) (D : va_G) (A : Nat → Prop) {l0 : Nat} {σ : gS} {res : Int32} (hf : X13_thrown_f E σ l0 = some res) : gCI l E D A yX13_thrown cX13_thrown 1 0 0 (some FieldType.int) [.ref l0] σ (res, σ) := by
  refine gg_entI (own := RX13) (nm := "thrown") (ty := FieldType.int) (by decide +kernel) rfl rfl (Nat.le_of_ble_eq_true rfl) rfl ?_
  intro p e R s m args below meth c Q ls hC hw hQ hl
  have hl : lv_has ls 1 [(0, .ref l0)] := hl
  exact X13_thrown_W hC hQ hf hw hl

def X13_inRange_14 (E : gE) (σ : gS) : Option Int32 :=
  some (0 : Int32)
set_option maxHeartbeats 4000000 in
set_option maxRecDepth 100000 in
theorem X13_inRange_14_W {σ : gS} {res : Int32} {ls : Array Slot} (hC : gC E D A p R s m args meth c cX13_inRange 3 RX13 "inRange" 0 0) (hQ : gQI E D A p l e R s m args below meth c Q cX13_inRange FieldType.boolean (res, σ)) (hf : X13_inRange_14 E σ = some res) (hw : gW E D A s σ H locs) (hl : lv_has ls 3 []) : W p l e R s m args below meth c H locs cells slots Q (F0 m 14 ls []) := by
  have hC0 := hC
  obtain ⟨hx, hb, hml, hown, hts, -⟩ := hC0
  unfold X13_inRange_14 at hf
  refine lv_iconst (v := 0) hx hb dX13_inRange_14 (by decide) ?_
  cases hf
  exact hQ _ _ _ _ _ _ dX13_inRange_15 gz0 hw

def X13_inRange (E : gE) (σ : gS) (l0 : Int32) (l1 : Int32) (l2 : Int32) : Option Int32 :=
  if l0 < l1 then
    X13_inRange_14 E σ
  else
    if l2 < l0 then
      X13_inRange_14 E σ
    else
      some (1 : Int32)
set_option maxHeartbeats 4000000 in
set_option maxRecDepth 100000 in
theorem X13_inRange_W {σ : gS} {l0 : Int32} {l1 : Int32} {l2 : Int32} {res : Int32} {ls : Array Slot} (hC : gC E D A p R s m args meth c cX13_inRange 3 RX13 "inRange" 0 0) (hQ : gQI E D A p l e R s m args below meth c Q cX13_inRange FieldType.boolean (res, σ)) (hf : X13_inRange E σ l0 l1 l2 = some res) (hw : gW E D A s σ H locs) (hl : lv_has ls 3 [(0, .int l0), (1, .int l1), (2, .int l2)]) : W p l e R s m args below meth c H locs cells slots Q (F0 m 0 ls []) := by
  have hC0 := hC
  obtain ⟨hx, hb, hml, hown, hts, -⟩ := hC0
  unfold X13_inRange at hf
  refine lv_iload_n hx hb dX13_inRange_0 rfl (lv_at hl 0 rfl) ?_
  refine lv_iload_n hx hb dX13_inRange_1 rfl (lv_at hl 1 rfl) ?_
  refine lv_icmp_lt (tgt := 14) hx hb dX13_inRange_2 (by decide) (fun c2 => ?_) (fun c2 => ?_)
  · replace hf := (if_pos c2).symm.trans hf
    exact X13_inRange_14_W hC hQ hf hw (lv_sub hl [] rfl)
  · replace hf := (if_neg c2).symm.trans hf
    refine lv_iload_n hx hb dX13_inRange_5 rfl (lv_at hl 0 rfl) ?_
    refine lv_iload_n hx hb dX13_inRange_6 rfl (lv_at hl 2 rfl) ?_
    refine lv_icmp_gt (tgt := 14) hx hb dX13_inRange_7 (by decide) (fun c1 => ?_) (fun c1 => ?_)
    · replace hf := (if_pos c1).symm.trans hf
      exact X13_inRange_14_W hC hQ hf hw (lv_sub hl [] rfl)
    · replace hf := (if_neg c1).symm.trans hf
      refine lv_iconst (v := 1) hx hb dX13_inRange_10 (by decide) ?_
      refine lv_goto (tgt := 15) hx hb dX13_inRange_11 (by decide) ?_
      cases hf
      exact hQ _ _ _ _ _ _ dX13_inRange_15 gz1 hw

def X13_inRange_f (E : gE) (σ : gS) (l0 : Int32) (l1 : Int32) (l2 : Int32) : Option Int32 := X13_inRange E σ l0 l1 l2
set_option maxRecDepth 100000 in
theorem X13_inRange_M (l : Launch) (E : gE) (D : va_G) (A : Nat → Prop) {l0 : Int32} {l1 : Int32} {l2 : Int32} {σ : gS} {res : Int32} (hf : X13_inRange_f E σ l0 l1 l2 = some res) : gCI l E D A yX13_inRange cX13_inRange 3 0 0 (some FieldType.boolean) [.int l0, .int l1, .int l2] σ (res, σ) := by
  refine gg_entI (own := RX13) (nm := "inRange") (ty := FieldType.boolean) (by decide +kernel) rfl rfl (Nat.le_of_ble_eq_true rfl) rfl ?_
  intro p e R s m args below meth c Q ls hC hw hQ hl
  have hl : lv_has ls 3 [(0, .int l0), (1, .int l1), (2, .int l2)] := hl
  exact X13_inRange_W hC hQ hf hw hl

def X13_lacks_10 (E : gE) (l1 : Int32) (s0 : Int32) (s1 : Nat) (σ : gS) : Option (Int32 × gS) :=
  ob (gpf E σ s1 11 10 (.int s0)) fun σ1 =>
  if l1 = 0 then
    some ((1 : Int32), σ1)
  else
    some ((0 : Int32), σ1)
set_option maxHeartbeats 4000000 in
set_option maxRecDepth 100000 in
theorem X13_lacks_10_W {σ : gS} {l1 : Int32} {s0 : Int32} {s1 : Nat} {res : (Int32 × gS)} {ls : Array Slot} (hC : gC E D A p R s m args meth c cX13_lacks 2 RX13 "lacks" 0 0) (hQ : gQI E D A p l e R s m args below meth c Q cX13_lacks FieldType.boolean res) (hf : X13_lacks_10 E l1 s0 s1 σ = some res) (hw : gW E D A s σ H locs) (hl : lv_has ls 2 [(1, .int l1)]) : W p l e R s m args below meth c H locs cells slots Q (F0 m 10 ls [.int s0, .ref s1]) := by
  have hC0 := hC
  obtain ⟨hx, hb, hml, hown, hts, -⟩ := hC0
  unfold X13_lacks_10 at hf
  obtain ⟨σ1, h2, hf⟩ := ob_some hf
  refine p_fl_X13_85 hC hw h2 rfl rfl dX13_lacks_10 (fun H locs hw => ?_)
  refine lv_iload_n hx hb dX13_lacks_13 rfl (lv_at hl 0 rfl) ?_
  refine lv_if_ne (tgt := 21) hx hb dX13_lacks_14 (by decide) (fun c3 => ?_) (fun c3 => ?_)
  · replace hf := (if_neg c3).symm.trans hf
    refine lv_iconst (v := 0) hx hb dX13_lacks_21 (by decide) ?_
    cases hf
    exact hQ _ _ _ _ _ _ dX13_lacks_22 gz0 hw
  · replace hf := (if_pos c3).symm.trans hf
    refine lv_iconst (v := 1) hx hb dX13_lacks_17 (by decide) ?_
    refine lv_goto (tgt := 22) hx hb dX13_lacks_18 (by decide) ?_
    cases hf
    exact hQ _ _ _ _ _ _ dX13_lacks_22 gz1 hw

def X13_lacks (E : gE) (l0 : Nat) (l1 : Int32) (σ : gS) : Option (Int32 × gS) :=
  if l1 = 0 then
    X13_lacks_10 E l1 (1 : Int32) l0 σ
  else
    X13_lacks_10 E l1 (0 : Int32) l0 σ
set_option maxHeartbeats 4000000 in
set_option maxRecDepth 100000 in
theorem X13_lacks_W {σ : gS} {l0 : Nat} {l1 : Int32} {res : (Int32 × gS)} {ls : Array Slot} (hC : gC E D A p R s m args meth c cX13_lacks 2 RX13 "lacks" 0 0) (hQ : gQI E D A p l e R s m args below meth c Q cX13_lacks FieldType.boolean res) (hf : X13_lacks E l0 l1 σ = some res) (hw : gW E D A s σ H locs) (hl : lv_has ls 2 [(0, .ref l0), (1, .int l1)]) : W p l e R s m args below meth c H locs cells slots Q (F0 m 0 ls []) := by
  have hC0 := hC
  obtain ⟨hx, hb, hml, hown, hts, -⟩ := hC0
  unfold X13_lacks at hf
  refine lv_aload_n hx hb dX13_lacks_0 rfl (lv_at hl 0 rfl) ?_
  refine lv_iload_n hx hb dX13_lacks_1 rfl (lv_at hl 1 rfl) ?_
  refine lv_if_eq (tgt := 9) hx hb dX13_lacks_2 (by decide) (fun c4 => ?_) (fun c4 => ?_)
  · replace hf := (if_pos c4).symm.trans hf
    refine lv_iconst (v := 1) hx hb dX13_lacks_9 (by decide) ?_
    exact X13_lacks_10_W hC hQ hf hw (lv_sub hl [1] rfl)
  · replace hf := (if_neg c4).symm.trans hf
    refine lv_iconst (v := 0) hx hb dX13_lacks_5 (by decide) ?_
    refine lv_goto (tgt := 10) hx hb dX13_lacks_6 (by decide) ?_
    exact X13_lacks_10_W hC hQ hf hw (lv_sub hl [1] rfl)

def X13_lacks_f (E : gE) (l0 : Nat) (l1 : Int32) (σ : gS) : Option (Int32 × gS) := X13_lacks E l0 l1 σ
set_option maxRecDepth 100000 in
theorem X13_lacks_M (l : Launch) (E : gE) (D : va_G) (A : Nat → Prop) {l0 : Nat} {l1 : Int32} {σ : gS} {res : (Int32 × gS)} (hf : X13_lacks_f E l0 l1 σ = some res) : gCI l E D A yX13_lacks cX13_lacks 2 0 0 (some FieldType.boolean) [.ref l0, .int l1] σ res := by
  refine gg_entI (own := RX13) (nm := "lacks") (ty := FieldType.boolean) (by decide +kernel) rfl rfl (Nat.le_of_ble_eq_true rfl) rfl ?_
  intro p e R s m args below meth c Q ls hC hw hQ hl
  have hl : lv_has ls 2 [(0, .ref l0), (1, .int l1)] := hl
  exact X13_lacks_W hC hQ hf hw hl

def X13_lacksBoth_20 (E : gE) (l0 : Nat) (s0 : Int32) (s1 : Nat) (σ : gS) : Option (Int32 × gS) :=
  ob (gpf E σ s1 11 10 (.int s0)) fun σ1 =>
  ob (gfI σ1 l0 11 10) fun x3 =>
  if x3 = 0 then
    some ((0 : Int32), σ1)
  else
    some ((1 : Int32), σ1)
set_option maxHeartbeats 4000000 in
set_option maxRecDepth 100000 in
theorem X13_lacksBoth_20_W {σ : gS} {l0 : Nat} {s0 : Int32} {s1 : Nat} {res : (Int32 × gS)} {ls : Array Slot} (hC : gC E D A p R s m args meth c cX13_lacksBoth 3 RX13 "lacksBoth" 1 21) (hQ : gQI E D A p l e R s m args below meth c Q cX13_lacksBoth FieldType.boolean res) (hf : X13_lacksBoth_20 E l0 s0 s1 σ = some res) (hw : gW E D A s σ H locs) (hl : lv_has ls 3 [(0, .ref l0)]) : W p l e R s m args below meth c H locs cells slots Q (F0 m 20 ls [.int s0, .ref s1]) := by
  have hC0 := hC
  obtain ⟨hx, hb, hml, hown, hts, -⟩ := hC0
  unfold X13_lacksBoth_20 at hf
  obtain ⟨σ1, h2, hf⟩ := ob_some hf
  refine p_fl_X13_85 hC hw h2 rfl rfl dX13_lacksBoth_20 (fun H locs hw => ?_)
  refine lv_aload_n hx hb dX13_lacksBoth_23 rfl (lv_at hl 0 rfl) ?_
  obtain ⟨x3, h4, hf⟩ := ob_some hf
  refine rI_fl_X13_85 hC hw h4 dX13_lacksBoth_24 ?_
  refine lv_if_eq (tgt := 34) hx hb dX13_lacksBoth_27 (by decide) (fun c5 => ?_) (fun c5 => ?_)
  · replace hf := (if_pos c5).symm.trans hf
    refine lv_iconst (v := 0) hx hb dX13_lacksBoth_34 (by decide) ?_
    cases hf
    exact hQ _ _ _ _ _ _ dX13_lacksBoth_35 gz0 hw
  · replace hf := (if_neg c5).symm.trans hf
    refine lv_iconst (v := 1) hx hb dX13_lacksBoth_30 (by decide) ?_
    refine lv_goto (tgt := 35) hx hb dX13_lacksBoth_31 (by decide) ?_
    cases hf
    exact hQ _ _ _ _ _ _ dX13_lacksBoth_35 gz1 hw

def X13_lacksBoth (E : gE) (l0 : Nat) (l1 : Int32) (l2 : Int32) (σ : gS) : Option (Int32 × gS) :=
  ob (gcl σ l0 11) fun _ =>
  ob (X13_lacks_f E l0 l1 σ) fun x6 =>
  if x6.1 = 0 then
    if l2 = 0 then
      X13_lacksBoth_20 E l0 (2 : Int32) l0 x6.2
    else
      X13_lacksBoth_20 E l0 (0 : Int32) l0 x6.2
  else
    some ((1 : Int32), x6.2)
set_option maxHeartbeats 4000000 in
set_option maxRecDepth 100000 in
theorem X13_lacksBoth_W {σ : gS} {l0 : Nat} {l1 : Int32} {l2 : Int32} {res : (Int32 × gS)} {ls : Array Slot} (hC : gC E D A p R s m args meth c cX13_lacksBoth 3 RX13 "lacksBoth" 1 21) (hQ : gQI E D A p l e R s m args below meth c Q cX13_lacksBoth FieldType.boolean res) (hf : X13_lacksBoth E l0 l1 l2 σ = some res) (hw : gW E D A s σ H locs) (hl : lv_has ls 3 [(0, .ref l0), (1, .int l1), (2, .int l2)]) : W p l e R s m args below meth c H locs cells slots Q (F0 m 0 ls []) := by
  have hC0 := hC
  obtain ⟨hx, hb, hml, hown, hts, -⟩ := hC0
  unfold X13_lacksBoth at hf
  refine lv_aload_n hx hb dX13_lacksBoth_0 rfl (lv_at hl 0 rfl) ?_
  refine lv_iload_n hx hb dX13_lacksBoth_1 rfl (lv_at hl 1 rfl) ?_
  obtain ⟨_, h8, hf⟩ := ob_some hf
  obtain ⟨x6, h7, hf⟩ := ob_some hf
  refine gg_cVI (As := [.int l1]) hC hw (X13_lacks_M l E D A h7) h8 rfl g_ml_X13_88 hd_X13_lacks (Nat.le_of_ble_eq_true rfl) (Nat.le_of_ble_eq_true rfl) hl.1 rfl (Nat.le_of_ble_eq_true rfl) dX13_lacksBoth_2 (fun H locs cells slots hw => ?_)
  refine lv_if_eq (tgt := 10) hx hb dX13_lacksBoth_5 (by decide) (fun c10 => ?_) (fun c10 => ?_)
  · replace hf := (if_pos c10).symm.trans hf
    refine lv_aload_n hx hb dX13_lacksBoth_10 rfl (lv_at hl 0 rfl) ?_
    refine lv_iload_n hx hb dX13_lacksBoth_11 rfl (lv_at hl 2 rfl) ?_
    refine lv_if_eq (tgt := 19) hx hb dX13_lacksBoth_12 (by decide) (fun c9 => ?_) (fun c9 => ?_)
    · replace hf := (if_pos c9).symm.trans hf
      refine lv_iconst (v := 2) hx hb dX13_lacksBoth_19 (by decide) ?_
      exact X13_lacksBoth_20_W hC hQ hf hw (lv_sub hl [0] rfl)
    · replace hf := (if_neg c9).symm.trans hf
      refine lv_iconst (v := 0) hx hb dX13_lacksBoth_15 (by decide) ?_
      refine lv_goto (tgt := 20) hx hb dX13_lacksBoth_16 (by decide) ?_
      exact X13_lacksBoth_20_W hC hQ hf hw (lv_sub hl [0] rfl)
  · replace hf := (if_neg c10).symm.trans hf
    refine lv_iconst (v := 1) hx hb dX13_lacksBoth_8 (by decide) ?_
    cases hf
    exact hQ _ _ _ _ _ _ dX13_lacksBoth_9 gz1 hw

def X13_lacksBoth_f (E : gE) (l0 : Nat) (l1 : Int32) (l2 : Int32) (σ : gS) : Option (Int32 × gS) := X13_lacksBoth E l0 l1 l2 σ
set_option maxRecDepth 100000 in
theorem X13_lacksBoth_M (l : Launch) (E : gE) (D : va_G) (A : Nat → Prop) {l0 : Nat} {l1 : Int32} {l2 : Int32} {σ : gS} {res : (Int32 × gS)} (hf : X13_lacksBoth_f E l0 l1 l2 σ = some res) : gCI l E D A yX13_lacksBoth cX13_lacksBoth 3 1 21 (some FieldType.boolean) [.ref l0, .int l1, .int l2] σ res := by
  refine gg_entI (own := RX13) (nm := "lacksBoth") (ty := FieldType.boolean) (by decide +kernel) rfl rfl (Nat.le_of_ble_eq_true rfl) rfl ?_
  intro p e R s m args below meth c Q ls hC hw hQ hl
  have hl : lv_has ls 3 [(0, .ref l0), (1, .int l1), (2, .int l2)] := hl
  exact X13_lacksBoth_W hC hQ hf hw hl

def X13_begin_2_s (E : gE) (r_2 : Nat → Int32 → Int32 → gS → Option gS) (l0 : Nat) (l1 : Int32) (l2 : Int32) (σ : gS) : Option gS :=
  if (4137 : Int32) ≤ l2 then
    ob (gfR σ l0 11 8) fun x1 =>
    ob (gwaI E σ x1 (0 : Int32) l1) fun σ3 =>
    some σ3
  else
    ob (gfR σ l0 11 8) fun x5 =>
    ob (gwaI E σ x5 l2 (0 : Int32)) fun σ7 =>
    r_2 l0 l1 (l2 + 1) σ7
set_option maxHeartbeats 4000000 in
set_option maxRecDepth 100000 in
theorem X13_begin_2_s_W {σ : gS} {l0 : Nat} {l1 : Int32} {l2 : Int32} {σz : gS} {ls : Array Slot} (hC : gC E D A p R s m args meth c cX13_begin 3 RX13 "begin" 0 0) (hQ : gQV E D A p l e R s m args below meth c Q cX13_begin σz) {r_2 : Nat → Int32 → Int32 → gS → Option gS} (h_2 : ∀ {l0 : Nat} {l1 : Int32} {l2 : Int32} {σ : gS} {H : Heap} {locs : List Loc} {cells slots : Nat} {ls : Array Slot}, r_2 l0 l1 l2 σ = some σz → gW E D A s σ H locs → lv_has ls 3 [(0, .ref l0), (1, .int l1), (2, .int l2)] → W p l e R s m args below meth c H locs cells slots Q (F0 m 2 ls [])) (hf : X13_begin_2_s E r_2 l0 l1 l2 σ = some σz) (hw : gW E D A s σ H locs) (hl : lv_has ls 3 [(0, .ref l0), (1, .int l1), (2, .int l2)]) : W p l e R s m args below meth c H locs cells slots Q (F0 m 2 ls []) := by
  have hC0 := hC
  obtain ⟨hx, hb, hml, hown, hts, -⟩ := hC0
  unfold X13_begin_2_s at hf
  refine lv_iload_n hx hb dX13_begin_2 rfl (lv_at hl 2 rfl) ?_
  refine lv_sipush (v := 4137) hx hb dX13_begin_3 (by decide) ?_
  refine lv_icmp_ge (tgt := 22) hx hb dX13_begin_6 (by decide) (fun c9 => ?_) (fun c9 => ?_)
  · replace hf := (if_pos c9).symm.trans hf
    refine lv_aload_n hx hb dX13_begin_22 rfl (lv_at hl 0 rfl) ?_
    obtain ⟨x1, h2, hf⟩ := ob_some hf
    refine rR_fl_X13_35 hC hw h2 dX13_begin_23 ?_
    refine lv_iconst (v := 0) hx hb dX13_begin_26 (by decide) ?_
    refine lv_iload_n hx hb dX13_begin_27 rfl (lv_at hl 1 rfl) ?_
    obtain ⟨σ3, h4, hf⟩ := ob_some hf
    refine gg_astI hC hw h4 dX13_begin_28 (fun H locs hw => ?_)
    cases hf
    exact hQ _ _ _ _ _ _ dX13_begin_29 hw
  · replace hf := (if_neg c9).symm.trans hf
    refine lv_aload_n hx hb dX13_begin_9 rfl (lv_at hl 0 rfl) ?_
    obtain ⟨x5, h6, hf⟩ := ob_some hf
    refine rR_fl_X13_35 hC hw h6 dX13_begin_10 ?_
    refine lv_iload_n hx hb dX13_begin_13 rfl (lv_at hl 2 rfl) ?_
    refine lv_iconst (v := 0) hx hb dX13_begin_14 (by decide) ?_
    obtain ⟨σ7, h8, hf⟩ := ob_some hf
    refine gg_astI hC hw h8 dX13_begin_15 (fun H locs hw => ?_)
    refine lv_iinc (v := (l2 + 1)) (lv' := [(2, .int (l2 + 1)), (0, .ref l0), (1, .int l1)]) hx hb dX13_begin_16 hl (k := 2) rfl rfl (by decide) rfl (fun ls hl => ?_)
    refine lv_goto (tgt := 2) hx hb dX13_begin_19 (by decide) ?_
    exact h_2 hf hw (lv_sub hl [1, 2, 0] rfl)
def X13_begin_2 (E : gE) : Nat → Nat → Int32 → Int32 → gS → Option gS
  | 0 => fun _ _ _ _ => none
  | n + 1 => X13_begin_2_s E (X13_begin_2 E n)
theorem X13_begin_2_W {σz : gS} (hC : gC E D A p R s m args meth c cX13_begin 3 RX13 "begin" 0 0) (hQ : gQV E D A p l e R s m args below meth c Q cX13_begin σz) : ∀ (n : Nat), ∀ {l0 : Nat} {l1 : Int32} {l2 : Int32} {σ : gS} {H : Heap} {locs : List Loc} {cells slots : Nat} {ls : Array Slot}, X13_begin_2 E n l0 l1 l2 σ = some σz → gW E D A s σ H locs → lv_has ls 3 [(0, .ref l0), (1, .int l1), (2, .int l2)] → W p l e R s m args below meth c H locs cells slots Q (F0 m 2 ls []) := by
  intro n
  induction n with
  | zero =>
    intros
    rename_i hf _ _
    exact absurd hf (fun h => by cases (show (none : Option gS) = some σz from h))
  | succ n ih =>
    intros
    rename_i hf hw hl
    exact X13_begin_2_s_W hC hQ ih hf hw hl

def X13_begin (E : gE) (l0 : Nat) (l1 : Int32) (σ : gS) : Option gS :=
  X13_begin_2 E (gN E) l0 l1 (0 : Int32) σ
set_option maxHeartbeats 4000000 in
set_option maxRecDepth 100000 in
theorem X13_begin_W {σ : gS} {l0 : Nat} {l1 : Int32} {σz : gS} {ls : Array Slot} (hC : gC E D A p R s m args meth c cX13_begin 3 RX13 "begin" 0 0) (hQ : gQV E D A p l e R s m args below meth c Q cX13_begin σz) (hf : X13_begin E l0 l1 σ = some σz) (hw : gW E D A s σ H locs) (hl : lv_has ls 3 [(0, .ref l0), (1, .int l1)]) : W p l e R s m args below meth c H locs cells slots Q (F0 m 0 ls []) := by
  have hC0 := hC
  obtain ⟨hx, hb, hml, hown, hts, -⟩ := hC0
  unfold X13_begin at hf
  refine lv_iconst (v := 0) hx hb dX13_begin_0 (by decide) ?_
  refine lv_istore_n (lv' := [(2, .int (0 : Int32)), (0, .ref l0), (1, .int l1)]) hx hb dX13_begin_1 rfl hl (by decide) rfl (fun ls hl => ?_)
  exact X13_begin_2_W hC hQ (gN E) hf hw (lv_sub hl [1, 2, 0] rfl)

def X13_begin_f (E : gE) (l0 : Nat) (l1 : Int32) (σ : gS) : Option gS := X13_begin E l0 l1 σ
set_option maxRecDepth 100000 in
theorem X13_begin_M (l : Launch) (E : gE) (D : va_G) (A : Nat → Prop) {l0 : Nat} {l1 : Int32} {σ : gS} {σz : gS} (hf : X13_begin_f E l0 l1 σ = some σz) : gCV l E D A yX13_begin cX13_begin 3 0 0 none [.ref l0, .int l1] σ σz := by
  refine gg_entV (own := RX13) (nm := "begin") (by decide +kernel) rfl rfl (Nat.le_of_ble_eq_true rfl) rfl ?_
  intro p e R s m args below meth c Q ls hC hw hQ hl
  have hl : lv_has ls 3 [(0, .ref l0), (1, .int l1)] := hl
  exact X13_begin_W hC hQ hf hw hl

def X13_isColumn (E : gE) (σ : gS) (l0 : Nat) (l1 : Int32) : Option Int32 :=
  ob (gfR σ l0 11 8) fun x1 =>
  ob (graI E 0 σ x1 (0 : Int32)) fun x3 =>
  ob (X13_inRange_f E σ l1 (0 : Int32) (x3 - (1 : Int32))) fun x5 =>
  ob (gz x5) fun _ =>
  some x5
set_option maxHeartbeats 4000000 in
set_option maxRecDepth 100000 in
theorem X13_isColumn_W {σ : gS} {l0 : Nat} {l1 : Int32} {res : Int32} {ls : Array Slot} (hC : gC E D A p R s m args meth c cX13_isColumn 2 RX13 "isColumn" 1 22) (hQ : gQI E D A p l e R s m args below meth c Q cX13_isColumn FieldType.boolean (res, σ)) (hf : X13_isColumn E σ l0 l1 = some res) (hw : gW E D A s σ H locs) (hl : lv_has ls 2 [(0, .ref l0), (1, .int l1)]) : W p l e R s m args below meth c H locs cells slots Q (F0 m 0 ls []) := by
  have hC0 := hC
  obtain ⟨hx, hb, hml, hown, hts, -⟩ := hC0
  unfold X13_isColumn at hf
  refine lv_iload_n hx hb dX13_isColumn_0 rfl (lv_at hl 1 rfl) ?_
  refine lv_iconst (v := 0) hx hb dX13_isColumn_1 (by decide) ?_
  refine lv_aload_n hx hb dX13_isColumn_2 rfl (lv_at hl 0 rfl) ?_
  obtain ⟨x1, h2, hf⟩ := ob_some hf
  refine rR_fl_X13_35 hC hw h2 dX13_isColumn_3 ?_
  refine lv_iconst (v := 0) hx hb dX13_isColumn_6 (by decide) ?_
  obtain ⟨x3, h4, hf⟩ := ob_some hf
  refine gg_aldI hC hw h4 dX13_isColumn_7 ?_
  refine lv_iconst (v := 1) hx hb dX13_isColumn_8 (by decide) ?_
  refine lv_isub hx hb dX13_isColumn_9 ?_
  obtain ⟨x5, h6, hf⟩ := ob_some hf
  refine gg_cSI (As := [.int l1, .int (0 : Int32), .int (x3 - (1 : Int32))]) hC hw (X13_inRange_M l E D A h6) g_ml_X13_92 hd_X13_inRange.2 (Nat.le_of_ble_eq_true rfl) (Nat.le_of_ble_eq_true rfl) hl.1 rfl (Nat.le_of_ble_eq_true rfl) dX13_isColumn_10 (fun H locs cells slots hw => ?_)
  obtain ⟨_, h7, hf⟩ := ob_some hf
  cases hf
  exact hQ _ _ _ _ _ _ dX13_isColumn_13 (gz_some h7) hw

def X13_isColumn_f (E : gE) (σ : gS) (l0 : Nat) (l1 : Int32) : Option Int32 := X13_isColumn E σ l0 l1
set_option maxRecDepth 100000 in
theorem X13_isColumn_M (l : Launch) (E : gE) (D : va_G) (A : Nat → Prop) {l0 : Nat} {l1 : Int32} {σ : gS} {res : Int32} (hf : X13_isColumn_f E σ l0 l1 = some res) : gCI l E D A yX13_isColumn cX13_isColumn 2 1 22 (some FieldType.boolean) [.ref l0, .int l1] σ (res, σ) := by
  refine gg_entI (own := RX13) (nm := "isColumn") (ty := FieldType.boolean) (by decide +kernel) rfl rfl (Nat.le_of_ble_eq_true rfl) rfl ?_
  intro p e R s m args below meth c Q ls hC hw hQ hl
  have hl : lv_has ls 2 [(0, .ref l0), (1, .int l1)] := hl
  exact X13_isColumn_W hC hQ hf hw hl

def X13_isRow (E : gE) (σ : gS) (l0 : Nat) (l1 : Int32) : Option Int32 :=
  ob (gfR σ l0 11 8) fun x1 =>
  ob (graI E 0 σ x1 (1 : Int32)) fun x3 =>
  ob (X13_inRange_f E σ l1 (0 : Int32) (x3 - (1 : Int32))) fun x5 =>
  ob (gz x5) fun _ =>
  some x5
set_option maxHeartbeats 4000000 in
set_option maxRecDepth 100000 in
theorem X13_isRow_W {σ : gS} {l0 : Nat} {l1 : Int32} {res : Int32} {ls : Array Slot} (hC : gC E D A p R s m args meth c cX13_isRow 2 RX13 "isRow" 1 22) (hQ : gQI E D A p l e R s m args below meth c Q cX13_isRow FieldType.boolean (res, σ)) (hf : X13_isRow E σ l0 l1 = some res) (hw : gW E D A s σ H locs) (hl : lv_has ls 2 [(0, .ref l0), (1, .int l1)]) : W p l e R s m args below meth c H locs cells slots Q (F0 m 0 ls []) := by
  have hC0 := hC
  obtain ⟨hx, hb, hml, hown, hts, -⟩ := hC0
  unfold X13_isRow at hf
  refine lv_iload_n hx hb dX13_isRow_0 rfl (lv_at hl 1 rfl) ?_
  refine lv_iconst (v := 0) hx hb dX13_isRow_1 (by decide) ?_
  refine lv_aload_n hx hb dX13_isRow_2 rfl (lv_at hl 0 rfl) ?_
  obtain ⟨x1, h2, hf⟩ := ob_some hf
  refine rR_fl_X13_35 hC hw h2 dX13_isRow_3 ?_
  refine lv_iconst (v := 1) hx hb dX13_isRow_6 (by decide) ?_
  obtain ⟨x3, h4, hf⟩ := ob_some hf
  refine gg_aldI hC hw h4 dX13_isRow_7 ?_
  refine lv_iconst (v := 1) hx hb dX13_isRow_8 (by decide) ?_
  refine lv_isub hx hb dX13_isRow_9 ?_
  obtain ⟨x5, h6, hf⟩ := ob_some hf
  refine gg_cSI (As := [.int l1, .int (0 : Int32), .int (x3 - (1 : Int32))]) hC hw (X13_inRange_M l E D A h6) g_ml_X13_92 hd_X13_inRange.2 (Nat.le_of_ble_eq_true rfl) (Nat.le_of_ble_eq_true rfl) hl.1 rfl (Nat.le_of_ble_eq_true rfl) dX13_isRow_10 (fun H locs cells slots hw => ?_)
  obtain ⟨_, h7, hf⟩ := ob_some hf
  cases hf
  exact hQ _ _ _ _ _ _ dX13_isRow_13 (gz_some h7) hw

def X13_isRow_f (E : gE) (σ : gS) (l0 : Nat) (l1 : Int32) : Option Int32 := X13_isRow E σ l0 l1
set_option maxRecDepth 100000 in
theorem X13_isRow_M (l : Launch) (E : gE) (D : va_G) (A : Nat → Prop) {l0 : Nat} {l1 : Int32} {σ : gS} {res : Int32} (hf : X13_isRow_f E σ l0 l1 = some res) : gCI l E D A yX13_isRow cX13_isRow 2 1 22 (some FieldType.boolean) [.ref l0, .int l1] σ (res, σ) := by
  refine gg_entI (own := RX13) (nm := "isRow") (ty := FieldType.boolean) (by decide +kernel) rfl rfl (Nat.le_of_ble_eq_true rfl) rfl ?_
  intro p e R s m args below meth c Q ls hC hw hQ hl
  have hl : lv_has ls 2 [(0, .ref l0), (1, .int l1)] := hl
  exact X13_isRow_W hC hQ hf hw hl

def X13_isCondition (E : gE) (σ : gS) (l0 : Nat) (l1 : Int32) : Option Int32 :=
  ob (gfR σ l0 11 8) fun x1 =>
  ob (graI E 0 σ x1 (2 : Int32)) fun x3 =>
  ob (X13_inRange_f E σ l1 (0 : Int32) (x3 - (1 : Int32))) fun x5 =>
  ob (gz x5) fun _ =>
  some x5
set_option maxHeartbeats 4000000 in
set_option maxRecDepth 100000 in
theorem X13_isCondition_W {σ : gS} {l0 : Nat} {l1 : Int32} {res : Int32} {ls : Array Slot} (hC : gC E D A p R s m args meth c cX13_isCondition 2 RX13 "isCondition" 1 22) (hQ : gQI E D A p l e R s m args below meth c Q cX13_isCondition FieldType.boolean (res, σ)) (hf : X13_isCondition E σ l0 l1 = some res) (hw : gW E D A s σ H locs) (hl : lv_has ls 2 [(0, .ref l0), (1, .int l1)]) : W p l e R s m args below meth c H locs cells slots Q (F0 m 0 ls []) := by
  have hC0 := hC
  obtain ⟨hx, hb, hml, hown, hts, -⟩ := hC0
  unfold X13_isCondition at hf
  refine lv_iload_n hx hb dX13_isCondition_0 rfl (lv_at hl 1 rfl) ?_
  refine lv_iconst (v := 0) hx hb dX13_isCondition_1 (by decide) ?_
  refine lv_aload_n hx hb dX13_isCondition_2 rfl (lv_at hl 0 rfl) ?_
  obtain ⟨x1, h2, hf⟩ := ob_some hf
  refine rR_fl_X13_35 hC hw h2 dX13_isCondition_3 ?_
  refine lv_iconst (v := 2) hx hb dX13_isCondition_6 (by decide) ?_
  obtain ⟨x3, h4, hf⟩ := ob_some hf
  refine gg_aldI hC hw h4 dX13_isCondition_7 ?_
  refine lv_iconst (v := 1) hx hb dX13_isCondition_8 (by decide) ?_
  refine lv_isub hx hb dX13_isCondition_9 ?_
  obtain ⟨x5, h6, hf⟩ := ob_some hf
  refine gg_cSI (As := [.int l1, .int (0 : Int32), .int (x3 - (1 : Int32))]) hC hw (X13_inRange_M l E D A h6) g_ml_X13_92 hd_X13_inRange.2 (Nat.le_of_ble_eq_true rfl) (Nat.le_of_ble_eq_true rfl) hl.1 rfl (Nat.le_of_ble_eq_true rfl) dX13_isCondition_10 (fun H locs cells slots hw => ?_)
  obtain ⟨_, h7, hf⟩ := ob_some hf
  cases hf
  exact hQ _ _ _ _ _ _ dX13_isCondition_13 (gz_some h7) hw

def X13_isCondition_f (E : gE) (σ : gS) (l0 : Nat) (l1 : Int32) : Option Int32 := X13_isCondition E σ l0 l1
set_option maxRecDepth 100000 in
theorem X13_isCondition_M (l : Launch) (E : gE) (D : va_G) (A : Nat → Prop) {l0 : Nat} {l1 : Int32} {σ : gS} {res : Int32} (hf : X13_isCondition_f E σ l0 l1 = some res) : gCI l E D A yX13_isCondition cX13_isCondition 2 1 22 (some FieldType.boolean) [.ref l0, .int l1] σ (res, σ) := by
  refine gg_entI (own := RX13) (nm := "isCondition") (ty := FieldType.boolean) (by decide +kernel) rfl rfl (Nat.le_of_ble_eq_true rfl) rfl ?_
  intro p e R s m args below meth c Q ls hC hw hQ hl
  have hl : lv_has ls 2 [(0, .ref l0), (1, .int l1)] := hl
  exact X13_isCondition_W hC hQ hf hw hl

def X13_isValue (E : gE) (σ : gS) (l0 : Int32) : Option Int32 :=
  ob (X13_inRange_f E σ l0 (-9999 : Int32) (9999 : Int32)) fun x1 =>
  ob (gz x1) fun _ =>
  some x1
set_option maxHeartbeats 4000000 in
set_option maxRecDepth 100000 in
theorem X13_isValue_W {σ : gS} {l0 : Int32} {res : Int32} {ls : Array Slot} (hC : gC E D A p R s m args meth c cX13_isValue 1 RX13 "isValue" 1 22) (hQ : gQI E D A p l e R s m args below meth c Q cX13_isValue FieldType.boolean (res, σ)) (hf : X13_isValue E σ l0 = some res) (hw : gW E D A s σ H locs) (hl : lv_has ls 1 [(0, .int l0)]) : W p l e R s m args below meth c H locs cells slots Q (F0 m 0 ls []) := by
  have hC0 := hC
  obtain ⟨hx, hb, hml, hown, hts, -⟩ := hC0
  unfold X13_isValue at hf
  refine lv_iload_n hx hb dX13_isValue_0 rfl (lv_at hl 0 rfl) ?_
  refine lv_sipush (v := -9999) hx hb dX13_isValue_1 (by decide) ?_
  refine lv_sipush (v := 9999) hx hb dX13_isValue_4 (by decide) ?_
  obtain ⟨x1, h2, hf⟩ := ob_some hf
  refine gg_cSI (As := [.int l0, .int (-9999 : Int32), .int (9999 : Int32)]) hC hw (X13_inRange_M l E D A h2) g_ml_X13_92 hd_X13_inRange.2 (Nat.le_of_ble_eq_true rfl) (Nat.le_of_ble_eq_true rfl) hl.1 rfl (Nat.le_of_ble_eq_true rfl) dX13_isValue_7 (fun H locs cells slots hw => ?_)
  obtain ⟨_, h3, hf⟩ := ob_some hf
  cases hf
  exact hQ _ _ _ _ _ _ dX13_isValue_10 (gz_some h3) hw

def X13_isValue_f (E : gE) (σ : gS) (l0 : Int32) : Option Int32 := X13_isValue E σ l0
set_option maxRecDepth 100000 in
theorem X13_isValue_M (l : Launch) (E : gE) (D : va_G) (A : Nat → Prop) {l0 : Int32} {σ : gS} {res : Int32} (hf : X13_isValue_f E σ l0 = some res) : gCI l E D A yX13_isValue cX13_isValue 1 1 22 (some FieldType.boolean) [.int l0] σ (res, σ) := by
  refine gg_entI (own := RX13) (nm := "isValue") (ty := FieldType.boolean) (by decide +kernel) rfl rfl (Nat.le_of_ble_eq_true rfl) rfl ?_
  intro p e R s m args below meth c Q ls hC hw hQ hl
  have hl : lv_has ls 1 [(0, .int l0)] := hl
  exact X13_isValue_W hC hQ hf hw hl

def X13_placeOf (E : gE) (σ : gS) (l0 : Int32) (l1 : Int32) : Option Int32 :=
  some (((27 : Int32) + ((6 : Int32) * l1)) + l0)
set_option maxHeartbeats 4000000 in
set_option maxRecDepth 100000 in
theorem X13_placeOf_W {σ : gS} {l0 : Int32} {l1 : Int32} {res : Int32} {ls : Array Slot} (hC : gC E D A p R s m args meth c cX13_placeOf 2 RX13 "placeOf" 0 0) (hQ : gQI E D A p l e R s m args below meth c Q cX13_placeOf FieldType.int (res, σ)) (hf : X13_placeOf E σ l0 l1 = some res) (hw : gW E D A s σ H locs) (hl : lv_has ls 2 [(0, .int l0), (1, .int l1)]) : W p l e R s m args below meth c H locs cells slots Q (F0 m 0 ls []) := by
  have hC0 := hC
  obtain ⟨hx, hb, hml, hown, hts, -⟩ := hC0
  unfold X13_placeOf at hf
  refine lv_bipush (v := 27) hx hb dX13_placeOf_0 (by decide) ?_
  refine lv_bipush (v := 6) hx hb dX13_placeOf_2 (by decide) ?_
  refine lv_iload_n hx hb dX13_placeOf_4 rfl (lv_at hl 1 rfl) ?_
  refine lv_imul hx hb dX13_placeOf_5 ?_
  refine lv_iadd hx hb dX13_placeOf_6 ?_
  refine lv_iload_n hx hb dX13_placeOf_7 rfl (lv_at hl 0 rfl) ?_
  refine lv_iadd hx hb dX13_placeOf_8 ?_
  cases hf
  exact hQ _ _ _ _ _ _ dX13_placeOf_9 rfl hw

def X13_placeOf_f (E : gE) (σ : gS) (l0 : Int32) (l1 : Int32) : Option Int32 := X13_placeOf E σ l0 l1
set_option maxRecDepth 100000 in
theorem X13_placeOf_M (l : Launch) (E : gE) (D : va_G) (A : Nat → Prop) {l0 : Int32} {l1 : Int32} {σ : gS} {res : Int32} (hf : X13_placeOf_f E σ l0 l1 = some res) : gCI l E D A yX13_placeOf cX13_placeOf 2 0 0 (some FieldType.int) [.int l0, .int l1] σ (res, σ) := by
  refine gg_entI (own := RX13) (nm := "placeOf") (ty := FieldType.int) (by decide +kernel) rfl rfl (Nat.le_of_ble_eq_true rfl) rfl ?_
  intro p e R s m args below meth c Q ls hC hw hQ hl
  have hl : lv_has ls 2 [(0, .int l0), (1, .int l1)] := hl
  exact X13_placeOf_W hC hQ hf hw hl

def X13_at (E : gE) (σ : gS) (l0 : Nat) (l1 : Int32) (l2 : Int32) : Option Int32 :=
  ob (gfR σ l0 11 8) fun x1 =>
  ob (X13_placeOf_f E σ l1 l2) fun x3 =>
  ob (graI E 0 σ x1 x3) fun x5 =>
  some x5
set_option maxHeartbeats 4000000 in
set_option maxRecDepth 100000 in
theorem X13_at_W {σ : gS} {l0 : Nat} {l1 : Int32} {l2 : Int32} {res : Int32} {ls : Array Slot} (hC : gC E D A p R s m args meth c cX13_at 3 RX13 "at" 1 21) (hQ : gQI E D A p l e R s m args below meth c Q cX13_at FieldType.int (res, σ)) (hf : X13_at E σ l0 l1 l2 = some res) (hw : gW E D A s σ H locs) (hl : lv_has ls 3 [(0, .ref l0), (1, .int l1), (2, .int l2)]) : W p l e R s m args below meth c H locs cells slots Q (F0 m 0 ls []) := by
  have hC0 := hC
  obtain ⟨hx, hb, hml, hown, hts, -⟩ := hC0
  unfold X13_at at hf
  refine lv_aload_n hx hb dX13_at_0 rfl (lv_at hl 0 rfl) ?_
  obtain ⟨x1, h2, hf⟩ := ob_some hf
  refine rR_fl_X13_35 hC hw h2 dX13_at_1 ?_
  refine lv_iload_n hx hb dX13_at_4 rfl (lv_at hl 1 rfl) ?_
  refine lv_iload_n hx hb dX13_at_5 rfl (lv_at hl 2 rfl) ?_
  obtain ⟨x3, h4, hf⟩ := ob_some hf
  refine gg_cSI (As := [.int l1, .int l2]) hC hw (X13_placeOf_M l E D A h4) g_ml_X13_96 hd_X13_placeOf.2 (Nat.le_of_ble_eq_true rfl) (Nat.le_of_ble_eq_true rfl) hl.1 rfl (Nat.le_of_ble_eq_true rfl) dX13_at_6 (fun H locs cells slots hw => ?_)
  obtain ⟨x5, h6, hf⟩ := ob_some hf
  refine gg_aldI hC hw h6 dX13_at_9 ?_
  cases hf
  exact hQ _ _ _ _ _ _ dX13_at_10 rfl hw

def X13_at_f (E : gE) (σ : gS) (l0 : Nat) (l1 : Int32) (l2 : Int32) : Option Int32 := X13_at E σ l0 l1 l2
set_option maxRecDepth 100000 in
theorem X13_at_M (l : Launch) (E : gE) (D : va_G) (A : Nat → Prop) {l0 : Nat} {l1 : Int32} {l2 : Int32} {σ : gS} {res : Int32} (hf : X13_at_f E σ l0 l1 l2 = some res) : gCI l E D A yX13_at cX13_at 3 1 21 (some FieldType.int) [.ref l0, .int l1, .int l2] σ (res, σ) := by
  refine gg_entI (own := RX13) (nm := "at") (ty := FieldType.int) (by decide +kernel) rfl rfl (Nat.le_of_ble_eq_true rfl) rfl ?_
  intro p e R s m args below meth c Q ls hC hw hQ hl
  have hl : lv_has ls 3 [(0, .ref l0), (1, .int l1), (2, .int l2)] := hl
  exact X13_at_W hC hQ hf hw hl

def X13_bits (E : gE) (σ : gS) (l0 : Int32) : Option Int32 :=
  some (gushr ((((((l0 - ((gushr l0 (1 : Int32)) &&& (1431655765 : Int32))) &&& (858993459 : Int32)) + ((gushr (l0 - ((gushr l0 (1 : Int32)) &&& (1431655765 : Int32))) (2 : Int32)) &&& (858993459 : Int32))) + (gushr (((l0 - ((gushr l0 (1 : Int32)) &&& (1431655765 : Int32))) &&& (858993459 : Int32)) + ((gushr (l0 - ((gushr l0 (1 : Int32)) &&& (1431655765 : Int32))) (2 : Int32)) &&& (858993459 : Int32))) (4 : Int32))) &&& (252645135 : Int32)) * (16843009 : Int32)) (24 : Int32))
set_option maxHeartbeats 4000000 in
set_option maxRecDepth 100000 in
theorem X13_bits_W {σ : gS} {l0 : Int32} {res : Int32} {ls : Array Slot} (hC : gC E D A p R s m args meth c cX13_bits 2 RX13 "bits" 0 0) (hQ : gQI E D A p l e R s m args below meth c Q cX13_bits FieldType.int (res, σ)) (hf : X13_bits E σ l0 = some res) (hw : gW E D A s σ H locs) (hl : lv_has ls 2 [(0, .int l0)]) : W p l e R s m args below meth c H locs cells slots Q (F0 m 0 ls []) := by
  have hC0 := hC
  obtain ⟨hx, hb, hml, hown, hts, -⟩ := hC0
  unfold X13_bits at hf
  refine lv_iload_n hx hb dX13_bits_0 rfl (lv_at hl 0 rfl) ?_
  refine lv_iload_n hx hb dX13_bits_1 rfl (lv_at hl 0 rfl) ?_
  refine lv_iconst (v := 1) hx hb dX13_bits_2 (by decide) ?_
  refine lv_iushr (v := gushr l0 (1 : Int32)) hx hb dX13_bits_3 rfl ?_
  refine lv_ldc (v := 1431655765) hx hb hown (hts _ kc_X13_100) dX13_bits_4 ?_
  refine lv_iand hx hb dX13_bits_6 ?_
  refine lv_isub hx hb dX13_bits_7 ?_
  refine lv_istore_n (lv' := [(1, .int (l0 - ((gushr l0 (1 : Int32)) &&& (1431655765 : Int32)))), (0, .int l0)]) hx hb dX13_bits_8 rfl hl (by decide) rfl (fun ls hl => ?_)
  refine lv_iload_n hx hb dX13_bits_9 rfl (lv_at hl 0 rfl) ?_
  refine lv_ldc (v := 858993459) hx hb hown (hts _ kc_X13_101) dX13_bits_10 ?_
  refine lv_iand hx hb dX13_bits_12 ?_
  refine lv_iload_n hx hb dX13_bits_13 rfl (lv_at hl 0 rfl) ?_
  refine lv_iconst (v := 2) hx hb dX13_bits_14 (by decide) ?_
  refine lv_iushr (v := gushr (l0 - ((gushr l0 (1 : Int32)) &&& (1431655765 : Int32))) (2 : Int32)) hx hb dX13_bits_15 rfl ?_
  refine lv_ldc (v := 858993459) hx hb hown (hts _ kc_X13_101) dX13_bits_16 ?_
  refine lv_iand hx hb dX13_bits_18 ?_
  refine lv_iadd hx hb dX13_bits_19 ?_
  refine lv_istore_n (lv' := [(1, .int (((l0 - ((gushr l0 (1 : Int32)) &&& (1431655765 : Int32))) &&& (858993459 : Int32)) + ((gushr (l0 - ((gushr l0 (1 : Int32)) &&& (1431655765 : Int32))) (2 : Int32)) &&& (858993459 : Int32)))), (0, .int l0)]) hx hb dX13_bits_20 rfl hl (by decide) rfl (fun ls hl => ?_)
  refine lv_iload_n hx hb dX13_bits_21 rfl (lv_at hl 0 rfl) ?_
  refine lv_iload_n hx hb dX13_bits_22 rfl (lv_at hl 0 rfl) ?_
  refine lv_iconst (v := 4) hx hb dX13_bits_23 (by decide) ?_
  refine lv_iushr (v := gushr (((l0 - ((gushr l0 (1 : Int32)) &&& (1431655765 : Int32))) &&& (858993459 : Int32)) + ((gushr (l0 - ((gushr l0 (1 : Int32)) &&& (1431655765 : Int32))) (2 : Int32)) &&& (858993459 : Int32))) (4 : Int32)) hx hb dX13_bits_24 rfl ?_
  refine lv_iadd hx hb dX13_bits_25 ?_
  refine lv_ldc (v := 252645135) hx hb hown (hts _ kc_X13_102) dX13_bits_26 ?_
  refine lv_iand hx hb dX13_bits_28 ?_
  refine lv_istore_n (lv' := [(1, .int (((((l0 - ((gushr l0 (1 : Int32)) &&& (1431655765 : Int32))) &&& (858993459 : Int32)) + ((gushr (l0 - ((gushr l0 (1 : Int32)) &&& (1431655765 : Int32))) (2 : Int32)) &&& (858993459 : Int32))) + (gushr (((l0 - ((gushr l0 (1 : Int32)) &&& (1431655765 : Int32))) &&& (858993459 : Int32)) + ((gushr (l0 - ((gushr l0 (1 : Int32)) &&& (1431655765 : Int32))) (2 : Int32)) &&& (858993459 : Int32))) (4 : Int32))) &&& (252645135 : Int32))), (0, .int l0)]) hx hb dX13_bits_29 rfl hl (by decide) rfl (fun ls hl => ?_)
  refine lv_iload_n hx hb dX13_bits_30 rfl (lv_at hl 0 rfl) ?_
  refine lv_ldc (v := 16843009) hx hb hown (hts _ kc_X13_103) dX13_bits_31 ?_
  refine lv_imul hx hb dX13_bits_33 ?_
  refine lv_bipush (v := 24) hx hb dX13_bits_34 (by decide) ?_
  refine lv_iushr (v := gushr ((((((l0 - ((gushr l0 (1 : Int32)) &&& (1431655765 : Int32))) &&& (858993459 : Int32)) + ((gushr (l0 - ((gushr l0 (1 : Int32)) &&& (1431655765 : Int32))) (2 : Int32)) &&& (858993459 : Int32))) + (gushr (((l0 - ((gushr l0 (1 : Int32)) &&& (1431655765 : Int32))) &&& (858993459 : Int32)) + ((gushr (l0 - ((gushr l0 (1 : Int32)) &&& (1431655765 : Int32))) (2 : Int32)) &&& (858993459 : Int32))) (4 : Int32))) &&& (252645135 : Int32)) * (16843009 : Int32)) (24 : Int32)) hx hb dX13_bits_36 rfl ?_
  cases hf
  exact hQ _ _ _ _ _ _ dX13_bits_37 rfl hw

def X13_bits_f (E : gE) (σ : gS) (l0 : Int32) : Option Int32 := X13_bits E σ l0
set_option maxRecDepth 100000 in
theorem X13_bits_M (l : Launch) (E : gE) (D : va_G) (A : Nat → Prop) {l0 : Int32} {σ : gS} {res : Int32} (hf : X13_bits_f E σ l0 = some res) : gCI l E D A yX13_bits cX13_bits 2 0 0 (some FieldType.int) [.int l0] σ (res, σ) := by
  refine gg_entI (own := RX13) (nm := "bits") (ty := FieldType.int) (by decide +kernel) rfl rfl (Nat.le_of_ble_eq_true rfl) rfl ?_
  intro p e R s m args below meth c Q ls hC hw hQ hl
  have hl : lv_has ls 2 [(0, .int l0)] := hl
  exact X13_bits_W hC hQ hf hw hl

def X13_has_47 (E : gE) (σ : gS) : Option Int32 :=
  some (0 : Int32)
set_option maxHeartbeats 4000000 in
set_option maxRecDepth 100000 in
theorem X13_has_47_W {σ : gS} {res : Int32} {ls : Array Slot} (hC : gC E D A p R s m args meth c cX13_has 4 RX13 "has" 2 42) (hQ : gQI E D A p l e R s m args below meth c Q cX13_has FieldType.boolean (res, σ)) (hf : X13_has_47 E σ = some res) (hw : gW E D A s σ H locs) (hl : lv_has ls 4 []) : W p l e R s m args below meth c H locs cells slots Q (F0 m 47 ls []) := by
  have hC0 := hC
  obtain ⟨hx, hb, hml, hown, hts, -⟩ := hC0
  unfold X13_has_47 at hf
  refine lv_iconst (v := 0) hx hb dX13_has_47 (by decide) ?_
  cases hf
  exact hQ _ _ _ _ _ _ dX13_has_48 gz0 hw

def X13_has (E : gE) (σ : gS) (l0 : Nat) (l1 : Int32) (l2 : Int32) : Option Int32 :=
  ob (X13_isValue_f E σ l2) fun x1 =>
  if x1 = 0 then
    X13_has_47 E σ
  else
    ob (gfR σ l0 11 8) fun x3 =>
    ob (graI E 0 σ x3 (((387 : Int32) + ((625 : Int32) * l1)) + ((l2 + (9999 : Int32)) / (32 : Int32)))) fun x5 =>
    if ((gushr x5 ((l2 + (9999 : Int32)) - (l2 + (9999 : Int32)) / (32 : Int32) * (32 : Int32))) &&& (1 : Int32)) = (1 : Int32) then
      some (1 : Int32)
    else
      X13_has_47 E σ
set_option maxHeartbeats 4000000 in
set_option maxRecDepth 100000 in
theorem X13_has_W {σ : gS} {l0 : Nat} {l1 : Int32} {l2 : Int32} {res : Int32} {ls : Array Slot} (hC : gC E D A p R s m args meth c cX13_has 4 RX13 "has" 2 42) (hQ : gQI E D A p l e R s m args below meth c Q cX13_has FieldType.boolean (res, σ)) (hf : X13_has E σ l0 l1 l2 = some res) (hw : gW E D A s σ H locs) (hl : lv_has ls 4 [(0, .ref l0), (1, .int l1), (2, .int l2)]) : W p l e R s m args below meth c H locs cells slots Q (F0 m 0 ls []) := by
  have hC0 := hC
  obtain ⟨hx, hb, hml, hown, hts, -⟩ := hC0
  unfold X13_has at hf
  refine lv_iload_n hx hb dX13_has_0 rfl (lv_at hl 2 rfl) ?_
  refine lv_sipush (v := 9999) hx hb dX13_has_1 (by decide) ?_
  refine lv_iadd hx hb dX13_has_4 ?_
  refine lv_istore_n (lv' := [(3, .int (l2 + (9999 : Int32))), (0, .ref l0), (1, .int l1), (2, .int l2)]) hx hb dX13_has_5 rfl hl (by decide) rfl (fun ls hl => ?_)
  refine lv_iload_n hx hb dX13_has_6 rfl (lv_at hl 3 rfl) ?_
  obtain ⟨x1, h2, hf⟩ := ob_some hf
  refine gg_cSI (As := [.int l2]) hC hw (X13_isValue_M l E D A h2) g_ml_X13_104 hd_X13_isValue.2 (Nat.le_of_ble_eq_true rfl) (Nat.le_of_ble_eq_true rfl) hl.1 rfl (Nat.le_of_ble_eq_true rfl) dX13_has_7 (fun H locs cells slots hw => ?_)
  refine lv_if_eq (tgt := 47) hx hb dX13_has_10 (by decide) (fun c8 => ?_) (fun c8 => ?_)
  · replace hf := (if_pos c8).symm.trans hf
    exact X13_has_47_W hC hQ hf hw (lv_sub hl [] rfl)
  · replace hf := (if_neg c8).symm.trans hf
    refine lv_aload_n hx hb dX13_has_13 rfl (lv_at hl 1 rfl) ?_
    obtain ⟨x3, h4, hf⟩ := ob_some hf
    refine rR_fl_X13_35 hC hw h4 dX13_has_14 ?_
    refine lv_sipush (v := 387) hx hb dX13_has_17 (by decide) ?_
    refine lv_sipush (v := 625) hx hb dX13_has_20 (by decide) ?_
    refine lv_iload_n hx hb dX13_has_23 rfl (lv_at hl 2 rfl) ?_
    refine lv_imul hx hb dX13_has_24 ?_
    refine lv_iadd hx hb dX13_has_25 ?_
    refine lv_iload_n hx hb dX13_has_26 rfl (lv_at hl 0 rfl) ?_
    refine lv_bipush (v := 32) hx hb dX13_has_27 (by decide) ?_
    refine lv_idiv hx hb dX13_has_29 (by decide) ?_
    refine lv_iadd hx hb dX13_has_30 ?_
    obtain ⟨x5, h6, hf⟩ := ob_some hf
    refine gg_aldI hC hw h6 dX13_has_31 ?_
    refine lv_iload_n hx hb dX13_has_32 rfl (lv_at hl 0 rfl) ?_
    refine lv_bipush (v := 32) hx hb dX13_has_33 (by decide) ?_
    refine lv_irem hx hb dX13_has_35 (by decide) ?_
    refine lv_iushr (v := gushr x5 ((l2 + (9999 : Int32)) - (l2 + (9999 : Int32)) / (32 : Int32) * (32 : Int32))) hx hb dX13_has_36 rfl ?_
    refine lv_iconst (v := 1) hx hb dX13_has_37 (by decide) ?_
    refine lv_iand hx hb dX13_has_38 ?_
    refine lv_iconst (v := 1) hx hb dX13_has_39 (by decide) ?_
    refine lv_icmp_ne (tgt := 47) hx hb dX13_has_40 (by decide) (fun c7 => ?_) (fun c7 => ?_)
    · replace hf := (if_neg c7).symm.trans hf
      exact X13_has_47_W hC hQ hf hw (lv_sub hl [] rfl)
    · replace hf := (if_pos c7).symm.trans hf
      refine lv_iconst (v := 1) hx hb dX13_has_43 (by decide) ?_
      refine lv_goto (tgt := 48) hx hb dX13_has_44 (by decide) ?_
      cases hf
      exact hQ _ _ _ _ _ _ dX13_has_48 gz1 hw

def X13_has_f (E : gE) (σ : gS) (l0 : Nat) (l1 : Int32) (l2 : Int32) : Option Int32 := X13_has E σ l0 l1 l2
set_option maxRecDepth 100000 in
theorem X13_has_M (l : Launch) (E : gE) (D : va_G) (A : Nat → Prop) {l0 : Nat} {l1 : Int32} {l2 : Int32} {σ : gS} {res : Int32} (hf : X13_has_f E σ l0 l1 l2 = some res) : gCI l E D A yX13_has cX13_has 4 2 42 (some FieldType.boolean) [.ref l0, .int l1, .int l2] σ (res, σ) := by
  refine gg_entI (own := RX13) (nm := "has") (ty := FieldType.boolean) (by decide +kernel) rfl rfl (Nat.le_of_ble_eq_true rfl) rfl ?_
  intro p e R s m args below meth c Q ls hC hw hQ hl
  have hl : lv_has ls 4 [(0, .ref l0), (1, .int l1), (2, .int l2)] := hl
  exact X13_has_W hC hQ hf hw hl

def X13_learn (E : gE) (l0 : Nat) (l1 : Int32) (l2 : Int32) (σ : gS) : Option gS :=
  ob (gfR σ l0 11 8) fun x1 =>
  ob (graI E 0 σ x1 (((387 : Int32) + ((625 : Int32) * l1)) + ((l2 + (9999 : Int32)) / (32 : Int32)))) fun x3 =>
  ob (gwaI E σ x1 (((387 : Int32) + ((625 : Int32) * l1)) + ((l2 + (9999 : Int32)) / (32 : Int32))) (x3 ||| ((1 : Int32) <<< (((l2 + (9999 : Int32)) - (l2 + (9999 : Int32)) / (32 : Int32) * (32 : Int32)) &&& 31)))) fun σ5 =>
  some σ5
set_option maxHeartbeats 4000000 in
set_option maxRecDepth 100000 in
theorem X13_learn_W {σ : gS} {l0 : Nat} {l1 : Int32} {l2 : Int32} {σz : gS} {ls : Array Slot} (hC : gC E D A p R s m args meth c cX13_learn 4 RX13 "learn" 0 0) (hQ : gQV E D A p l e R s m args below meth c Q cX13_learn σz) (hf : X13_learn E l0 l1 l2 σ = some σz) (hw : gW E D A s σ H locs) (hl : lv_has ls 4 [(0, .ref l0), (1, .int l1), (2, .int l2)]) : W p l e R s m args below meth c H locs cells slots Q (F0 m 0 ls []) := by
  have hC0 := hC
  obtain ⟨hx, hb, hml, hown, hts, -⟩ := hC0
  unfold X13_learn at hf
  refine lv_iload_n hx hb dX13_learn_0 rfl (lv_at hl 2 rfl) ?_
  refine lv_sipush (v := 9999) hx hb dX13_learn_1 (by decide) ?_
  refine lv_iadd hx hb dX13_learn_4 ?_
  refine lv_istore_n (lv' := [(3, .int (l2 + (9999 : Int32))), (0, .ref l0), (1, .int l1), (2, .int l2)]) hx hb dX13_learn_5 rfl hl (by decide) rfl (fun ls hl => ?_)
  refine lv_aload_n hx hb dX13_learn_6 rfl (lv_at hl 1 rfl) ?_
  obtain ⟨x1, h2, hf⟩ := ob_some hf
  refine rR_fl_X13_35 hC hw h2 dX13_learn_7 ?_
  refine lv_sipush (v := 387) hx hb dX13_learn_10 (by decide) ?_
  refine lv_sipush (v := 625) hx hb dX13_learn_13 (by decide) ?_
  refine lv_iload_n hx hb dX13_learn_16 rfl (lv_at hl 2 rfl) ?_
  refine lv_imul hx hb dX13_learn_17 ?_
  refine lv_iadd hx hb dX13_learn_18 ?_
  refine lv_iload_n hx hb dX13_learn_19 rfl (lv_at hl 0 rfl) ?_
  refine lv_bipush (v := 32) hx hb dX13_learn_20 (by decide) ?_
  refine lv_idiv hx hb dX13_learn_22 (by decide) ?_
  refine lv_iadd hx hb dX13_learn_23 ?_
  refine lv_dup2_11 hx hb dX13_learn_24 rfl rfl ?_
  obtain ⟨x3, h4, hf⟩ := ob_some hf
  refine gg_aldI hC hw h4 dX13_learn_25 ?_
  refine lv_iconst (v := 1) hx hb dX13_learn_26 (by decide) ?_
  refine lv_iload_n hx hb dX13_learn_27 rfl (lv_at hl 0 rfl) ?_
  refine lv_bipush (v := 32) hx hb dX13_learn_28 (by decide) ?_
  refine lv_irem hx hb dX13_learn_30 (by decide) ?_
  refine lv_ishl hx hb dX13_learn_31 ?_
  refine lv_ior hx hb dX13_learn_32 ?_
  obtain ⟨σ5, h6, hf⟩ := ob_some hf
  refine gg_astI hC hw h6 dX13_learn_33 (fun H locs hw => ?_)
  cases hf
  exact hQ _ _ _ _ _ _ dX13_learn_34 hw

def X13_learn_f (E : gE) (l0 : Nat) (l1 : Int32) (l2 : Int32) (σ : gS) : Option gS := X13_learn E l0 l1 l2 σ
set_option maxRecDepth 100000 in
theorem X13_learn_M (l : Launch) (E : gE) (D : va_G) (A : Nat → Prop) {l0 : Nat} {l1 : Int32} {l2 : Int32} {σ : gS} {σz : gS} (hf : X13_learn_f E l0 l1 l2 σ = some σz) : gCV l E D A yX13_learn cX13_learn 4 0 0 none [.ref l0, .int l1, .int l2] σ σz := by
  refine gg_entV (own := RX13) (nm := "learn") (by decide +kernel) rfl rfl (Nat.le_of_ble_eq_true rfl) rfl ?_
  intro p e R s m args below meth c Q ls hC hw hQ hl
  have hl : lv_has ls 4 [(0, .ref l0), (1, .int l1), (2, .int l2)] := hl
  exact X13_learn_W hC hQ hf hw hl

def X13_less_12_s (E : gE) (σ : gS) (r_12 : Nat → Int32 → Int32 → Int32 → Int32 → Option Int32) (l0 : Nat) (l1 : Int32) (l3 : Int32) (l4 : Int32) (l5 : Int32) : Option Int32 :=
  if (l3 / (32 : Int32)) ≤ l5 then
    ob (gfR σ l0 11 8) fun x1 =>
    ob (graI E 0 σ x1 (((387 : Int32) + ((625 : Int32) * l1)) + (l3 / (32 : Int32)))) fun x3 =>
    ob (X13_bits_f E σ (x3 &&& (((1 : Int32) <<< ((l3 - l3 / (32 : Int32) * (32 : Int32)) &&& 31)) - (1 : Int32)))) fun x5 =>
    some (l4 + x5)
  else
    ob (gfR σ l0 11 8) fun x7 =>
    ob (graI E 0 σ x7 (((387 : Int32) + ((625 : Int32) * l1)) + l5)) fun x9 =>
    ob (X13_bits_f E σ x9) fun x11 =>
    r_12 l0 l1 l3 (l4 + x11) (l5 + 1)
set_option maxHeartbeats 4000000 in
set_option maxRecDepth 100000 in
theorem X13_less_12_s_W {σ : gS} {l0 : Nat} {l1 : Int32} {l3 : Int32} {l4 : Int32} {l5 : Int32} {res : Int32} {ls : Array Slot} (hC : gC E D A p R s m args meth c cX13_less 6 RX13 "less" 1 21) (hQ : gQI E D A p l e R s m args below meth c Q cX13_less FieldType.int (res, σ)) {r_12 : Nat → Int32 → Int32 → Int32 → Int32 → Option Int32} (h_12 : ∀ {l0 : Nat} {l1 : Int32} {l3 : Int32} {l4 : Int32} {l5 : Int32} {H : Heap} {locs : List Loc} {cells slots : Nat} {ls : Array Slot}, r_12 l0 l1 l3 l4 l5 = some res → gW E D A s σ H locs → lv_has ls 6 [(0, .ref l0), (1, .int l1), (3, .int l3), (4, .int l4), (5, .int l5)] → W p l e R s m args below meth c H locs cells slots Q (F0 m 12 ls [])) (hf : X13_less_12_s E σ r_12 l0 l1 l3 l4 l5 = some res) (hw : gW E D A s σ H locs) (hl : lv_has ls 6 [(0, .ref l0), (1, .int l1), (3, .int l3), (4, .int l4), (5, .int l5)]) : W p l e R s m args below meth c H locs cells slots Q (F0 m 12 ls []) := by
  have hC0 := hC
  obtain ⟨hx, hb, hml, hown, hts, -⟩ := hC0
  unfold X13_less_12_s at hf
  refine lv_iload hx hb dX13_less_12 (lv_at hl 4 rfl) ?_
  refine lv_iload_n hx hb dX13_less_14 rfl (lv_at hl 2 rfl) ?_
  refine lv_bipush (v := 32) hx hb dX13_less_15 (by decide) ?_
  refine lv_idiv hx hb dX13_less_17 (by decide) ?_
  refine lv_icmp_ge (tgt := 52) hx hb dX13_less_18 (by decide) (fun c13 => ?_) (fun c13 => ?_)
  · replace hf := (if_pos c13).symm.trans hf
    refine lv_iconst (v := 1) hx hb dX13_less_52 (by decide) ?_
    refine lv_iload_n hx hb dX13_less_53 rfl (lv_at hl 2 rfl) ?_
    refine lv_bipush (v := 32) hx hb dX13_less_54 (by decide) ?_
    refine lv_irem hx hb dX13_less_56 (by decide) ?_
    refine lv_ishl hx hb dX13_less_57 ?_
    refine lv_iconst (v := 1) hx hb dX13_less_58 (by decide) ?_
    refine lv_isub hx hb dX13_less_59 ?_
    refine lv_istore (lv' := [(5, .int (((1 : Int32) <<< ((l3 - l3 / (32 : Int32) * (32 : Int32)) &&& 31)) - (1 : Int32))), (0, .ref l0), (1, .int l1), (3, .int l3), (4, .int l4)]) hx hb dX13_less_60 hl (by decide) rfl (fun ls hl => ?_)
    refine lv_iload hx hb dX13_less_62 (lv_at hl 4 rfl) ?_
    refine lv_aload_n hx hb dX13_less_64 rfl (lv_at hl 1 rfl) ?_
    obtain ⟨x1, h2, hf⟩ := ob_some hf
    refine rR_fl_X13_35 hC hw h2 dX13_less_65 ?_
    refine lv_sipush (v := 387) hx hb dX13_less_68 (by decide) ?_
    refine lv_sipush (v := 625) hx hb dX13_less_71 (by decide) ?_
    refine lv_iload_n hx hb dX13_less_74 rfl (lv_at hl 2 rfl) ?_
    refine lv_imul hx hb dX13_less_75 ?_
    refine lv_iadd hx hb dX13_less_76 ?_
    refine lv_iload_n hx hb dX13_less_77 rfl (lv_at hl 3 rfl) ?_
    refine lv_bipush (v := 32) hx hb dX13_less_78 (by decide) ?_
    refine lv_idiv hx hb dX13_less_80 (by decide) ?_
    refine lv_iadd hx hb dX13_less_81 ?_
    obtain ⟨x3, h4, hf⟩ := ob_some hf
    refine gg_aldI hC hw h4 dX13_less_82 ?_
    refine lv_iload hx hb dX13_less_83 (lv_at hl 0 rfl) ?_
    refine lv_iand hx hb dX13_less_85 ?_
    obtain ⟨x5, h6, hf⟩ := ob_some hf
    refine gg_cSI (As := [.int (x3 &&& (((1 : Int32) <<< ((l3 - l3 / (32 : Int32) * (32 : Int32)) &&& 31)) - (1 : Int32)))]) hC hw (X13_bits_M l E D A h6) g_ml_X13_108 hd_X13_bits.2 (Nat.le_of_ble_eq_true rfl) (Nat.le_of_ble_eq_true rfl) hl.1 rfl (Nat.le_of_ble_eq_true rfl) dX13_less_86 (fun H locs cells slots hw => ?_)
    refine lv_iadd hx hb dX13_less_89 ?_
    cases hf
    exact hQ _ _ _ _ _ _ dX13_less_90 rfl hw
  · replace hf := (if_neg c13).symm.trans hf
    refine lv_iload hx hb dX13_less_21 (lv_at hl 3 rfl) ?_
    refine lv_aload_n hx hb dX13_less_23 rfl (lv_at hl 0 rfl) ?_
    obtain ⟨x7, h8, hf⟩ := ob_some hf
    refine rR_fl_X13_35 hC hw h8 dX13_less_24 ?_
    refine lv_sipush (v := 387) hx hb dX13_less_27 (by decide) ?_
    refine lv_sipush (v := 625) hx hb dX13_less_30 (by decide) ?_
    refine lv_iload_n hx hb dX13_less_33 rfl (lv_at hl 1 rfl) ?_
    refine lv_imul hx hb dX13_less_34 ?_
    refine lv_iadd hx hb dX13_less_35 ?_
    refine lv_iload hx hb dX13_less_36 (lv_at hl 4 rfl) ?_
    refine lv_iadd hx hb dX13_less_38 ?_
    obtain ⟨x9, h10, hf⟩ := ob_some hf
    refine gg_aldI hC hw h10 dX13_less_39 ?_
    obtain ⟨x11, h12, hf⟩ := ob_some hf
    refine gg_cSI (As := [.int x9]) hC hw (X13_bits_M l E D A h12) g_ml_X13_108 hd_X13_bits.2 (Nat.le_of_ble_eq_true rfl) (Nat.le_of_ble_eq_true rfl) hl.1 rfl (Nat.le_of_ble_eq_true rfl) dX13_less_40 (fun H locs cells slots hw => ?_)
    refine lv_iadd hx hb dX13_less_43 ?_
    refine lv_istore (lv' := [(4, .int (l4 + x11)), (0, .ref l0), (1, .int l1), (3, .int l3), (5, .int l5)]) hx hb dX13_less_44 hl (by decide) rfl (fun ls hl => ?_)
    refine lv_iinc (v := (l5 + 1)) (lv' := [(5, .int (l5 + 1)), (4, .int (l4 + x11)), (0, .ref l0), (1, .int l1), (3, .int l3)]) hx hb dX13_less_46 hl (k := 4) rfl rfl (by decide) rfl (fun ls hl => ?_)
    refine lv_goto (tgt := 12) hx hb dX13_less_49 (by decide) ?_
    exact h_12 hf hw (lv_sub hl [2, 3, 4, 1, 0] rfl)
def X13_less_12 (E : gE) (σ : gS) : Nat → Nat → Int32 → Int32 → Int32 → Int32 → Option Int32
  | 0 => fun _ _ _ _ _ => none
  | n + 1 => X13_less_12_s E σ (X13_less_12 E σ n)
theorem X13_less_12_W {σ : gS} {res : Int32} (hC : gC E D A p R s m args meth c cX13_less 6 RX13 "less" 1 21) (hQ : gQI E D A p l e R s m args below meth c Q cX13_less FieldType.int (res, σ)) : ∀ (n : Nat), ∀ {l0 : Nat} {l1 : Int32} {l3 : Int32} {l4 : Int32} {l5 : Int32} {H : Heap} {locs : List Loc} {cells slots : Nat} {ls : Array Slot}, X13_less_12 E σ n l0 l1 l3 l4 l5 = some res → gW E D A s σ H locs → lv_has ls 6 [(0, .ref l0), (1, .int l1), (3, .int l3), (4, .int l4), (5, .int l5)] → W p l e R s m args below meth c H locs cells slots Q (F0 m 12 ls []) := by
  intro n
  induction n with
  | zero =>
    intros
    rename_i hf _ _
    exact absurd hf (fun h => by cases (show (none : Option Int32) = some res from h))
  | succ n ih =>
    intros
    rename_i hf hw hl
    exact X13_less_12_s_W hC hQ ih hf hw hl

def X13_less (E : gE) (σ : gS) (l0 : Nat) (l1 : Int32) (l2 : Int32) : Option Int32 :=
  X13_less_12 E σ (gN E) l0 l1 (l2 + (9999 : Int32)) (0 : Int32) (0 : Int32)
set_option maxHeartbeats 4000000 in
set_option maxRecDepth 100000 in
theorem X13_less_W {σ : gS} {l0 : Nat} {l1 : Int32} {l2 : Int32} {res : Int32} {ls : Array Slot} (hC : gC E D A p R s m args meth c cX13_less 6 RX13 "less" 1 21) (hQ : gQI E D A p l e R s m args below meth c Q cX13_less FieldType.int (res, σ)) (hf : X13_less E σ l0 l1 l2 = some res) (hw : gW E D A s σ H locs) (hl : lv_has ls 6 [(0, .ref l0), (1, .int l1), (2, .int l2)]) : W p l e R s m args below meth c H locs cells slots Q (F0 m 0 ls []) := by
  have hC0 := hC
  obtain ⟨hx, hb, hml, hown, hts, -⟩ := hC0
  unfold X13_less at hf
  refine lv_iload_n hx hb dX13_less_0 rfl (lv_at hl 2 rfl) ?_
  refine lv_sipush (v := 9999) hx hb dX13_less_1 (by decide) ?_
  refine lv_iadd hx hb dX13_less_4 ?_
  refine lv_istore_n (lv' := [(3, .int (l2 + (9999 : Int32))), (0, .ref l0), (1, .int l1), (2, .int l2)]) hx hb dX13_less_5 rfl hl (by decide) rfl (fun ls hl => ?_)
  refine lv_iconst (v := 0) hx hb dX13_less_6 (by decide) ?_
  refine lv_istore (lv' := [(4, .int (0 : Int32)), (3, .int (l2 + (9999 : Int32))), (0, .ref l0), (1, .int l1), (2, .int l2)]) hx hb dX13_less_7 hl (by decide) rfl (fun ls hl => ?_)
  refine lv_iconst (v := 0) hx hb dX13_less_9 (by decide) ?_
  refine lv_istore (lv' := [(5, .int (0 : Int32)), (4, .int (0 : Int32)), (3, .int (l2 + (9999 : Int32))), (0, .ref l0), (1, .int l1), (2, .int l2)]) hx hb dX13_less_10 hl (by decide) rfl (fun ls hl => ?_)
  exact X13_less_12_W hC hQ (gN E) hf hw (lv_sub hl [3, 4, 2, 1, 0] rfl)

def X13_less_f (E : gE) (σ : gS) (l0 : Nat) (l1 : Int32) (l2 : Int32) : Option Int32 := X13_less E σ l0 l1 l2
set_option maxRecDepth 100000 in
theorem X13_less_M (l : Launch) (E : gE) (D : va_G) (A : Nat → Prop) {l0 : Nat} {l1 : Int32} {l2 : Int32} {σ : gS} {res : Int32} (hf : X13_less_f E σ l0 l1 l2 = some res) : gCI l E D A yX13_less cX13_less 6 1 21 (some FieldType.int) [.ref l0, .int l1, .int l2] σ (res, σ) := by
  refine gg_entI (own := RX13) (nm := "less") (ty := FieldType.int) (by decide +kernel) rfl rfl (Nat.le_of_ble_eq_true rfl) rfl ?_
  intro p e R s m args below meth c Q ls hC hw hQ hl
  have hl : lv_has ls 6 [(0, .ref l0), (1, .int l1), (2, .int l2)] := hl
  exact X13_less_W hC hQ hf hw hl

def X13_sizeIn_4_s (E : gE) (σ : gS) (r_4 : Nat → Int32 → Int32 → Int32 → Option Int32) (l0 : Nat) (l1 : Int32) (l2 : Int32) (l3 : Int32) : Option Int32 :=
  if (625 : Int32) ≤ l3 then
    some l2
  else
    ob (gfR σ l0 11 8) fun x1 =>
    ob (graI E 0 σ x1 (((387 : Int32) + ((625 : Int32) * l1)) + l3)) fun x3 =>
    ob (X13_bits_f E σ x3) fun x5 =>
    r_4 l0 l1 (l2 + x5) (l3 + 1)
set_option maxHeartbeats 4000000 in
set_option maxRecDepth 100000 in
theorem X13_sizeIn_4_s_W {σ : gS} {l0 : Nat} {l1 : Int32} {l2 : Int32} {l3 : Int32} {res : Int32} {ls : Array Slot} (hC : gC E D A p R s m args meth c cX13_sizeIn 4 RX13 "sizeIn" 1 21) (hQ : gQI E D A p l e R s m args below meth c Q cX13_sizeIn FieldType.int (res, σ)) {r_4 : Nat → Int32 → Int32 → Int32 → Option Int32} (h_4 : ∀ {l0 : Nat} {l1 : Int32} {l2 : Int32} {l3 : Int32} {H : Heap} {locs : List Loc} {cells slots : Nat} {ls : Array Slot}, r_4 l0 l1 l2 l3 = some res → gW E D A s σ H locs → lv_has ls 4 [(0, .ref l0), (1, .int l1), (2, .int l2), (3, .int l3)] → W p l e R s m args below meth c H locs cells slots Q (F0 m 4 ls [])) (hf : X13_sizeIn_4_s E σ r_4 l0 l1 l2 l3 = some res) (hw : gW E D A s σ H locs) (hl : lv_has ls 4 [(0, .ref l0), (1, .int l1), (2, .int l2), (3, .int l3)]) : W p l e R s m args below meth c H locs cells slots Q (F0 m 4 ls []) := by
  have hC0 := hC
  obtain ⟨hx, hb, hml, hown, hts, -⟩ := hC0
  unfold X13_sizeIn_4_s at hf
  refine lv_iload_n hx hb dX13_sizeIn_4 rfl (lv_at hl 3 rfl) ?_
  refine lv_sipush (v := 625) hx hb dX13_sizeIn_5 (by decide) ?_
  refine lv_icmp_ge (tgt := 39) hx hb dX13_sizeIn_8 (by decide) (fun c7 => ?_) (fun c7 => ?_)
  · replace hf := (if_pos c7).symm.trans hf
    refine lv_iload_n hx hb dX13_sizeIn_39 rfl (lv_at hl 2 rfl) ?_
    cases hf
    exact hQ _ _ _ _ _ _ dX13_sizeIn_40 rfl hw
  · replace hf := (if_neg c7).symm.trans hf
    refine lv_iload_n hx hb dX13_sizeIn_11 rfl (lv_at hl 2 rfl) ?_
    refine lv_aload_n hx hb dX13_sizeIn_12 rfl (lv_at hl 0 rfl) ?_
    obtain ⟨x1, h2, hf⟩ := ob_some hf
    refine rR_fl_X13_35 hC hw h2 dX13_sizeIn_13 ?_
    refine lv_sipush (v := 387) hx hb dX13_sizeIn_16 (by decide) ?_
    refine lv_sipush (v := 625) hx hb dX13_sizeIn_19 (by decide) ?_
    refine lv_iload_n hx hb dX13_sizeIn_22 rfl (lv_at hl 1 rfl) ?_
    refine lv_imul hx hb dX13_sizeIn_23 ?_
    refine lv_iadd hx hb dX13_sizeIn_24 ?_
    refine lv_iload_n hx hb dX13_sizeIn_25 rfl (lv_at hl 3 rfl) ?_
    refine lv_iadd hx hb dX13_sizeIn_26 ?_
    obtain ⟨x3, h4, hf⟩ := ob_some hf
    refine gg_aldI hC hw h4 dX13_sizeIn_27 ?_
    obtain ⟨x5, h6, hf⟩ := ob_some hf
    refine gg_cSI (As := [.int x3]) hC hw (X13_bits_M l E D A h6) g_ml_X13_108 hd_X13_bits.2 (Nat.le_of_ble_eq_true rfl) (Nat.le_of_ble_eq_true rfl) hl.1 rfl (Nat.le_of_ble_eq_true rfl) dX13_sizeIn_28 (fun H locs cells slots hw => ?_)
    refine lv_iadd hx hb dX13_sizeIn_31 ?_
    refine lv_istore_n (lv' := [(2, .int (l2 + x5)), (0, .ref l0), (1, .int l1), (3, .int l3)]) hx hb dX13_sizeIn_32 rfl hl (by decide) rfl (fun ls hl => ?_)
    refine lv_iinc (v := (l3 + 1)) (lv' := [(3, .int (l3 + 1)), (2, .int (l2 + x5)), (0, .ref l0), (1, .int l1)]) hx hb dX13_sizeIn_33 hl (k := 3) rfl rfl (by decide) rfl (fun ls hl => ?_)
    refine lv_goto (tgt := 4) hx hb dX13_sizeIn_36 (by decide) ?_
    exact h_4 hf hw (lv_sub hl [2, 3, 1, 0] rfl)
def X13_sizeIn_4 (E : gE) (σ : gS) : Nat → Nat → Int32 → Int32 → Int32 → Option Int32
  | 0 => fun _ _ _ _ => none
  | n + 1 => X13_sizeIn_4_s E σ (X13_sizeIn_4 E σ n)
theorem X13_sizeIn_4_W {σ : gS} {res : Int32} (hC : gC E D A p R s m args meth c cX13_sizeIn 4 RX13 "sizeIn" 1 21) (hQ : gQI E D A p l e R s m args below meth c Q cX13_sizeIn FieldType.int (res, σ)) : ∀ (n : Nat), ∀ {l0 : Nat} {l1 : Int32} {l2 : Int32} {l3 : Int32} {H : Heap} {locs : List Loc} {cells slots : Nat} {ls : Array Slot}, X13_sizeIn_4 E σ n l0 l1 l2 l3 = some res → gW E D A s σ H locs → lv_has ls 4 [(0, .ref l0), (1, .int l1), (2, .int l2), (3, .int l3)] → W p l e R s m args below meth c H locs cells slots Q (F0 m 4 ls []) := by
  intro n
  induction n with
  | zero =>
    intros
    rename_i hf _ _
    exact absurd hf (fun h => by cases (show (none : Option Int32) = some res from h))
  | succ n ih =>
    intros
    rename_i hf hw hl
    exact X13_sizeIn_4_s_W hC hQ ih hf hw hl

def X13_sizeIn (E : gE) (σ : gS) (l0 : Nat) (l1 : Int32) : Option Int32 :=
  X13_sizeIn_4 E σ (gN E) l0 l1 (0 : Int32) (0 : Int32)
set_option maxHeartbeats 4000000 in
set_option maxRecDepth 100000 in
theorem X13_sizeIn_W {σ : gS} {l0 : Nat} {l1 : Int32} {res : Int32} {ls : Array Slot} (hC : gC E D A p R s m args meth c cX13_sizeIn 4 RX13 "sizeIn" 1 21) (hQ : gQI E D A p l e R s m args below meth c Q cX13_sizeIn FieldType.int (res, σ)) (hf : X13_sizeIn E σ l0 l1 = some res) (hw : gW E D A s σ H locs) (hl : lv_has ls 4 [(0, .ref l0), (1, .int l1)]) : W p l e R s m args below meth c H locs cells slots Q (F0 m 0 ls []) := by
  have hC0 := hC
  obtain ⟨hx, hb, hml, hown, hts, -⟩ := hC0
  unfold X13_sizeIn at hf
  refine lv_iconst (v := 0) hx hb dX13_sizeIn_0 (by decide) ?_
  refine lv_istore_n (lv' := [(2, .int (0 : Int32)), (0, .ref l0), (1, .int l1)]) hx hb dX13_sizeIn_1 rfl hl (by decide) rfl (fun ls hl => ?_)
  refine lv_iconst (v := 0) hx hb dX13_sizeIn_2 (by decide) ?_
  refine lv_istore_n (lv' := [(3, .int (0 : Int32)), (2, .int (0 : Int32)), (0, .ref l0), (1, .int l1)]) hx hb dX13_sizeIn_3 rfl hl (by decide) rfl (fun ls hl => ?_)
  exact X13_sizeIn_4_W hC hQ (gN E) hf hw (lv_sub hl [2, 3, 1, 0] rfl)

def X13_sizeIn_f (E : gE) (σ : gS) (l0 : Nat) (l1 : Int32) : Option Int32 := X13_sizeIn E σ l0 l1
set_option maxRecDepth 100000 in
theorem X13_sizeIn_M (l : Launch) (E : gE) (D : va_G) (A : Nat → Prop) {l0 : Nat} {l1 : Int32} {σ : gS} {res : Int32} (hf : X13_sizeIn_f E σ l0 l1 = some res) : gCI l E D A yX13_sizeIn cX13_sizeIn 4 1 21 (some FieldType.int) [.ref l0, .int l1] σ (res, σ) := by
  refine gg_entI (own := RX13) (nm := "sizeIn") (ty := FieldType.int) (by decide +kernel) rfl rfl (Nat.le_of_ble_eq_true rfl) rfl ?_
  intro p e R s m args below meth c Q ls hC hw hQ hl
  have hl : lv_has ls 4 [(0, .ref l0), (1, .int l1)] := hl
  exact X13_sizeIn_W hC hQ hf hw hl

def X13_isCode_27 (E : gE) (σ : gS) : Option Int32 :=
  some (0 : Int32)
set_option maxHeartbeats 4000000 in
set_option maxRecDepth 100000 in
theorem X13_isCode_27_W {σ : gS} {res : Int32} {ls : Array Slot} (hC : gC E D A p R s m args meth c cX13_isCode 3 RX13 "isCode" 2 44) (hQ : gQI E D A p l e R s m args below meth c Q cX13_isCode FieldType.boolean (res, σ)) (hf : X13_isCode_27 E σ = some res) (hw : gW E D A s σ H locs) (hl : lv_has ls 3 []) : W p l e R s m args below meth c H locs cells slots Q (F0 m 27 ls []) := by
  have hC0 := hC
  obtain ⟨hx, hb, hml, hown, hts, -⟩ := hC0
  unfold X13_isCode_27 at hf
  refine lv_iconst (v := 0) hx hb dX13_isCode_27 (by decide) ?_
  cases hf
  exact hQ _ _ _ _ _ _ dX13_isCode_28 gz0 hw

def X13_isCode (E : gE) (σ : gS) (l0 : Nat) (l1 : Int32) (l2 : Int32) : Option Int32 :=
  ob (gcl σ l0 11) fun _ =>
  ob (X13_isColumn_f E σ l0 l1) fun x1 =>
  if x1 = 0 then
    X13_isCode_27 E σ
  else
    ob (gcl σ l0 11) fun _ =>
    ob (X13_sizeIn_f E σ l0 l1) fun x4 =>
    ob (X13_inRange_f E σ l2 (0 : Int32) (x4 - (1 : Int32))) fun x7 =>
    if x7 = 0 then
      X13_isCode_27 E σ
    else
      some (1 : Int32)
set_option maxHeartbeats 4000000 in
set_option maxRecDepth 100000 in
theorem X13_isCode_W {σ : gS} {l0 : Nat} {l1 : Int32} {l2 : Int32} {res : Int32} {ls : Array Slot} (hC : gC E D A p R s m args meth c cX13_isCode 3 RX13 "isCode" 2 44) (hQ : gQI E D A p l e R s m args below meth c Q cX13_isCode FieldType.boolean (res, σ)) (hf : X13_isCode E σ l0 l1 l2 = some res) (hw : gW E D A s σ H locs) (hl : lv_has ls 3 [(0, .ref l0), (1, .int l1), (2, .int l2)]) : W p l e R s m args below meth c H locs cells slots Q (F0 m 0 ls []) := by
  have hC0 := hC
  obtain ⟨hx, hb, hml, hown, hts, -⟩ := hC0
  unfold X13_isCode at hf
  refine lv_aload_n hx hb dX13_isCode_0 rfl (lv_at hl 0 rfl) ?_
  refine lv_iload_n hx hb dX13_isCode_1 rfl (lv_at hl 1 rfl) ?_
  obtain ⟨_, h3, hf⟩ := ob_some hf
  obtain ⟨x1, h2, hf⟩ := ob_some hf
  refine gg_cVI (As := [.int l1]) hC hw (X13_isColumn_M l E D A h2) h3 rfl g_ml_X13_112 hd_X13_isColumn (Nat.le_of_ble_eq_true rfl) (Nat.le_of_ble_eq_true rfl) hl.1 rfl (Nat.le_of_ble_eq_true rfl) dX13_isCode_2 (fun H locs cells slots hw => ?_)
  refine lv_if_eq (tgt := 27) hx hb dX13_isCode_5 (by decide) (fun c10 => ?_) (fun c10 => ?_)
  · replace hf := (if_pos c10).symm.trans hf
    exact X13_isCode_27_W hC hQ hf hw (lv_sub hl [] rfl)
  · replace hf := (if_neg c10).symm.trans hf
    refine lv_iload_n hx hb dX13_isCode_8 rfl (lv_at hl 2 rfl) ?_
    refine lv_iconst (v := 0) hx hb dX13_isCode_9 (by decide) ?_
    refine lv_aload_n hx hb dX13_isCode_10 rfl (lv_at hl 0 rfl) ?_
    refine lv_iload_n hx hb dX13_isCode_11 rfl (lv_at hl 1 rfl) ?_
    obtain ⟨_, h6, hf⟩ := ob_some hf
    obtain ⟨x4, h5, hf⟩ := ob_some hf
    refine gg_cVI (As := [.int l1]) hC hw (X13_sizeIn_M l E D A h5) h6 rfl g_ml_X13_115 hd_X13_sizeIn (Nat.le_of_ble_eq_true rfl) (Nat.le_of_ble_eq_true rfl) hl.1 rfl (Nat.le_of_ble_eq_true rfl) dX13_isCode_12 (fun H locs cells slots hw => ?_)
    refine lv_iconst (v := 1) hx hb dX13_isCode_15 (by decide) ?_
    refine lv_isub hx hb dX13_isCode_16 ?_
    obtain ⟨x7, h8, hf⟩ := ob_some hf
    refine gg_cSI (As := [.int l2, .int (0 : Int32), .int (x4 - (1 : Int32))]) hC hw (X13_inRange_M l E D A h8) g_ml_X13_92 hd_X13_inRange.2 (Nat.le_of_ble_eq_true rfl) (Nat.le_of_ble_eq_true rfl) hl.1 rfl (Nat.le_of_ble_eq_true rfl) dX13_isCode_17 (fun H locs cells slots hw => ?_)
    refine lv_if_eq (tgt := 27) hx hb dX13_isCode_20 (by decide) (fun c9 => ?_) (fun c9 => ?_)
    · replace hf := (if_pos c9).symm.trans hf
      exact X13_isCode_27_W hC hQ hf hw (lv_sub hl [] rfl)
    · replace hf := (if_neg c9).symm.trans hf
      refine lv_iconst (v := 1) hx hb dX13_isCode_23 (by decide) ?_
      refine lv_goto (tgt := 28) hx hb dX13_isCode_24 (by decide) ?_
      cases hf
      exact hQ _ _ _ _ _ _ dX13_isCode_28 gz1 hw

def X13_isCode_f (E : gE) (σ : gS) (l0 : Nat) (l1 : Int32) (l2 : Int32) : Option Int32 := X13_isCode E σ l0 l1 l2
set_option maxRecDepth 100000 in
theorem X13_isCode_M (l : Launch) (E : gE) (D : va_G) (A : Nat → Prop) {l0 : Nat} {l1 : Int32} {l2 : Int32} {σ : gS} {res : Int32} (hf : X13_isCode_f E σ l0 l1 l2 = some res) : gCI l E D A yX13_isCode cX13_isCode 3 2 44 (some FieldType.boolean) [.ref l0, .int l1, .int l2] σ (res, σ) := by
  refine gg_entI (own := RX13) (nm := "isCode") (ty := FieldType.boolean) (by decide +kernel) rfl rfl (Nat.le_of_ble_eq_true rfl) rfl ?_
  intro p e R s m args below meth c Q ls hC hw hQ hl
  have hl : lv_has ls 3 [(0, .ref l0), (1, .int l1), (2, .int l2)] := hl
  exact X13_isCode_W hC hQ hf hw hl

def X13_valueOf_95 (E : gE) (σ : gS) (r_80 : Int32 → Int32 → Int32 → Int32 → Option Int32) (l3 : Int32) (l4 : Int32) (l5 : Int32) (l6 : Int32) : Option Int32 :=
  r_80 l3 (l4 - ((gushr l6 l5) &&& (1 : Int32))) (l5 + 1) l6
set_option maxHeartbeats 4000000 in
set_option maxRecDepth 100000 in
theorem X13_valueOf_95_W {σ : gS} {l3 : Int32} {l4 : Int32} {l5 : Int32} {l6 : Int32} {res : Int32} {ls : Array Slot} (hC : gC E D A p R s m args meth c cX13_valueOf 7 RX13 "valueOf" 1 21) (hQ : gQI E D A p l e R s m args below meth c Q cX13_valueOf FieldType.int (res, σ)) {r_80 : Int32 → Int32 → Int32 → Int32 → Option Int32} (h_80 : ∀ {l3 : Int32} {l4 : Int32} {l5 : Int32} {l6 : Int32} {H : Heap} {locs : List Loc} {cells slots : Nat} {ls : Array Slot}, r_80 l3 l4 l5 l6 = some res → gW E D A s σ H locs → lv_has ls 7 [(3, .int l3), (4, .int l4), (5, .int l5), (6, .int l6)] → W p l e R s m args below meth c H locs cells slots Q (F0 m 80 ls [])) (hf : X13_valueOf_95 E σ r_80 l3 l4 l5 l6 = some res) (hw : gW E D A s σ H locs) (hl : lv_has ls 7 [(3, .int l3), (4, .int l4), (5, .int l5), (6, .int l6)]) : W p l e R s m args below meth c H locs cells slots Q (F0 m 95 ls []) := by
  have hC0 := hC
  obtain ⟨hx, hb, hml, hown, hts, -⟩ := hC0
  unfold X13_valueOf_95 at hf
  refine lv_iload hx hb dX13_valueOf_95 (lv_at hl 1 rfl) ?_
  refine lv_iload hx hb dX13_valueOf_97 (lv_at hl 3 rfl) ?_
  refine lv_iload hx hb dX13_valueOf_99 (lv_at hl 2 rfl) ?_
  refine lv_iushr (v := gushr l6 l5) hx hb dX13_valueOf_101 rfl ?_
  refine lv_iconst (v := 1) hx hb dX13_valueOf_102 (by decide) ?_
  refine lv_iand hx hb dX13_valueOf_103 ?_
  refine lv_isub hx hb dX13_valueOf_104 ?_
  refine lv_istore (lv' := [(4, .int (l4 - ((gushr l6 l5) &&& (1 : Int32)))), (3, .int l3), (5, .int l5), (6, .int l6)]) hx hb dX13_valueOf_105 hl (by decide) rfl (fun ls hl => ?_)
  refine lv_iinc (v := (l5 + 1)) (lv' := [(5, .int (l5 + 1)), (4, .int (l4 - ((gushr l6 l5) &&& (1 : Int32)))), (3, .int l3), (6, .int l6)]) hx hb dX13_valueOf_107 hl (k := 2) rfl rfl (by decide) rfl (fun ls hl => ?_)
  refine lv_goto (tgt := 80) hx hb dX13_valueOf_110 (by decide) ?_
  exact h_80 hf hw (lv_sub hl [2, 1, 0, 3] rfl)

def X13_valueOf_80_s (E : gE) (σ : gS) (r_80 : Int32 → Int32 → Int32 → Int32 → Option Int32) (l3 : Int32) (l4 : Int32) (l5 : Int32) (l6 : Int32) : Option Int32 :=
  if 0 < l4 then
    X13_valueOf_95 E σ r_80 l3 l4 l5 l6
  else
    if ((gushr l6 l5) &&& (1 : Int32)) = 0 then
      X13_valueOf_95 E σ r_80 l3 l4 l5 l6
    else
      some ((((32 : Int32) * l3) + l5) - (9999 : Int32))
set_option maxHeartbeats 4000000 in
set_option maxRecDepth 100000 in
theorem X13_valueOf_80_s_W {σ : gS} {l3 : Int32} {l4 : Int32} {l5 : Int32} {l6 : Int32} {res : Int32} {ls : Array Slot} (hC : gC E D A p R s m args meth c cX13_valueOf 7 RX13 "valueOf" 1 21) (hQ : gQI E D A p l e R s m args below meth c Q cX13_valueOf FieldType.int (res, σ)) {r_80 : Int32 → Int32 → Int32 → Int32 → Option Int32} (h_80 : ∀ {l3 : Int32} {l4 : Int32} {l5 : Int32} {l6 : Int32} {H : Heap} {locs : List Loc} {cells slots : Nat} {ls : Array Slot}, r_80 l3 l4 l5 l6 = some res → gW E D A s σ H locs → lv_has ls 7 [(3, .int l3), (4, .int l4), (5, .int l5), (6, .int l6)] → W p l e R s m args below meth c H locs cells slots Q (F0 m 80 ls [])) (hf : X13_valueOf_80_s E σ r_80 l3 l4 l5 l6 = some res) (hw : gW E D A s σ H locs) (hl : lv_has ls 7 [(3, .int l3), (4, .int l4), (5, .int l5), (6, .int l6)]) : W p l e R s m args below meth c H locs cells slots Q (F0 m 80 ls []) := by
  have hC0 := hC
  obtain ⟨hx, hb, hml, hown, hts, -⟩ := hC0
  unfold X13_valueOf_80_s at hf
  refine lv_iload hx hb dX13_valueOf_80 (lv_at hl 1 rfl) ?_
  refine lv_if_gt (tgt := 95) hx hb dX13_valueOf_82 (by decide) (fun c2 => ?_) (fun c2 => ?_)
  · replace hf := (if_pos c2).symm.trans hf
    exact X13_valueOf_95_W hC hQ h_80 hf hw (lv_sub hl [0, 1, 2, 3] rfl)
  · replace hf := (if_neg c2).symm.trans hf
    refine lv_iload hx hb dX13_valueOf_85 (lv_at hl 3 rfl) ?_
    refine lv_iload hx hb dX13_valueOf_87 (lv_at hl 2 rfl) ?_
    refine lv_iushr (v := gushr l6 l5) hx hb dX13_valueOf_89 rfl ?_
    refine lv_iconst (v := 1) hx hb dX13_valueOf_90 (by decide) ?_
    refine lv_iand hx hb dX13_valueOf_91 ?_
    refine lv_if_ne (tgt := 113) hx hb dX13_valueOf_92 (by decide) (fun c1 => ?_) (fun c1 => ?_)
    · replace hf := (if_neg c1).symm.trans hf
      refine lv_bipush (v := 32) hx hb dX13_valueOf_113 (by decide) ?_
      refine lv_iload_n hx hb dX13_valueOf_115 rfl (lv_at hl 0 rfl) ?_
      refine lv_imul hx hb dX13_valueOf_116 ?_
      refine lv_iload hx hb dX13_valueOf_117 (lv_at hl 2 rfl) ?_
      refine lv_iadd hx hb dX13_valueOf_119 ?_
      refine lv_sipush (v := 9999) hx hb dX13_valueOf_120 (by decide) ?_
      refine lv_isub hx hb dX13_valueOf_123 ?_
      cases hf
      exact hQ _ _ _ _ _ _ dX13_valueOf_124 rfl hw
    · replace hf := (if_pos c1).symm.trans hf
      exact X13_valueOf_95_W hC hQ h_80 hf hw (lv_sub hl [0, 1, 2, 3] rfl)
def X13_valueOf_80 (E : gE) (σ : gS) : Nat → Int32 → Int32 → Int32 → Int32 → Option Int32
  | 0 => fun _ _ _ _ => none
  | n + 1 => X13_valueOf_80_s E σ (X13_valueOf_80 E σ n)
theorem X13_valueOf_80_W {σ : gS} {res : Int32} (hC : gC E D A p R s m args meth c cX13_valueOf 7 RX13 "valueOf" 1 21) (hQ : gQI E D A p l e R s m args below meth c Q cX13_valueOf FieldType.int (res, σ)) : ∀ (n : Nat), ∀ {l3 : Int32} {l4 : Int32} {l5 : Int32} {l6 : Int32} {H : Heap} {locs : List Loc} {cells slots : Nat} {ls : Array Slot}, X13_valueOf_80 E σ n l3 l4 l5 l6 = some res → gW E D A s σ H locs → lv_has ls 7 [(3, .int l3), (4, .int l4), (5, .int l5), (6, .int l6)] → W p l e R s m args below meth c H locs cells slots Q (F0 m 80 ls []) := by
  intro n
  induction n with
  | zero =>
    intros
    rename_i hf _ _
    exact absurd hf (fun h => by cases (show (none : Option Int32) = some res from h))
  | succ n ih =>
    intros
    rename_i hf hw hl
    exact X13_valueOf_80_s_W hC hQ ih hf hw hl

def X13_valueOf_5_s (E : gE) (σ : gS) (r_5 : Nat → Int32 → Int32 → Int32 → Option Int32) (l0 : Nat) (l1 : Int32) (l3 : Int32) (l4 : Int32) : Option Int32 :=
  ob (gfR σ l0 11 8) fun x3 =>
  ob (graI E 0 σ x3 (((387 : Int32) + ((625 : Int32) * l1)) + l3)) fun x5 =>
  ob (X13_bits_f E σ x5) fun x7 =>
  if l4 < x7 then
    ob (gfR σ l0 11 8) fun x9 =>
    ob (graI E 0 σ x9 (((387 : Int32) + ((625 : Int32) * l1)) + l3)) fun x11 =>
    X13_valueOf_80 E σ (gN E) l3 l4 (0 : Int32) x11
  else
    ob (gfR σ l0 11 8) fun x13 =>
    ob (graI E 0 σ x13 (((387 : Int32) + ((625 : Int32) * l1)) + l3)) fun x15 =>
    ob (X13_bits_f E σ x15) fun x17 =>
    r_5 l0 l1 (l3 + 1) (l4 - x17)
set_option maxHeartbeats 4000000 in
set_option maxRecDepth 100000 in
theorem X13_valueOf_5_s_W {σ : gS} {l0 : Nat} {l1 : Int32} {l3 : Int32} {l4 : Int32} {res : Int32} {ls : Array Slot} (hC : gC E D A p R s m args meth c cX13_valueOf 7 RX13 "valueOf" 1 21) (hQ : gQI E D A p l e R s m args below meth c Q cX13_valueOf FieldType.int (res, σ)) {r_5 : Nat → Int32 → Int32 → Int32 → Option Int32} (h_5 : ∀ {l0 : Nat} {l1 : Int32} {l3 : Int32} {l4 : Int32} {H : Heap} {locs : List Loc} {cells slots : Nat} {ls : Array Slot}, r_5 l0 l1 l3 l4 = some res → gW E D A s σ H locs → lv_has ls 7 [(0, .ref l0), (1, .int l1), (3, .int l3), (4, .int l4)] → W p l e R s m args below meth c H locs cells slots Q (F0 m 5 ls [])) (hf : X13_valueOf_5_s E σ r_5 l0 l1 l3 l4 = some res) (hw : gW E D A s σ H locs) (hl : lv_has ls 7 [(0, .ref l0), (1, .int l1), (3, .int l3), (4, .int l4)]) : W p l e R s m args below meth c H locs cells slots Q (F0 m 5 ls []) := by
  have hC0 := hC
  obtain ⟨hx, hb, hml, hown, hts, -⟩ := hC0
  unfold X13_valueOf_5_s at hf
  refine lv_aload_n hx hb dX13_valueOf_5 rfl (lv_at hl 0 rfl) ?_
  obtain ⟨x3, h4, hf⟩ := ob_some hf
  refine rR_fl_X13_35 hC hw h4 dX13_valueOf_6 ?_
  refine lv_sipush (v := 387) hx hb dX13_valueOf_9 (by decide) ?_
  refine lv_sipush (v := 625) hx hb dX13_valueOf_12 (by decide) ?_
  refine lv_iload_n hx hb dX13_valueOf_15 rfl (lv_at hl 1 rfl) ?_
  refine lv_imul hx hb dX13_valueOf_16 ?_
  refine lv_iadd hx hb dX13_valueOf_17 ?_
  refine lv_iload_n hx hb dX13_valueOf_18 rfl (lv_at hl 2 rfl) ?_
  refine lv_iadd hx hb dX13_valueOf_19 ?_
  obtain ⟨x5, h6, hf⟩ := ob_some hf
  refine gg_aldI hC hw h6 dX13_valueOf_20 ?_
  obtain ⟨x7, h8, hf⟩ := ob_some hf
  refine gg_cSI (As := [.int x5]) hC hw (X13_bits_M l E D A h8) g_ml_X13_108 hd_X13_bits.2 (Nat.le_of_ble_eq_true rfl) (Nat.le_of_ble_eq_true rfl) hl.1 rfl (Nat.le_of_ble_eq_true rfl) dX13_valueOf_21 (fun H locs cells slots hw => ?_)
  refine lv_iload hx hb dX13_valueOf_24 (lv_at hl 3 rfl) ?_
  refine lv_icmp_gt (tgt := 59) hx hb dX13_valueOf_26 (by decide) (fun c19 => ?_) (fun c19 => ?_)
  · replace hf := (if_pos c19).symm.trans hf
    refine lv_iconst (v := 0) hx hb dX13_valueOf_59 (by decide) ?_
    refine lv_istore (lv' := [(5, .int (0 : Int32)), (0, .ref l0), (1, .int l1), (3, .int l3), (4, .int l4)]) hx hb dX13_valueOf_60 hl (by decide) rfl (fun ls hl => ?_)
    refine lv_aload_n hx hb dX13_valueOf_62 rfl (lv_at hl 1 rfl) ?_
    obtain ⟨x9, h10, hf⟩ := ob_some hf
    refine rR_fl_X13_35 hC hw h10 dX13_valueOf_63 ?_
    refine lv_sipush (v := 387) hx hb dX13_valueOf_66 (by decide) ?_
    refine lv_sipush (v := 625) hx hb dX13_valueOf_69 (by decide) ?_
    refine lv_iload_n hx hb dX13_valueOf_72 rfl (lv_at hl 2 rfl) ?_
    refine lv_imul hx hb dX13_valueOf_73 ?_
    refine lv_iadd hx hb dX13_valueOf_74 ?_
    refine lv_iload_n hx hb dX13_valueOf_75 rfl (lv_at hl 3 rfl) ?_
    refine lv_iadd hx hb dX13_valueOf_76 ?_
    obtain ⟨x11, h12, hf⟩ := ob_some hf
    refine gg_aldI hC hw h12 dX13_valueOf_77 ?_
    refine lv_istore (lv' := [(6, .int x11), (5, .int (0 : Int32)), (0, .ref l0), (1, .int l1), (3, .int l3), (4, .int l4)]) hx hb dX13_valueOf_78 hl (by decide) rfl (fun ls hl => ?_)
    exact X13_valueOf_80_W hC hQ (gN E) hf hw (lv_sub hl [4, 5, 1, 0] rfl)
  · replace hf := (if_neg c19).symm.trans hf
    refine lv_iload hx hb dX13_valueOf_29 (lv_at hl 3 rfl) ?_
    refine lv_aload_n hx hb dX13_valueOf_31 rfl (lv_at hl 0 rfl) ?_
    obtain ⟨x13, h14, hf⟩ := ob_some hf
    refine rR_fl_X13_35 hC hw h14 dX13_valueOf_32 ?_
    refine lv_sipush (v := 387) hx hb dX13_valueOf_35 (by decide) ?_
    refine lv_sipush (v := 625) hx hb dX13_valueOf_38 (by decide) ?_
    refine lv_iload_n hx hb dX13_valueOf_41 rfl (lv_at hl 1 rfl) ?_
    refine lv_imul hx hb dX13_valueOf_42 ?_
    refine lv_iadd hx hb dX13_valueOf_43 ?_
    refine lv_iload_n hx hb dX13_valueOf_44 rfl (lv_at hl 2 rfl) ?_
    refine lv_iadd hx hb dX13_valueOf_45 ?_
    obtain ⟨x15, h16, hf⟩ := ob_some hf
    refine gg_aldI hC hw h16 dX13_valueOf_46 ?_
    obtain ⟨x17, h18, hf⟩ := ob_some hf
    refine gg_cSI (As := [.int x15]) hC hw (X13_bits_M l E D A h18) g_ml_X13_108 hd_X13_bits.2 (Nat.le_of_ble_eq_true rfl) (Nat.le_of_ble_eq_true rfl) hl.1 rfl (Nat.le_of_ble_eq_true rfl) dX13_valueOf_47 (fun H locs cells slots hw => ?_)
    refine lv_isub hx hb dX13_valueOf_50 ?_
    refine lv_istore (lv' := [(4, .int (l4 - x17)), (0, .ref l0), (1, .int l1), (3, .int l3)]) hx hb dX13_valueOf_51 hl (by decide) rfl (fun ls hl => ?_)
    refine lv_iinc (v := (l3 + 1)) (lv' := [(3, .int (l3 + 1)), (4, .int (l4 - x17)), (0, .ref l0), (1, .int l1)]) hx hb dX13_valueOf_53 hl (k := 3) rfl rfl (by decide) rfl (fun ls hl => ?_)
    refine lv_goto (tgt := 5) hx hb dX13_valueOf_56 (by decide) ?_
    exact h_5 hf hw (lv_sub hl [2, 3, 0, 1] rfl)
def X13_valueOf_5 (E : gE) (σ : gS) : Nat → Nat → Int32 → Int32 → Int32 → Option Int32
  | 0 => fun _ _ _ _ => none
  | n + 1 => X13_valueOf_5_s E σ (X13_valueOf_5 E σ n)
theorem X13_valueOf_5_W {σ : gS} {res : Int32} (hC : gC E D A p R s m args meth c cX13_valueOf 7 RX13 "valueOf" 1 21) (hQ : gQI E D A p l e R s m args below meth c Q cX13_valueOf FieldType.int (res, σ)) : ∀ (n : Nat), ∀ {l0 : Nat} {l1 : Int32} {l3 : Int32} {l4 : Int32} {H : Heap} {locs : List Loc} {cells slots : Nat} {ls : Array Slot}, X13_valueOf_5 E σ n l0 l1 l3 l4 = some res → gW E D A s σ H locs → lv_has ls 7 [(0, .ref l0), (1, .int l1), (3, .int l3), (4, .int l4)] → W p l e R s m args below meth c H locs cells slots Q (F0 m 5 ls []) := by
  intro n
  induction n with
  | zero =>
    intros
    rename_i hf _ _
    exact absurd hf (fun h => by cases (show (none : Option Int32) = some res from h))
  | succ n ih =>
    intros
    rename_i hf hw hl
    exact X13_valueOf_5_s_W hC hQ ih hf hw hl

def X13_valueOf (E : gE) (σ : gS) (l0 : Nat) (l1 : Int32) (l2 : Int32) : Option Int32 :=
  X13_valueOf_5 E σ (gN E) l0 l1 (0 : Int32) l2
set_option maxHeartbeats 4000000 in
set_option maxRecDepth 100000 in
theorem X13_valueOf_W {σ : gS} {l0 : Nat} {l1 : Int32} {l2 : Int32} {res : Int32} {ls : Array Slot} (hC : gC E D A p R s m args meth c cX13_valueOf 7 RX13 "valueOf" 1 21) (hQ : gQI E D A p l e R s m args below meth c Q cX13_valueOf FieldType.int (res, σ)) (hf : X13_valueOf E σ l0 l1 l2 = some res) (hw : gW E D A s σ H locs) (hl : lv_has ls 7 [(0, .ref l0), (1, .int l1), (2, .int l2)]) : W p l e R s m args below meth c H locs cells slots Q (F0 m 0 ls []) := by
  have hC0 := hC
  obtain ⟨hx, hb, hml, hown, hts, -⟩ := hC0
  unfold X13_valueOf at hf
  refine lv_iconst (v := 0) hx hb dX13_valueOf_0 (by decide) ?_
  refine lv_istore_n (lv' := [(3, .int (0 : Int32)), (0, .ref l0), (1, .int l1), (2, .int l2)]) hx hb dX13_valueOf_1 rfl hl (by decide) rfl (fun ls hl => ?_)
  refine lv_iload_n hx hb dX13_valueOf_2 rfl (lv_at hl 3 rfl) ?_
  refine lv_istore (lv' := [(4, .int l2), (3, .int (0 : Int32)), (0, .ref l0), (1, .int l1), (2, .int l2)]) hx hb dX13_valueOf_3 hl (by decide) rfl (fun ls hl => ?_)
  exact X13_valueOf_5_W hC hQ (gN E) hf hw (lv_sub hl [2, 3, 1, 0] rfl)

def X13_valueOf_f (E : gE) (σ : gS) (l0 : Nat) (l1 : Int32) (l2 : Int32) : Option Int32 := X13_valueOf E σ l0 l1 l2
set_option maxRecDepth 100000 in
theorem X13_valueOf_M (l : Launch) (E : gE) (D : va_G) (A : Nat → Prop) {l0 : Nat} {l1 : Int32} {l2 : Int32} {σ : gS} {res : Int32} (hf : X13_valueOf_f E σ l0 l1 l2 = some res) : gCI l E D A yX13_valueOf cX13_valueOf 7 1 21 (some FieldType.int) [.ref l0, .int l1, .int l2] σ (res, σ) := by
  refine gg_entI (own := RX13) (nm := "valueOf") (ty := FieldType.int) (by decide +kernel) rfl rfl (Nat.le_of_ble_eq_true rfl) rfl ?_
  intro p e R s m args below meth c Q ls hC hw hQ hl
  have hl : lv_has ls 7 [(0, .ref l0), (1, .int l1), (2, .int l2)] := hl
  exact X13_valueOf_W hC hQ hf hw hl

def X13_codeAt (E : gE) (σ : gS) (l0 : Nat) (l1 : Int32) (l2 : Int32) : Option Int32 :=
  ob (gcl σ l0 11) fun _ =>
  ob (X13_at_f E σ l0 l1 l2) fun x1 =>
  ob (gcl σ l0 11) fun _ =>
  ob (X13_less_f E σ l0 l1 x1) fun x4 =>
  some x4
set_option maxHeartbeats 4000000 in
set_option maxRecDepth 100000 in
theorem X13_codeAt_W {σ : gS} {l0 : Nat} {l1 : Int32} {l2 : Int32} {res : Int32} {ls : Array Slot} (hC : gC E D A p R s m args meth c cX13_codeAt 3 RX13 "codeAt" 2 46) (hQ : gQI E D A p l e R s m args below meth c Q cX13_codeAt FieldType.int (res, σ)) (hf : X13_codeAt E σ l0 l1 l2 = some res) (hw : gW E D A s σ H locs) (hl : lv_has ls 3 [(0, .ref l0), (1, .int l1), (2, .int l2)]) : W p l e R s m args below meth c H locs cells slots Q (F0 m 0 ls []) := by
  have hC0 := hC
  obtain ⟨hx, hb, hml, hown, hts, -⟩ := hC0
  unfold X13_codeAt at hf
  refine lv_aload_n hx hb dX13_codeAt_0 rfl (lv_at hl 0 rfl) ?_
  refine lv_iload_n hx hb dX13_codeAt_1 rfl (lv_at hl 1 rfl) ?_
  refine lv_aload_n hx hb dX13_codeAt_2 rfl (lv_at hl 0 rfl) ?_
  refine lv_iload_n hx hb dX13_codeAt_3 rfl (lv_at hl 1 rfl) ?_
  refine lv_iload_n hx hb dX13_codeAt_4 rfl (lv_at hl 2 rfl) ?_
  obtain ⟨_, h3, hf⟩ := ob_some hf
  obtain ⟨x1, h2, hf⟩ := ob_some hf
  refine gg_cVI (As := [.int l1, .int l2]) hC hw (X13_at_M l E D A h2) h3 rfl g_ml_X13_118 hd_X13_at (Nat.le_of_ble_eq_true rfl) (Nat.le_of_ble_eq_true rfl) hl.1 rfl (Nat.le_of_ble_eq_true rfl) dX13_codeAt_5 (fun H locs cells slots hw => ?_)
  obtain ⟨_, h6, hf⟩ := ob_some hf
  obtain ⟨x4, h5, hf⟩ := ob_some hf
  refine gg_cVI (As := [.int l1, .int x1]) hC hw (X13_less_M l E D A h5) h6 rfl g_ml_X13_121 hd_X13_less (Nat.le_of_ble_eq_true rfl) (Nat.le_of_ble_eq_true rfl) hl.1 rfl (Nat.le_of_ble_eq_true rfl) dX13_codeAt_8 (fun H locs cells slots hw => ?_)
  cases hf
  exact hQ _ _ _ _ _ _ dX13_codeAt_11 rfl hw

def X13_codeAt_f (E : gE) (σ : gS) (l0 : Nat) (l1 : Int32) (l2 : Int32) : Option Int32 := X13_codeAt E σ l0 l1 l2
set_option maxRecDepth 100000 in
theorem X13_codeAt_M (l : Launch) (E : gE) (D : va_G) (A : Nat → Prop) {l0 : Nat} {l1 : Int32} {l2 : Int32} {σ : gS} {res : Int32} (hf : X13_codeAt_f E σ l0 l1 l2 = some res) : gCI l E D A yX13_codeAt cX13_codeAt 3 2 46 (some FieldType.int) [.ref l0, .int l1, .int l2] σ (res, σ) := by
  refine gg_entI (own := RX13) (nm := "codeAt") (ty := FieldType.int) (by decide +kernel) rfl rfl (Nat.le_of_ble_eq_true rfl) rfl ?_
  intro p e R s m args below meth c Q ls hC hw hQ hl
  have hl : lv_has ls 3 [(0, .ref l0), (1, .int l1), (2, .int l2)] := hl
  exact X13_codeAt_W hC hQ hf hw hl

def X13_countValue_33 (E : gE) (σ : gS) (r_5 : Nat → Int32 → Int32 → Int32 → Int32 → Option Int32) (l0 : Nat) (l1 : Int32) (l2 : Int32) (l4 : Int32) (s0 : Int32) (s1 : Int32) : Option Int32 :=
  r_5 l0 l1 l2 (s1 + s0) (l4 + 1)
set_option maxHeartbeats 4000000 in
set_option maxRecDepth 100000 in
theorem X13_countValue_33_W {σ : gS} {l0 : Nat} {l1 : Int32} {l2 : Int32} {l4 : Int32} {s0 : Int32} {s1 : Int32} {res : Int32} {ls : Array Slot} (hC : gC E D A p R s m args meth c cX13_countValue 5 RX13 "countValue" 2 43) (hQ : gQI E D A p l e R s m args below meth c Q cX13_countValue FieldType.int (res, σ)) {r_5 : Nat → Int32 → Int32 → Int32 → Int32 → Option Int32} (h_5 : ∀ {l0 : Nat} {l1 : Int32} {l2 : Int32} {l3 : Int32} {l4 : Int32} {H : Heap} {locs : List Loc} {cells slots : Nat} {ls : Array Slot}, r_5 l0 l1 l2 l3 l4 = some res → gW E D A s σ H locs → lv_has ls 5 [(0, .ref l0), (1, .int l1), (2, .int l2), (3, .int l3), (4, .int l4)] → W p l e R s m args below meth c H locs cells slots Q (F0 m 5 ls [])) (hf : X13_countValue_33 E σ r_5 l0 l1 l2 l4 s0 s1 = some res) (hw : gW E D A s σ H locs) (hl : lv_has ls 5 [(0, .ref l0), (1, .int l1), (2, .int l2), (4, .int l4)]) : W p l e R s m args below meth c H locs cells slots Q (F0 m 33 ls [.int s0, .int s1]) := by
  have hC0 := hC
  obtain ⟨hx, hb, hml, hown, hts, -⟩ := hC0
  unfold X13_countValue_33 at hf
  refine lv_iadd hx hb dX13_countValue_33 ?_
  refine lv_istore_n (lv' := [(3, .int (s1 + s0)), (0, .ref l0), (1, .int l1), (2, .int l2), (4, .int l4)]) hx hb dX13_countValue_34 rfl hl (by decide) rfl (fun ls hl => ?_)
  refine lv_iinc (v := (l4 + 1)) (lv' := [(4, .int (l4 + 1)), (3, .int (s1 + s0)), (0, .ref l0), (1, .int l1), (2, .int l2)]) hx hb dX13_countValue_35 hl (k := 4) rfl rfl (by decide) rfl (fun ls hl => ?_)
  refine lv_goto (tgt := 5) hx hb dX13_countValue_38 (by decide) ?_
  exact h_5 hf hw (lv_sub hl [2, 3, 4, 1, 0] rfl)

def X13_countValue_5_s (E : gE) (σ : gS) (r_5 : Nat → Int32 → Int32 → Int32 → Int32 → Option Int32) (l0 : Nat) (l1 : Int32) (l2 : Int32) (l3 : Int32) (l4 : Int32) : Option Int32 :=
  ob (gfR σ l0 11 8) fun x1 =>
  ob (graI E 0 σ x1 (1 : Int32)) fun x3 =>
  if x3 ≤ l4 then
    some l3
  else
    ob (gcl σ l0 11) fun _ =>
    ob (X13_at_f E σ l0 l1 l4) fun x5 =>
    if x5 = l2 then
      X13_countValue_33 E σ r_5 l0 l1 l2 l4 (1 : Int32) l3
    else
      X13_countValue_33 E σ r_5 l0 l1 l2 l4 (0 : Int32) l3
set_option maxHeartbeats 4000000 in
set_option maxRecDepth 100000 in
theorem X13_countValue_5_s_W {σ : gS} {l0 : Nat} {l1 : Int32} {l2 : Int32} {l3 : Int32} {l4 : Int32} {res : Int32} {ls : Array Slot} (hC : gC E D A p R s m args meth c cX13_countValue 5 RX13 "countValue" 2 43) (hQ : gQI E D A p l e R s m args below meth c Q cX13_countValue FieldType.int (res, σ)) {r_5 : Nat → Int32 → Int32 → Int32 → Int32 → Option Int32} (h_5 : ∀ {l0 : Nat} {l1 : Int32} {l2 : Int32} {l3 : Int32} {l4 : Int32} {H : Heap} {locs : List Loc} {cells slots : Nat} {ls : Array Slot}, r_5 l0 l1 l2 l3 l4 = some res → gW E D A s σ H locs → lv_has ls 5 [(0, .ref l0), (1, .int l1), (2, .int l2), (3, .int l3), (4, .int l4)] → W p l e R s m args below meth c H locs cells slots Q (F0 m 5 ls [])) (hf : X13_countValue_5_s E σ r_5 l0 l1 l2 l3 l4 = some res) (hw : gW E D A s σ H locs) (hl : lv_has ls 5 [(0, .ref l0), (1, .int l1), (2, .int l2), (3, .int l3), (4, .int l4)]) : W p l e R s m args below meth c H locs cells slots Q (F0 m 5 ls []) := by
  have hC0 := hC
  obtain ⟨hx, hb, hml, hown, hts, -⟩ := hC0
  unfold X13_countValue_5_s at hf
  refine lv_iload hx hb dX13_countValue_5 (lv_at hl 4 rfl) ?_
  refine lv_aload_n hx hb dX13_countValue_7 rfl (lv_at hl 0 rfl) ?_
  obtain ⟨x1, h2, hf⟩ := ob_some hf
  refine rR_fl_X13_35 hC hw h2 dX13_countValue_8 ?_
  refine lv_iconst (v := 1) hx hb dX13_countValue_11 (by decide) ?_
  obtain ⟨x3, h4, hf⟩ := ob_some hf
  refine gg_aldI hC hw h4 dX13_countValue_12 ?_
  refine lv_icmp_ge (tgt := 41) hx hb dX13_countValue_13 (by decide) (fun c9 => ?_) (fun c9 => ?_)
  · replace hf := (if_pos c9).symm.trans hf
    refine lv_iload_n hx hb dX13_countValue_41 rfl (lv_at hl 3 rfl) ?_
    cases hf
    exact hQ _ _ _ _ _ _ dX13_countValue_42 rfl hw
  · replace hf := (if_neg c9).symm.trans hf
    refine lv_iload_n hx hb dX13_countValue_16 rfl (lv_at hl 3 rfl) ?_
    refine lv_aload_n hx hb dX13_countValue_17 rfl (lv_at hl 0 rfl) ?_
    refine lv_iload_n hx hb dX13_countValue_18 rfl (lv_at hl 1 rfl) ?_
    refine lv_iload hx hb dX13_countValue_19 (lv_at hl 4 rfl) ?_
    obtain ⟨_, h7, hf⟩ := ob_some hf
    obtain ⟨x5, h6, hf⟩ := ob_some hf
    refine gg_cVI (As := [.int l1, .int l4]) hC hw (X13_at_M l E D A h6) h7 rfl g_ml_X13_118 hd_X13_at (Nat.le_of_ble_eq_true rfl) (Nat.le_of_ble_eq_true rfl) hl.1 rfl (Nat.le_of_ble_eq_true rfl) dX13_countValue_21 (fun H locs cells slots hw => ?_)
    refine lv_iload_n hx hb dX13_countValue_24 rfl (lv_at hl 2 rfl) ?_
    refine lv_icmp_ne (tgt := 32) hx hb dX13_countValue_25 (by decide) (fun c8 => ?_) (fun c8 => ?_)
    · replace hf := (if_neg c8).symm.trans hf
      refine lv_iconst (v := 0) hx hb dX13_countValue_32 (by decide) ?_
      exact X13_countValue_33_W hC hQ h_5 hf hw (lv_sub hl [0, 1, 2, 4] rfl)
    · replace hf := (if_pos c8).symm.trans hf
      refine lv_iconst (v := 1) hx hb dX13_countValue_28 (by decide) ?_
      refine lv_goto (tgt := 33) hx hb dX13_countValue_29 (by decide) ?_
      exact X13_countValue_33_W hC hQ h_5 hf hw (lv_sub hl [0, 1, 2, 4] rfl)
def X13_countValue_5 (E : gE) (σ : gS) : Nat → Nat → Int32 → Int32 → Int32 → Int32 → Option Int32
  | 0 => fun _ _ _ _ _ => none
  | n + 1 => X13_countValue_5_s E σ (X13_countValue_5 E σ n)
theorem X13_countValue_5_W {σ : gS} {res : Int32} (hC : gC E D A p R s m args meth c cX13_countValue 5 RX13 "countValue" 2 43) (hQ : gQI E D A p l e R s m args below meth c Q cX13_countValue FieldType.int (res, σ)) : ∀ (n : Nat), ∀ {l0 : Nat} {l1 : Int32} {l2 : Int32} {l3 : Int32} {l4 : Int32} {H : Heap} {locs : List Loc} {cells slots : Nat} {ls : Array Slot}, X13_countValue_5 E σ n l0 l1 l2 l3 l4 = some res → gW E D A s σ H locs → lv_has ls 5 [(0, .ref l0), (1, .int l1), (2, .int l2), (3, .int l3), (4, .int l4)] → W p l e R s m args below meth c H locs cells slots Q (F0 m 5 ls []) := by
  intro n
  induction n with
  | zero =>
    intros
    rename_i hf _ _
    exact absurd hf (fun h => by cases (show (none : Option Int32) = some res from h))
  | succ n ih =>
    intros
    rename_i hf hw hl
    exact X13_countValue_5_s_W hC hQ ih hf hw hl

def X13_countValue (E : gE) (σ : gS) (l0 : Nat) (l1 : Int32) (l2 : Int32) : Option Int32 :=
  X13_countValue_5 E σ (gN E) l0 l1 l2 (0 : Int32) (0 : Int32)
set_option maxHeartbeats 4000000 in
set_option maxRecDepth 100000 in
theorem X13_countValue_W {σ : gS} {l0 : Nat} {l1 : Int32} {l2 : Int32} {res : Int32} {ls : Array Slot} (hC : gC E D A p R s m args meth c cX13_countValue 5 RX13 "countValue" 2 43) (hQ : gQI E D A p l e R s m args below meth c Q cX13_countValue FieldType.int (res, σ)) (hf : X13_countValue E σ l0 l1 l2 = some res) (hw : gW E D A s σ H locs) (hl : lv_has ls 5 [(0, .ref l0), (1, .int l1), (2, .int l2)]) : W p l e R s m args below meth c H locs cells slots Q (F0 m 0 ls []) := by
  have hC0 := hC
  obtain ⟨hx, hb, hml, hown, hts, -⟩ := hC0
  unfold X13_countValue at hf
  refine lv_iconst (v := 0) hx hb dX13_countValue_0 (by decide) ?_
  refine lv_istore_n (lv' := [(3, .int (0 : Int32)), (0, .ref l0), (1, .int l1), (2, .int l2)]) hx hb dX13_countValue_1 rfl hl (by decide) rfl (fun ls hl => ?_)
  refine lv_iconst (v := 0) hx hb dX13_countValue_2 (by decide) ?_
  refine lv_istore (lv' := [(4, .int (0 : Int32)), (3, .int (0 : Int32)), (0, .ref l0), (1, .int l1), (2, .int l2)]) hx hb dX13_countValue_3 hl (by decide) rfl (fun ls hl => ?_)
  exact X13_countValue_5_W hC hQ (gN E) hf hw (lv_sub hl [2, 3, 4, 1, 0] rfl)

def X13_countValue_f (E : gE) (σ : gS) (l0 : Nat) (l1 : Int32) (l2 : Int32) : Option Int32 := X13_countValue E σ l0 l1 l2
set_option maxRecDepth 100000 in
theorem X13_countValue_M (l : Launch) (E : gE) (D : va_G) (A : Nat → Prop) {l0 : Nat} {l1 : Int32} {l2 : Int32} {σ : gS} {res : Int32} (hf : X13_countValue_f E σ l0 l1 l2 = some res) : gCI l E D A yX13_countValue cX13_countValue 5 2 43 (some FieldType.int) [.ref l0, .int l1, .int l2] σ (res, σ) := by
  refine gg_entI (own := RX13) (nm := "countValue") (ty := FieldType.int) (by decide +kernel) rfl rfl (Nat.le_of_ble_eq_true rfl) rfl ?_
  intro p e R s m args below meth c Q ls hC hw hQ hl
  have hl : lv_has ls 5 [(0, .ref l0), (1, .int l1), (2, .int l2)] := hl
  exact X13_countValue_W hC hQ hf hw hl

def X13_isFirst_2_s (E : gE) (σ : gS) (r_2 : Nat → Int32 → Int32 → Int32 → Option Int32) (l0 : Nat) (l1 : Int32) (l2 : Int32) (l3 : Int32) : Option Int32 :=
  if l2 ≤ l3 then
    some (1 : Int32)
  else
    ob (gcl σ l0 11) fun _ =>
    ob (X13_at_f E σ l0 l1 l3) fun x1 =>
    ob (gcl σ l0 11) fun _ =>
    ob (X13_at_f E σ l0 l1 l2) fun x4 =>
    if x1 = x4 then
      some (0 : Int32)
    else
      r_2 l0 l1 l2 (l3 + 1)
set_option maxHeartbeats 4000000 in
set_option maxRecDepth 100000 in
theorem X13_isFirst_2_s_W {σ : gS} {l0 : Nat} {l1 : Int32} {l2 : Int32} {l3 : Int32} {res : Int32} {ls : Array Slot} (hC : gC E D A p R s m args meth c cX13_isFirst 4 RX13 "isFirst" 2 43) (hQ : gQI E D A p l e R s m args below meth c Q cX13_isFirst FieldType.boolean (res, σ)) {r_2 : Nat → Int32 → Int32 → Int32 → Option Int32} (h_2 : ∀ {l0 : Nat} {l1 : Int32} {l2 : Int32} {l3 : Int32} {H : Heap} {locs : List Loc} {cells slots : Nat} {ls : Array Slot}, r_2 l0 l1 l2 l3 = some res → gW E D A s σ H locs → lv_has ls 4 [(0, .ref l0), (1, .int l1), (2, .int l2), (3, .int l3)] → W p l e R s m args below meth c H locs cells slots Q (F0 m 2 ls [])) (hf : X13_isFirst_2_s E σ r_2 l0 l1 l2 l3 = some res) (hw : gW E D A s σ H locs) (hl : lv_has ls 4 [(0, .ref l0), (1, .int l1), (2, .int l2), (3, .int l3)]) : W p l e R s m args below meth c H locs cells slots Q (F0 m 2 ls []) := by
  have hC0 := hC
  obtain ⟨hx, hb, hml, hown, hts, -⟩ := hC0
  unfold X13_isFirst_2_s at hf
  refine lv_iload_n hx hb dX13_isFirst_2 rfl (lv_at hl 3 rfl) ?_
  refine lv_iload_n hx hb dX13_isFirst_3 rfl (lv_at hl 2 rfl) ?_
  refine lv_icmp_ge (tgt := 30) hx hb dX13_isFirst_4 (by decide) (fun c8 => ?_) (fun c8 => ?_)
  · replace hf := (if_pos c8).symm.trans hf
    refine lv_iconst (v := 1) hx hb dX13_isFirst_30 (by decide) ?_
    cases hf
    exact hQ _ _ _ _ _ _ dX13_isFirst_31 gz1 hw
  · replace hf := (if_neg c8).symm.trans hf
    refine lv_aload_n hx hb dX13_isFirst_7 rfl (lv_at hl 0 rfl) ?_
    refine lv_iload_n hx hb dX13_isFirst_8 rfl (lv_at hl 1 rfl) ?_
    refine lv_iload_n hx hb dX13_isFirst_9 rfl (lv_at hl 3 rfl) ?_
    obtain ⟨_, h3, hf⟩ := ob_some hf
    obtain ⟨x1, h2, hf⟩ := ob_some hf
    refine gg_cVI (As := [.int l1, .int l3]) hC hw (X13_at_M l E D A h2) h3 rfl g_ml_X13_118 hd_X13_at (Nat.le_of_ble_eq_true rfl) (Nat.le_of_ble_eq_true rfl) hl.1 rfl (Nat.le_of_ble_eq_true rfl) dX13_isFirst_10 (fun H locs cells slots hw => ?_)
    refine lv_aload_n hx hb dX13_isFirst_13 rfl (lv_at hl 0 rfl) ?_
    refine lv_iload_n hx hb dX13_isFirst_14 rfl (lv_at hl 1 rfl) ?_
    refine lv_iload_n hx hb dX13_isFirst_15 rfl (lv_at hl 2 rfl) ?_
    obtain ⟨_, h6, hf⟩ := ob_some hf
    obtain ⟨x4, h5, hf⟩ := ob_some hf
    refine gg_cVI (As := [.int l1, .int l2]) hC hw (X13_at_M l E D A h5) h6 rfl g_ml_X13_118 hd_X13_at (Nat.le_of_ble_eq_true rfl) (Nat.le_of_ble_eq_true rfl) hl.1 rfl (Nat.le_of_ble_eq_true rfl) dX13_isFirst_16 (fun H locs cells slots hw => ?_)
    refine lv_icmp_ne (tgt := 24) hx hb dX13_isFirst_19 (by decide) (fun c7 => ?_) (fun c7 => ?_)
    · replace hf := (if_neg c7).symm.trans hf
      refine lv_iinc (v := (l3 + 1)) (lv' := [(3, .int (l3 + 1)), (0, .ref l0), (1, .int l1), (2, .int l2)]) hx hb dX13_isFirst_24 hl (k := 3) rfl rfl (by decide) rfl (fun ls hl => ?_)
      refine lv_goto (tgt := 2) hx hb dX13_isFirst_27 (by decide) ?_
      exact h_2 hf hw (lv_sub hl [1, 2, 3, 0] rfl)
    · replace hf := (if_pos c7).symm.trans hf
      refine lv_iconst (v := 0) hx hb dX13_isFirst_22 (by decide) ?_
      cases hf
      exact hQ _ _ _ _ _ _ dX13_isFirst_23 gz0 hw
def X13_isFirst_2 (E : gE) (σ : gS) : Nat → Nat → Int32 → Int32 → Int32 → Option Int32
  | 0 => fun _ _ _ _ => none
  | n + 1 => X13_isFirst_2_s E σ (X13_isFirst_2 E σ n)
theorem X13_isFirst_2_W {σ : gS} {res : Int32} (hC : gC E D A p R s m args meth c cX13_isFirst 4 RX13 "isFirst" 2 43) (hQ : gQI E D A p l e R s m args below meth c Q cX13_isFirst FieldType.boolean (res, σ)) : ∀ (n : Nat), ∀ {l0 : Nat} {l1 : Int32} {l2 : Int32} {l3 : Int32} {H : Heap} {locs : List Loc} {cells slots : Nat} {ls : Array Slot}, X13_isFirst_2 E σ n l0 l1 l2 l3 = some res → gW E D A s σ H locs → lv_has ls 4 [(0, .ref l0), (1, .int l1), (2, .int l2), (3, .int l3)] → W p l e R s m args below meth c H locs cells slots Q (F0 m 2 ls []) := by
  intro n
  induction n with
  | zero =>
    intros
    rename_i hf _ _
    exact absurd hf (fun h => by cases (show (none : Option Int32) = some res from h))
  | succ n ih =>
    intros
    rename_i hf hw hl
    exact X13_isFirst_2_s_W hC hQ ih hf hw hl

def X13_isFirst (E : gE) (σ : gS) (l0 : Nat) (l1 : Int32) (l2 : Int32) : Option Int32 :=
  X13_isFirst_2 E σ (gN E) l0 l1 l2 (0 : Int32)
set_option maxHeartbeats 4000000 in
set_option maxRecDepth 100000 in
theorem X13_isFirst_W {σ : gS} {l0 : Nat} {l1 : Int32} {l2 : Int32} {res : Int32} {ls : Array Slot} (hC : gC E D A p R s m args meth c cX13_isFirst 4 RX13 "isFirst" 2 43) (hQ : gQI E D A p l e R s m args below meth c Q cX13_isFirst FieldType.boolean (res, σ)) (hf : X13_isFirst E σ l0 l1 l2 = some res) (hw : gW E D A s σ H locs) (hl : lv_has ls 4 [(0, .ref l0), (1, .int l1), (2, .int l2)]) : W p l e R s m args below meth c H locs cells slots Q (F0 m 0 ls []) := by
  have hC0 := hC
  obtain ⟨hx, hb, hml, hown, hts, -⟩ := hC0
  unfold X13_isFirst at hf
  refine lv_iconst (v := 0) hx hb dX13_isFirst_0 (by decide) ?_
  refine lv_istore_n (lv' := [(3, .int (0 : Int32)), (0, .ref l0), (1, .int l1), (2, .int l2)]) hx hb dX13_isFirst_1 rfl hl (by decide) rfl (fun ls hl => ?_)
  exact X13_isFirst_2_W hC hQ (gN E) hf hw (lv_sub hl [1, 2, 3, 0] rfl)

def X13_isFirst_f (E : gE) (σ : gS) (l0 : Nat) (l1 : Int32) (l2 : Int32) : Option Int32 := X13_isFirst E σ l0 l1 l2
set_option maxRecDepth 100000 in
theorem X13_isFirst_M (l : Launch) (E : gE) (D : va_G) (A : Nat → Prop) {l0 : Nat} {l1 : Int32} {l2 : Int32} {σ : gS} {res : Int32} (hf : X13_isFirst_f E σ l0 l1 l2 = some res) : gCI l E D A yX13_isFirst cX13_isFirst 4 2 43 (some FieldType.boolean) [.ref l0, .int l1, .int l2] σ (res, σ) := by
  refine gg_entI (own := RX13) (nm := "isFirst") (ty := FieldType.boolean) (by decide +kernel) rfl rfl (Nat.le_of_ble_eq_true rfl) rfl ?_
  intro p e R s m args below meth c Q ls hC hw hQ hl
  have hl : lv_has ls 4 [(0, .ref l0), (1, .int l1), (2, .int l2)] := hl
  exact X13_isFirst_W hC hQ hf hw hl

def X13_columnCount (E : gE) (l0 : Nat) (σ : gS) : Option (Int32 × gS) :=
  ob (gpf E σ l0 11 10 (.int (0 : Int32))) fun σ1 =>
  ob (gfR σ1 l0 11 8) fun x3 =>
  ob (graI E 0 σ1 x3 (0 : Int32)) fun x5 =>
  some (x5, σ1)
set_option maxHeartbeats 4000000 in
set_option maxRecDepth 100000 in
theorem X13_columnCount_W {σ : gS} {l0 : Nat} {res : (Int32 × gS)} {ls : Array Slot} (hC : gC E D A p R s m args meth c cX13_columnCount 1 RX13 "columnCount" 0 0) (hQ : gQI E D A p l e R s m args below meth c Q cX13_columnCount FieldType.int res) (hf : X13_columnCount E l0 σ = some res) (hw : gW E D A s σ H locs) (hl : lv_has ls 1 [(0, .ref l0)]) : W p l e R s m args below meth c H locs cells slots Q (F0 m 0 ls []) := by
  have hC0 := hC
  obtain ⟨hx, hb, hml, hown, hts, -⟩ := hC0
  unfold X13_columnCount at hf
  refine lv_aload_n hx hb dX13_columnCount_0 rfl (lv_at hl 0 rfl) ?_
  refine lv_iconst (v := 0) hx hb dX13_columnCount_1 (by decide) ?_
  obtain ⟨σ1, h2, hf⟩ := ob_some hf
  refine p_fl_X13_85 hC hw h2 rfl rfl dX13_columnCount_2 (fun H locs hw => ?_)
  refine lv_aload_n hx hb dX13_columnCount_5 rfl (lv_at hl 0 rfl) ?_
  obtain ⟨x3, h4, hf⟩ := ob_some hf
  refine rR_fl_X13_35 hC hw h4 dX13_columnCount_6 ?_
  refine lv_iconst (v := 0) hx hb dX13_columnCount_9 (by decide) ?_
  obtain ⟨x5, h6, hf⟩ := ob_some hf
  refine gg_aldI hC hw h6 dX13_columnCount_10 ?_
  cases hf
  exact hQ _ _ _ _ _ _ dX13_columnCount_11 rfl hw

def X13_columnCount_f (E : gE) (l0 : Nat) (σ : gS) : Option (Int32 × gS) := X13_columnCount E l0 σ
set_option maxRecDepth 100000 in
theorem X13_columnCount_M (l : Launch) (E : gE) (D : va_G) (A : Nat → Prop) {l0 : Nat} {σ : gS} {res : (Int32 × gS)} (hf : X13_columnCount_f E l0 σ = some res) : gCI l E D A yX13_columnCount cX13_columnCount 1 0 0 (some FieldType.int) [.ref l0] σ res := by
  refine gg_entI (own := RX13) (nm := "columnCount") (ty := FieldType.int) (by decide +kernel) rfl rfl (Nat.le_of_ble_eq_true rfl) rfl ?_
  intro p e R s m args below meth c Q ls hC hw hQ hl
  have hl : lv_has ls 1 [(0, .ref l0)] := hl
  exact X13_columnCount_W hC hQ hf hw hl

def X13_rowCount (E : gE) (l0 : Nat) (σ : gS) : Option (Int32 × gS) :=
  ob (gpf E σ l0 11 10 (.int (0 : Int32))) fun σ1 =>
  ob (gfR σ1 l0 11 8) fun x3 =>
  ob (graI E 0 σ1 x3 (1 : Int32)) fun x5 =>
  some (x5, σ1)
set_option maxHeartbeats 4000000 in
set_option maxRecDepth 100000 in
theorem X13_rowCount_W {σ : gS} {l0 : Nat} {res : (Int32 × gS)} {ls : Array Slot} (hC : gC E D A p R s m args meth c cX13_rowCount 1 RX13 "rowCount" 0 0) (hQ : gQI E D A p l e R s m args below meth c Q cX13_rowCount FieldType.int res) (hf : X13_rowCount E l0 σ = some res) (hw : gW E D A s σ H locs) (hl : lv_has ls 1 [(0, .ref l0)]) : W p l e R s m args below meth c H locs cells slots Q (F0 m 0 ls []) := by
  have hC0 := hC
  obtain ⟨hx, hb, hml, hown, hts, -⟩ := hC0
  unfold X13_rowCount at hf
  refine lv_aload_n hx hb dX13_rowCount_0 rfl (lv_at hl 0 rfl) ?_
  refine lv_iconst (v := 0) hx hb dX13_rowCount_1 (by decide) ?_
  obtain ⟨σ1, h2, hf⟩ := ob_some hf
  refine p_fl_X13_85 hC hw h2 rfl rfl dX13_rowCount_2 (fun H locs hw => ?_)
  refine lv_aload_n hx hb dX13_rowCount_5 rfl (lv_at hl 0 rfl) ?_
  obtain ⟨x3, h4, hf⟩ := ob_some hf
  refine rR_fl_X13_35 hC hw h4 dX13_rowCount_6 ?_
  refine lv_iconst (v := 1) hx hb dX13_rowCount_9 (by decide) ?_
  obtain ⟨x5, h6, hf⟩ := ob_some hf
  refine gg_aldI hC hw h6 dX13_rowCount_10 ?_
  cases hf
  exact hQ _ _ _ _ _ _ dX13_rowCount_11 rfl hw

def X13_rowCount_f (E : gE) (l0 : Nat) (σ : gS) : Option (Int32 × gS) := X13_rowCount E l0 σ
set_option maxRecDepth 100000 in
theorem X13_rowCount_M (l : Launch) (E : gE) (D : va_G) (A : Nat → Prop) {l0 : Nat} {σ : gS} {res : (Int32 × gS)} (hf : X13_rowCount_f E l0 σ = some res) : gCI l E D A yX13_rowCount cX13_rowCount 1 0 0 (some FieldType.int) [.ref l0] σ res := by
  refine gg_entI (own := RX13) (nm := "rowCount") (ty := FieldType.int) (by decide +kernel) rfl rfl (Nat.le_of_ble_eq_true rfl) rfl ?_
  intro p e R s m args below meth c Q ls hC hw hQ hl
  have hl : lv_has ls 1 [(0, .ref l0)] := hl
  exact X13_rowCount_W hC hQ hf hw hl

def X13_isCell_20 (E : gE) (σ : gS) : Option Int32 :=
  some (0 : Int32)
set_option maxHeartbeats 4000000 in
set_option maxRecDepth 100000 in
theorem X13_isCell_20_W {σ : gS} {res : Int32} {ls : Array Slot} (hC : gC E D A p R s m args meth c cX13_isCell 3 RX13 "isCell" 2 43) (hQ : gQI E D A p l e R s m args below meth c Q cX13_isCell FieldType.boolean (res, σ)) (hf : X13_isCell_20 E σ = some res) (hw : gW E D A s σ H locs) (hl : lv_has ls 3 []) : W p l e R s m args below meth c H locs cells slots Q (F0 m 20 ls []) := by
  have hC0 := hC
  obtain ⟨hx, hb, hml, hown, hts, -⟩ := hC0
  unfold X13_isCell_20 at hf
  refine lv_iconst (v := 0) hx hb dX13_isCell_20 (by decide) ?_
  cases hf
  exact hQ _ _ _ _ _ _ dX13_isCell_21 gz0 hw

def X13_isCell (E : gE) (σ : gS) (l0 : Nat) (l1 : Int32) (l2 : Int32) : Option Int32 :=
  ob (gcl σ l0 11) fun _ =>
  ob (X13_isColumn_f E σ l0 l1) fun x1 =>
  if x1 = 0 then
    X13_isCell_20 E σ
  else
    ob (gcl σ l0 11) fun _ =>
    ob (X13_isRow_f E σ l0 l2) fun x4 =>
    if x4 = 0 then
      X13_isCell_20 E σ
    else
      some (1 : Int32)
set_option maxHeartbeats 4000000 in
set_option maxRecDepth 100000 in
theorem X13_isCell_W {σ : gS} {l0 : Nat} {l1 : Int32} {l2 : Int32} {res : Int32} {ls : Array Slot} (hC : gC E D A p R s m args meth c cX13_isCell 3 RX13 "isCell" 2 43) (hQ : gQI E D A p l e R s m args below meth c Q cX13_isCell FieldType.boolean (res, σ)) (hf : X13_isCell E σ l0 l1 l2 = some res) (hw : gW E D A s σ H locs) (hl : lv_has ls 3 [(0, .ref l0), (1, .int l1), (2, .int l2)]) : W p l e R s m args below meth c H locs cells slots Q (F0 m 0 ls []) := by
  have hC0 := hC
  obtain ⟨hx, hb, hml, hown, hts, -⟩ := hC0
  unfold X13_isCell at hf
  refine lv_aload_n hx hb dX13_isCell_0 rfl (lv_at hl 0 rfl) ?_
  refine lv_iload_n hx hb dX13_isCell_1 rfl (lv_at hl 1 rfl) ?_
  obtain ⟨_, h3, hf⟩ := ob_some hf
  obtain ⟨x1, h2, hf⟩ := ob_some hf
  refine gg_cVI (As := [.int l1]) hC hw (X13_isColumn_M l E D A h2) h3 rfl g_ml_X13_112 hd_X13_isColumn (Nat.le_of_ble_eq_true rfl) (Nat.le_of_ble_eq_true rfl) hl.1 rfl (Nat.le_of_ble_eq_true rfl) dX13_isCell_2 (fun H locs cells slots hw => ?_)
  refine lv_if_eq (tgt := 20) hx hb dX13_isCell_5 (by decide) (fun c8 => ?_) (fun c8 => ?_)
  · replace hf := (if_pos c8).symm.trans hf
    exact X13_isCell_20_W hC hQ hf hw (lv_sub hl [] rfl)
  · replace hf := (if_neg c8).symm.trans hf
    refine lv_aload_n hx hb dX13_isCell_8 rfl (lv_at hl 0 rfl) ?_
    refine lv_iload_n hx hb dX13_isCell_9 rfl (lv_at hl 2 rfl) ?_
    obtain ⟨_, h6, hf⟩ := ob_some hf
    obtain ⟨x4, h5, hf⟩ := ob_some hf
    refine gg_cVI (As := [.int l2]) hC hw (X13_isRow_M l E D A h5) h6 rfl g_ml_X13_127 hd_X13_isRow (Nat.le_of_ble_eq_true rfl) (Nat.le_of_ble_eq_true rfl) hl.1 rfl (Nat.le_of_ble_eq_true rfl) dX13_isCell_10 (fun H locs cells slots hw => ?_)
    refine lv_if_eq (tgt := 20) hx hb dX13_isCell_13 (by decide) (fun c7 => ?_) (fun c7 => ?_)
    · replace hf := (if_pos c7).symm.trans hf
      exact X13_isCell_20_W hC hQ hf hw (lv_sub hl [] rfl)
    · replace hf := (if_neg c7).symm.trans hf
      refine lv_iconst (v := 1) hx hb dX13_isCell_16 (by decide) ?_
      refine lv_goto (tgt := 21) hx hb dX13_isCell_17 (by decide) ?_
      cases hf
      exact hQ _ _ _ _ _ _ dX13_isCell_21 gz1 hw

def X13_isCell_f (E : gE) (σ : gS) (l0 : Nat) (l1 : Int32) (l2 : Int32) : Option Int32 := X13_isCell E σ l0 l1 l2
set_option maxRecDepth 100000 in
theorem X13_isCell_M (l : Launch) (E : gE) (D : va_G) (A : Nat → Prop) {l0 : Nat} {l1 : Int32} {l2 : Int32} {σ : gS} {res : Int32} (hf : X13_isCell_f E σ l0 l1 l2 = some res) : gCI l E D A yX13_isCell cX13_isCell 3 2 43 (some FieldType.boolean) [.ref l0, .int l1, .int l2] σ (res, σ) := by
  refine gg_entI (own := RX13) (nm := "isCell") (ty := FieldType.boolean) (by decide +kernel) rfl rfl (Nat.le_of_ble_eq_true rfl) rfl ?_
  intro p e R s m args below meth c Q ls hC hw hQ hl
  have hl : lv_has ls 3 [(0, .ref l0), (1, .int l1), (2, .int l2)] := hl
  exact X13_isCell_W hC hQ hf hw hl

def X13_value (E : gE) (l0 : Nat) (l1 : Int32) (l2 : Int32) (σ : gS) : Option (Int32 × gS) :=
  ob (gcl σ l0 11) fun _ =>
  ob (X13_isCell_f E σ l0 l1 l2) fun x1 =>
  ob (gcl σ l0 11) fun _ =>
  ob (X13_lacks_f E l0 x1 σ) fun x4 =>
  if x4.1 = 0 then
    ob (gcl x4.2 l0 11) fun _ =>
    ob (X13_at_f E x4.2 l0 l1 l2) fun x7 =>
    some (x7, x4.2)
  else
    some ((0 : Int32), x4.2)
set_option maxHeartbeats 4000000 in
set_option maxRecDepth 100000 in
theorem X13_value_W {σ : gS} {l0 : Nat} {l1 : Int32} {l2 : Int32} {res : (Int32 × gS)} {ls : Array Slot} (hC : gC E D A p R s m args meth c cX13_value 3 RX13 "value" 3 65) (hQ : gQI E D A p l e R s m args below meth c Q cX13_value FieldType.int res) (hf : X13_value E l0 l1 l2 σ = some res) (hw : gW E D A s σ H locs) (hl : lv_has ls 3 [(0, .ref l0), (1, .int l1), (2, .int l2)]) : W p l e R s m args below meth c H locs cells slots Q (F0 m 0 ls []) := by
  have hC0 := hC
  obtain ⟨hx, hb, hml, hown, hts, -⟩ := hC0
  unfold X13_value at hf
  refine lv_aload_n hx hb dX13_value_0 rfl (lv_at hl 0 rfl) ?_
  refine lv_aload_n hx hb dX13_value_1 rfl (lv_at hl 0 rfl) ?_
  refine lv_iload_n hx hb dX13_value_2 rfl (lv_at hl 1 rfl) ?_
  refine lv_iload_n hx hb dX13_value_3 rfl (lv_at hl 2 rfl) ?_
  obtain ⟨_, h3, hf⟩ := ob_some hf
  obtain ⟨x1, h2, hf⟩ := ob_some hf
  refine gg_cVI (As := [.int l1, .int l2]) hC hw (X13_isCell_M l E D A h2) h3 rfl g_ml_X13_130 hd_X13_isCell (Nat.le_of_ble_eq_true rfl) (Nat.le_of_ble_eq_true rfl) hl.1 rfl (Nat.le_of_ble_eq_true rfl) dX13_value_4 (fun H locs cells slots hw => ?_)
  obtain ⟨_, h6, hf⟩ := ob_some hf
  obtain ⟨x4, h5, hf⟩ := ob_some hf
  refine gg_cVI (As := [.int x1]) hC hw (X13_lacks_M l E D A h5) h6 rfl g_ml_X13_88 hd_X13_lacks (Nat.le_of_ble_eq_true rfl) (Nat.le_of_ble_eq_true rfl) hl.1 rfl (Nat.le_of_ble_eq_true rfl) dX13_value_7 (fun H locs cells slots hw => ?_)
  refine lv_if_eq (tgt := 17) hx hb dX13_value_10 (by decide) (fun c10 => ?_) (fun c10 => ?_)
  · replace hf := (if_pos c10).symm.trans hf
    refine lv_aload_n hx hb dX13_value_17 rfl (lv_at hl 0 rfl) ?_
    refine lv_iload_n hx hb dX13_value_18 rfl (lv_at hl 1 rfl) ?_
    refine lv_iload_n hx hb dX13_value_19 rfl (lv_at hl 2 rfl) ?_
    obtain ⟨_, h9, hf⟩ := ob_some hf
    obtain ⟨x7, h8, hf⟩ := ob_some hf
    refine gg_cVI (As := [.int l1, .int l2]) hC hw (X13_at_M l E D A h8) h9 rfl g_ml_X13_118 hd_X13_at (Nat.le_of_ble_eq_true rfl) (Nat.le_of_ble_eq_true rfl) hl.1 rfl (Nat.le_of_ble_eq_true rfl) dX13_value_20 (fun H locs cells slots hw => ?_)
    cases hf
    exact hQ _ _ _ _ _ _ dX13_value_23 rfl hw
  · replace hf := (if_neg c10).symm.trans hf
    refine lv_iconst (v := 0) hx hb dX13_value_13 (by decide) ?_
    refine lv_goto (tgt := 23) hx hb dX13_value_14 (by decide) ?_
    cases hf
    exact hQ _ _ _ _ _ _ dX13_value_23 rfl hw

def X13_value_f (E : gE) (l0 : Nat) (l1 : Int32) (l2 : Int32) (σ : gS) : Option (Int32 × gS) := X13_value E l0 l1 l2 σ
set_option maxRecDepth 100000 in
theorem X13_value_M (l : Launch) (E : gE) (D : va_G) (A : Nat → Prop) {l0 : Nat} {l1 : Int32} {l2 : Int32} {σ : gS} {res : (Int32 × gS)} (hf : X13_value_f E l0 l1 l2 σ = some res) : gCI l E D A yX13_value cX13_value 3 3 65 (some FieldType.int) [.ref l0, .int l1, .int l2] σ res := by
  refine gg_entI (own := RX13) (nm := "value") (ty := FieldType.int) (by decide +kernel) rfl rfl (Nat.le_of_ble_eq_true rfl) rfl ?_
  intro p e R s m args below meth c Q ls hC hw hQ hl
  have hl : lv_has ls 3 [(0, .ref l0), (1, .int l1), (2, .int l2)] := hl
  exact X13_value_W hC hQ hf hw hl

def X13_code (E : gE) (l0 : Nat) (l1 : Int32) (l2 : Int32) (σ : gS) : Option (Int32 × gS) :=
  ob (gcl σ l0 11) fun _ =>
  ob (X13_isCell_f E σ l0 l1 l2) fun x1 =>
  ob (gcl σ l0 11) fun _ =>
  ob (X13_lacks_f E l0 x1 σ) fun x4 =>
  if x4.1 = 0 then
    ob (gcl x4.2 l0 11) fun _ =>
    ob (X13_codeAt_f E x4.2 l0 l1 l2) fun x7 =>
    some (x7, x4.2)
  else
    some ((0 : Int32), x4.2)
set_option maxHeartbeats 4000000 in
set_option maxRecDepth 100000 in
theorem X13_code_W {σ : gS} {l0 : Nat} {l1 : Int32} {l2 : Int32} {res : (Int32 × gS)} {ls : Array Slot} (hC : gC E D A p R s m args meth c cX13_code 3 RX13 "code" 3 68) (hQ : gQI E D A p l e R s m args below meth c Q cX13_code FieldType.int res) (hf : X13_code E l0 l1 l2 σ = some res) (hw : gW E D A s σ H locs) (hl : lv_has ls 3 [(0, .ref l0), (1, .int l1), (2, .int l2)]) : W p l e R s m args below meth c H locs cells slots Q (F0 m 0 ls []) := by
  have hC0 := hC
  obtain ⟨hx, hb, hml, hown, hts, -⟩ := hC0
  unfold X13_code at hf
  refine lv_aload_n hx hb dX13_code_0 rfl (lv_at hl 0 rfl) ?_
  refine lv_aload_n hx hb dX13_code_1 rfl (lv_at hl 0 rfl) ?_
  refine lv_iload_n hx hb dX13_code_2 rfl (lv_at hl 1 rfl) ?_
  refine lv_iload_n hx hb dX13_code_3 rfl (lv_at hl 2 rfl) ?_
  obtain ⟨_, h3, hf⟩ := ob_some hf
  obtain ⟨x1, h2, hf⟩ := ob_some hf
  refine gg_cVI (As := [.int l1, .int l2]) hC hw (X13_isCell_M l E D A h2) h3 rfl g_ml_X13_130 hd_X13_isCell (Nat.le_of_ble_eq_true rfl) (Nat.le_of_ble_eq_true rfl) hl.1 rfl (Nat.le_of_ble_eq_true rfl) dX13_code_4 (fun H locs cells slots hw => ?_)
  obtain ⟨_, h6, hf⟩ := ob_some hf
  obtain ⟨x4, h5, hf⟩ := ob_some hf
  refine gg_cVI (As := [.int x1]) hC hw (X13_lacks_M l E D A h5) h6 rfl g_ml_X13_88 hd_X13_lacks (Nat.le_of_ble_eq_true rfl) (Nat.le_of_ble_eq_true rfl) hl.1 rfl (Nat.le_of_ble_eq_true rfl) dX13_code_7 (fun H locs cells slots hw => ?_)
  refine lv_if_eq (tgt := 17) hx hb dX13_code_10 (by decide) (fun c10 => ?_) (fun c10 => ?_)
  · replace hf := (if_pos c10).symm.trans hf
    refine lv_aload_n hx hb dX13_code_17 rfl (lv_at hl 0 rfl) ?_
    refine lv_iload_n hx hb dX13_code_18 rfl (lv_at hl 1 rfl) ?_
    refine lv_iload_n hx hb dX13_code_19 rfl (lv_at hl 2 rfl) ?_
    obtain ⟨_, h9, hf⟩ := ob_some hf
    obtain ⟨x7, h8, hf⟩ := ob_some hf
    refine gg_cVI (As := [.int l1, .int l2]) hC hw (X13_codeAt_M l E D A h8) h9 rfl g_ml_X13_133 hd_X13_codeAt (Nat.le_of_ble_eq_true rfl) (Nat.le_of_ble_eq_true rfl) hl.1 rfl (Nat.le_of_ble_eq_true rfl) dX13_code_20 (fun H locs cells slots hw => ?_)
    cases hf
    exact hQ _ _ _ _ _ _ dX13_code_23 rfl hw
  · replace hf := (if_neg c10).symm.trans hf
    refine lv_iconst (v := 0) hx hb dX13_code_13 (by decide) ?_
    refine lv_goto (tgt := 23) hx hb dX13_code_14 (by decide) ?_
    cases hf
    exact hQ _ _ _ _ _ _ dX13_code_23 rfl hw

def X13_code_f (E : gE) (l0 : Nat) (l1 : Int32) (l2 : Int32) (σ : gS) : Option (Int32 × gS) := X13_code E l0 l1 l2 σ
set_option maxRecDepth 100000 in
theorem X13_code_M (l : Launch) (E : gE) (D : va_G) (A : Nat → Prop) {l0 : Nat} {l1 : Int32} {l2 : Int32} {σ : gS} {res : (Int32 × gS)} (hf : X13_code_f E l0 l1 l2 σ = some res) : gCI l E D A yX13_code cX13_code 3 3 68 (some FieldType.int) [.ref l0, .int l1, .int l2] σ res := by
  refine gg_entI (own := RX13) (nm := "code") (ty := FieldType.int) (by decide +kernel) rfl rfl (Nat.le_of_ble_eq_true rfl) rfl ?_
  intro p e R s m args below meth c Q ls hC hw hQ hl
  have hl : lv_has ls 3 [(0, .ref l0), (1, .int l1), (2, .int l2)] := hl
  exact X13_code_W hC hQ hf hw hl

def X13_dictionarySize (E : gE) (l0 : Nat) (l1 : Int32) (σ : gS) : Option (Int32 × gS) :=
  ob (gcl σ l0 11) fun _ =>
  ob (X13_isColumn_f E σ l0 l1) fun x1 =>
  ob (gcl σ l0 11) fun _ =>
  ob (X13_lacks_f E l0 x1 σ) fun x4 =>
  if x4.1 = 0 then
    ob (gcl x4.2 l0 11) fun _ =>
    ob (X13_sizeIn_f E x4.2 l0 l1) fun x7 =>
    some (x7, x4.2)
  else
    some ((0 : Int32), x4.2)
set_option maxHeartbeats 4000000 in
set_option maxRecDepth 100000 in
theorem X13_dictionarySize_W {σ : gS} {l0 : Nat} {l1 : Int32} {res : (Int32 × gS)} {ls : Array Slot} (hC : gC E D A p R s m args meth c cX13_dictionarySize 2 RX13 "dictionarySize" 2 44) (hQ : gQI E D A p l e R s m args below meth c Q cX13_dictionarySize FieldType.int res) (hf : X13_dictionarySize E l0 l1 σ = some res) (hw : gW E D A s σ H locs) (hl : lv_has ls 2 [(0, .ref l0), (1, .int l1)]) : W p l e R s m args below meth c H locs cells slots Q (F0 m 0 ls []) := by
  have hC0 := hC
  obtain ⟨hx, hb, hml, hown, hts, -⟩ := hC0
  unfold X13_dictionarySize at hf
  refine lv_aload_n hx hb dX13_dictionarySize_0 rfl (lv_at hl 0 rfl) ?_
  refine lv_aload_n hx hb dX13_dictionarySize_1 rfl (lv_at hl 0 rfl) ?_
  refine lv_iload_n hx hb dX13_dictionarySize_2 rfl (lv_at hl 1 rfl) ?_
  obtain ⟨_, h3, hf⟩ := ob_some hf
  obtain ⟨x1, h2, hf⟩ := ob_some hf
  refine gg_cVI (As := [.int l1]) hC hw (X13_isColumn_M l E D A h2) h3 rfl g_ml_X13_112 hd_X13_isColumn (Nat.le_of_ble_eq_true rfl) (Nat.le_of_ble_eq_true rfl) hl.1 rfl (Nat.le_of_ble_eq_true rfl) dX13_dictionarySize_3 (fun H locs cells slots hw => ?_)
  obtain ⟨_, h6, hf⟩ := ob_some hf
  obtain ⟨x4, h5, hf⟩ := ob_some hf
  refine gg_cVI (As := [.int x1]) hC hw (X13_lacks_M l E D A h5) h6 rfl g_ml_X13_88 hd_X13_lacks (Nat.le_of_ble_eq_true rfl) (Nat.le_of_ble_eq_true rfl) hl.1 rfl (Nat.le_of_ble_eq_true rfl) dX13_dictionarySize_6 (fun H locs cells slots hw => ?_)
  refine lv_if_eq (tgt := 16) hx hb dX13_dictionarySize_9 (by decide) (fun c10 => ?_) (fun c10 => ?_)
  · replace hf := (if_pos c10).symm.trans hf
    refine lv_aload_n hx hb dX13_dictionarySize_16 rfl (lv_at hl 0 rfl) ?_
    refine lv_iload_n hx hb dX13_dictionarySize_17 rfl (lv_at hl 1 rfl) ?_
    obtain ⟨_, h9, hf⟩ := ob_some hf
    obtain ⟨x7, h8, hf⟩ := ob_some hf
    refine gg_cVI (As := [.int l1]) hC hw (X13_sizeIn_M l E D A h8) h9 rfl g_ml_X13_115 hd_X13_sizeIn (Nat.le_of_ble_eq_true rfl) (Nat.le_of_ble_eq_true rfl) hl.1 rfl (Nat.le_of_ble_eq_true rfl) dX13_dictionarySize_18 (fun H locs cells slots hw => ?_)
    cases hf
    exact hQ _ _ _ _ _ _ dX13_dictionarySize_21 rfl hw
  · replace hf := (if_neg c10).symm.trans hf
    refine lv_iconst (v := 0) hx hb dX13_dictionarySize_12 (by decide) ?_
    refine lv_goto (tgt := 21) hx hb dX13_dictionarySize_13 (by decide) ?_
    cases hf
    exact hQ _ _ _ _ _ _ dX13_dictionarySize_21 rfl hw

def X13_dictionarySize_f (E : gE) (l0 : Nat) (l1 : Int32) (σ : gS) : Option (Int32 × gS) := X13_dictionarySize E l0 l1 σ
set_option maxRecDepth 100000 in
theorem X13_dictionarySize_M (l : Launch) (E : gE) (D : va_G) (A : Nat → Prop) {l0 : Nat} {l1 : Int32} {σ : gS} {res : (Int32 × gS)} (hf : X13_dictionarySize_f E l0 l1 σ = some res) : gCI l E D A yX13_dictionarySize cX13_dictionarySize 2 2 44 (some FieldType.int) [.ref l0, .int l1] σ res := by
  refine gg_entI (own := RX13) (nm := "dictionarySize") (ty := FieldType.int) (by decide +kernel) rfl rfl (Nat.le_of_ble_eq_true rfl) rfl ?_
  intro p e R s m args below meth c Q ls hC hw hQ hl
  have hl : lv_has ls 2 [(0, .ref l0), (1, .int l1)] := hl
  exact X13_dictionarySize_W hC hQ hf hw hl

def X13_dictionaryValue (E : gE) (l0 : Nat) (l1 : Int32) (l2 : Int32) (σ : gS) : Option (Int32 × gS) :=
  ob (gcl σ l0 11) fun _ =>
  ob (X13_isCode_f E σ l0 l1 l2) fun x1 =>
  ob (gcl σ l0 11) fun _ =>
  ob (X13_lacks_f E l0 x1 σ) fun x4 =>
  if x4.1 = 0 then
    ob (gcl x4.2 l0 11) fun _ =>
    ob (X13_valueOf_f E x4.2 l0 l1 l2) fun x7 =>
    some (x7, x4.2)
  else
    some ((0 : Int32), x4.2)
set_option maxHeartbeats 4000000 in
set_option maxRecDepth 100000 in
theorem X13_dictionaryValue_W {σ : gS} {l0 : Nat} {l1 : Int32} {l2 : Int32} {res : (Int32 × gS)} {ls : Array Slot} (hC : gC E D A p R s m args meth c cX13_dictionaryValue 3 RX13 "dictionaryValue" 3 66) (hQ : gQI E D A p l e R s m args below meth c Q cX13_dictionaryValue FieldType.int res) (hf : X13_dictionaryValue E l0 l1 l2 σ = some res) (hw : gW E D A s σ H locs) (hl : lv_has ls 3 [(0, .ref l0), (1, .int l1), (2, .int l2)]) : W p l e R s m args below meth c H locs cells slots Q (F0 m 0 ls []) := by
  have hC0 := hC
  obtain ⟨hx, hb, hml, hown, hts, -⟩ := hC0
  unfold X13_dictionaryValue at hf
  refine lv_aload_n hx hb dX13_dictionaryValue_0 rfl (lv_at hl 0 rfl) ?_
  refine lv_aload_n hx hb dX13_dictionaryValue_1 rfl (lv_at hl 0 rfl) ?_
  refine lv_iload_n hx hb dX13_dictionaryValue_2 rfl (lv_at hl 1 rfl) ?_
  refine lv_iload_n hx hb dX13_dictionaryValue_3 rfl (lv_at hl 2 rfl) ?_
  obtain ⟨_, h3, hf⟩ := ob_some hf
  obtain ⟨x1, h2, hf⟩ := ob_some hf
  refine gg_cVI (As := [.int l1, .int l2]) hC hw (X13_isCode_M l E D A h2) h3 rfl g_ml_X13_136 hd_X13_isCode (Nat.le_of_ble_eq_true rfl) (Nat.le_of_ble_eq_true rfl) hl.1 rfl (Nat.le_of_ble_eq_true rfl) dX13_dictionaryValue_4 (fun H locs cells slots hw => ?_)
  obtain ⟨_, h6, hf⟩ := ob_some hf
  obtain ⟨x4, h5, hf⟩ := ob_some hf
  refine gg_cVI (As := [.int x1]) hC hw (X13_lacks_M l E D A h5) h6 rfl g_ml_X13_88 hd_X13_lacks (Nat.le_of_ble_eq_true rfl) (Nat.le_of_ble_eq_true rfl) hl.1 rfl (Nat.le_of_ble_eq_true rfl) dX13_dictionaryValue_7 (fun H locs cells slots hw => ?_)
  refine lv_if_eq (tgt := 17) hx hb dX13_dictionaryValue_10 (by decide) (fun c10 => ?_) (fun c10 => ?_)
  · replace hf := (if_pos c10).symm.trans hf
    refine lv_aload_n hx hb dX13_dictionaryValue_17 rfl (lv_at hl 0 rfl) ?_
    refine lv_iload_n hx hb dX13_dictionaryValue_18 rfl (lv_at hl 1 rfl) ?_
    refine lv_iload_n hx hb dX13_dictionaryValue_19 rfl (lv_at hl 2 rfl) ?_
    obtain ⟨_, h9, hf⟩ := ob_some hf
    obtain ⟨x7, h8, hf⟩ := ob_some hf
    refine gg_cVI (As := [.int l1, .int l2]) hC hw (X13_valueOf_M l E D A h8) h9 rfl g_ml_X13_139 hd_X13_valueOf (Nat.le_of_ble_eq_true rfl) (Nat.le_of_ble_eq_true rfl) hl.1 rfl (Nat.le_of_ble_eq_true rfl) dX13_dictionaryValue_20 (fun H locs cells slots hw => ?_)
    cases hf
    exact hQ _ _ _ _ _ _ dX13_dictionaryValue_23 rfl hw
  · replace hf := (if_neg c10).symm.trans hf
    refine lv_iconst (v := 0) hx hb dX13_dictionaryValue_13 (by decide) ?_
    refine lv_goto (tgt := 23) hx hb dX13_dictionaryValue_14 (by decide) ?_
    cases hf
    exact hQ _ _ _ _ _ _ dX13_dictionaryValue_23 rfl hw

def X13_dictionaryValue_f (E : gE) (l0 : Nat) (l1 : Int32) (l2 : Int32) (σ : gS) : Option (Int32 × gS) := X13_dictionaryValue E l0 l1 l2 σ
set_option maxRecDepth 100000 in
theorem X13_dictionaryValue_M (l : Launch) (E : gE) (D : va_G) (A : Nat → Prop) {l0 : Nat} {l1 : Int32} {l2 : Int32} {σ : gS} {res : (Int32 × gS)} (hf : X13_dictionaryValue_f E l0 l1 l2 σ = some res) : gCI l E D A yX13_dictionaryValue cX13_dictionaryValue 3 3 66 (some FieldType.int) [.ref l0, .int l1, .int l2] σ res := by
  refine gg_entI (own := RX13) (nm := "dictionaryValue") (ty := FieldType.int) (by decide +kernel) rfl rfl (Nat.le_of_ble_eq_true rfl) rfl ?_
  intro p e R s m args below meth c Q ls hC hw hQ hl
  have hl : lv_has ls 3 [(0, .ref l0), (1, .int l1), (2, .int l2)] := hl
  exact X13_dictionaryValue_W hC hQ hf hw hl

def X13_findCode (E : gE) (l0 : Nat) (l1 : Int32) (l2 : Int32) (σ : gS) : Option (Int32 × gS) :=
  ob (gcl σ l0 11) fun _ =>
  ob (X13_isColumn_f E σ l0 l1) fun x1 =>
  ob (gcl σ l0 11) fun _ =>
  ob (X13_lacks_f E l0 x1 σ) fun x4 =>
  if x4.1 = 0 then
    ob (gcl x4.2 l0 11) fun _ =>
    ob (X13_has_f E x4.2 l0 l1 l2) fun x7 =>
    if x7 = 0 then
      some ((-1 : Int32), x4.2)
    else
      ob (gcl x4.2 l0 11) fun _ =>
      ob (X13_less_f E x4.2 l0 l1 l2) fun x10 =>
      some (x10, x4.2)
  else
    some ((0 : Int32), x4.2)
set_option maxHeartbeats 4000000 in
set_option maxRecDepth 100000 in
theorem X13_findCode_W {σ : gS} {l0 : Nat} {l1 : Int32} {l2 : Int32} {res : (Int32 × gS)} {ls : Array Slot} (hC : gC E D A p R s m args meth c cX13_findCode 3 RX13 "findCode" 3 65) (hQ : gQI E D A p l e R s m args below meth c Q cX13_findCode FieldType.int res) (hf : X13_findCode E l0 l1 l2 σ = some res) (hw : gW E D A s σ H locs) (hl : lv_has ls 3 [(0, .ref l0), (1, .int l1), (2, .int l2)]) : W p l e R s m args below meth c H locs cells slots Q (F0 m 0 ls []) := by
  have hC0 := hC
  obtain ⟨hx, hb, hml, hown, hts, -⟩ := hC0
  unfold X13_findCode at hf
  refine lv_aload_n hx hb dX13_findCode_0 rfl (lv_at hl 0 rfl) ?_
  refine lv_aload_n hx hb dX13_findCode_1 rfl (lv_at hl 0 rfl) ?_
  refine lv_iload_n hx hb dX13_findCode_2 rfl (lv_at hl 1 rfl) ?_
  obtain ⟨_, h3, hf⟩ := ob_some hf
  obtain ⟨x1, h2, hf⟩ := ob_some hf
  refine gg_cVI (As := [.int l1]) hC hw (X13_isColumn_M l E D A h2) h3 rfl g_ml_X13_112 hd_X13_isColumn (Nat.le_of_ble_eq_true rfl) (Nat.le_of_ble_eq_true rfl) hl.1 rfl (Nat.le_of_ble_eq_true rfl) dX13_findCode_3 (fun H locs cells slots hw => ?_)
  obtain ⟨_, h6, hf⟩ := ob_some hf
  obtain ⟨x4, h5, hf⟩ := ob_some hf
  refine gg_cVI (As := [.int x1]) hC hw (X13_lacks_M l E D A h5) h6 rfl g_ml_X13_88 hd_X13_lacks (Nat.le_of_ble_eq_true rfl) (Nat.le_of_ble_eq_true rfl) hl.1 rfl (Nat.le_of_ble_eq_true rfl) dX13_findCode_6 (fun H locs cells slots hw => ?_)
  refine lv_if_eq (tgt := 14) hx hb dX13_findCode_9 (by decide) (fun c14 => ?_) (fun c14 => ?_)
  · replace hf := (if_pos c14).symm.trans hf
    refine lv_aload_n hx hb dX13_findCode_14 rfl (lv_at hl 0 rfl) ?_
    refine lv_iload_n hx hb dX13_findCode_15 rfl (lv_at hl 1 rfl) ?_
    refine lv_iload_n hx hb dX13_findCode_16 rfl (lv_at hl 2 rfl) ?_
    obtain ⟨_, h9, hf⟩ := ob_some hf
    obtain ⟨x7, h8, hf⟩ := ob_some hf
    refine gg_cVI (As := [.int l1, .int l2]) hC hw (X13_has_M l E D A h8) h9 rfl g_ml_X13_142 hd_X13_has (Nat.le_of_ble_eq_true rfl) (Nat.le_of_ble_eq_true rfl) hl.1 rfl (Nat.le_of_ble_eq_true rfl) dX13_findCode_17 (fun H locs cells slots hw => ?_)
    refine lv_if_eq (tgt := 32) hx hb dX13_findCode_20 (by decide) (fun c13 => ?_) (fun c13 => ?_)
    · replace hf := (if_pos c13).symm.trans hf
      refine lv_iconst (v := -1) hx hb dX13_findCode_32 (by decide) ?_
      cases hf
      exact hQ _ _ _ _ _ _ dX13_findCode_33 rfl hw
    · replace hf := (if_neg c13).symm.trans hf
      refine lv_aload_n hx hb dX13_findCode_23 rfl (lv_at hl 0 rfl) ?_
      refine lv_iload_n hx hb dX13_findCode_24 rfl (lv_at hl 1 rfl) ?_
      refine lv_iload_n hx hb dX13_findCode_25 rfl (lv_at hl 2 rfl) ?_
      obtain ⟨_, h12, hf⟩ := ob_some hf
      obtain ⟨x10, h11, hf⟩ := ob_some hf
      refine gg_cVI (As := [.int l1, .int l2]) hC hw (X13_less_M l E D A h11) h12 rfl g_ml_X13_121 hd_X13_less (Nat.le_of_ble_eq_true rfl) (Nat.le_of_ble_eq_true rfl) hl.1 rfl (Nat.le_of_ble_eq_true rfl) dX13_findCode_26 (fun H locs cells slots hw => ?_)
      refine lv_goto (tgt := 33) hx hb dX13_findCode_29 (by decide) ?_
      cases hf
      exact hQ _ _ _ _ _ _ dX13_findCode_33 rfl hw
  · replace hf := (if_neg c14).symm.trans hf
    refine lv_iconst (v := 0) hx hb dX13_findCode_12 (by decide) ?_
    cases hf
    exact hQ _ _ _ _ _ _ dX13_findCode_13 rfl hw

def X13_findCode_f (E : gE) (l0 : Nat) (l1 : Int32) (l2 : Int32) (σ : gS) : Option (Int32 × gS) := X13_findCode E l0 l1 l2 σ
set_option maxRecDepth 100000 in
theorem X13_findCode_M (l : Launch) (E : gE) (D : va_G) (A : Nat → Prop) {l0 : Nat} {l1 : Int32} {l2 : Int32} {σ : gS} {res : (Int32 × gS)} (hf : X13_findCode_f E l0 l1 l2 σ = some res) : gCI l E D A yX13_findCode cX13_findCode 3 3 65 (some FieldType.int) [.ref l0, .int l1, .int l2] σ res := by
  refine gg_entI (own := RX13) (nm := "findCode") (ty := FieldType.int) (by decide +kernel) rfl rfl (Nat.le_of_ble_eq_true rfl) rfl ?_
  intro p e R s m args below meth c Q ls hC hw hQ hl
  have hl : lv_has ls 3 [(0, .ref l0), (1, .int l1), (2, .int l2)] := hl
  exact X13_findCode_W hC hQ hf hw hl

def X13_frequency (E : gE) (l0 : Nat) (l1 : Int32) (l2 : Int32) (σ : gS) : Option (Int32 × gS) :=
  ob (gcl σ l0 11) fun _ =>
  ob (X13_isCode_f E σ l0 l1 l2) fun x1 =>
  ob (gcl σ l0 11) fun _ =>
  ob (X13_lacks_f E l0 x1 σ) fun x4 =>
  if x4.1 = 0 then
    ob (gcl x4.2 l0 11) fun _ =>
    ob (X13_valueOf_f E x4.2 l0 l1 l2) fun x7 =>
    ob (gcl x4.2 l0 11) fun _ =>
    ob (X13_countValue_f E x4.2 l0 l1 x7) fun x10 =>
    some (x10, x4.2)
  else
    some ((0 : Int32), x4.2)
set_option maxHeartbeats 4000000 in
set_option maxRecDepth 100000 in
theorem X13_frequency_W {σ : gS} {l0 : Nat} {l1 : Int32} {l2 : Int32} {res : (Int32 × gS)} {ls : Array Slot} (hC : gC E D A p R s m args meth c cX13_frequency 3 RX13 "frequency" 3 67) (hQ : gQI E D A p l e R s m args below meth c Q cX13_frequency FieldType.int res) (hf : X13_frequency E l0 l1 l2 σ = some res) (hw : gW E D A s σ H locs) (hl : lv_has ls 3 [(0, .ref l0), (1, .int l1), (2, .int l2)]) : W p l e R s m args below meth c H locs cells slots Q (F0 m 0 ls []) := by
  have hC0 := hC
  obtain ⟨hx, hb, hml, hown, hts, -⟩ := hC0
  unfold X13_frequency at hf
  refine lv_aload_n hx hb dX13_frequency_0 rfl (lv_at hl 0 rfl) ?_
  refine lv_aload_n hx hb dX13_frequency_1 rfl (lv_at hl 0 rfl) ?_
  refine lv_iload_n hx hb dX13_frequency_2 rfl (lv_at hl 1 rfl) ?_
  refine lv_iload_n hx hb dX13_frequency_3 rfl (lv_at hl 2 rfl) ?_
  obtain ⟨_, h3, hf⟩ := ob_some hf
  obtain ⟨x1, h2, hf⟩ := ob_some hf
  refine gg_cVI (As := [.int l1, .int l2]) hC hw (X13_isCode_M l E D A h2) h3 rfl g_ml_X13_136 hd_X13_isCode (Nat.le_of_ble_eq_true rfl) (Nat.le_of_ble_eq_true rfl) hl.1 rfl (Nat.le_of_ble_eq_true rfl) dX13_frequency_4 (fun H locs cells slots hw => ?_)
  obtain ⟨_, h6, hf⟩ := ob_some hf
  obtain ⟨x4, h5, hf⟩ := ob_some hf
  refine gg_cVI (As := [.int x1]) hC hw (X13_lacks_M l E D A h5) h6 rfl g_ml_X13_88 hd_X13_lacks (Nat.le_of_ble_eq_true rfl) (Nat.le_of_ble_eq_true rfl) hl.1 rfl (Nat.le_of_ble_eq_true rfl) dX13_frequency_7 (fun H locs cells slots hw => ?_)
  refine lv_if_eq (tgt := 17) hx hb dX13_frequency_10 (by decide) (fun c13 => ?_) (fun c13 => ?_)
  · replace hf := (if_pos c13).symm.trans hf
    refine lv_aload_n hx hb dX13_frequency_17 rfl (lv_at hl 0 rfl) ?_
    refine lv_iload_n hx hb dX13_frequency_18 rfl (lv_at hl 1 rfl) ?_
    refine lv_aload_n hx hb dX13_frequency_19 rfl (lv_at hl 0 rfl) ?_
    refine lv_iload_n hx hb dX13_frequency_20 rfl (lv_at hl 1 rfl) ?_
    refine lv_iload_n hx hb dX13_frequency_21 rfl (lv_at hl 2 rfl) ?_
    obtain ⟨_, h9, hf⟩ := ob_some hf
    obtain ⟨x7, h8, hf⟩ := ob_some hf
    refine gg_cVI (As := [.int l1, .int l2]) hC hw (X13_valueOf_M l E D A h8) h9 rfl g_ml_X13_139 hd_X13_valueOf (Nat.le_of_ble_eq_true rfl) (Nat.le_of_ble_eq_true rfl) hl.1 rfl (Nat.le_of_ble_eq_true rfl) dX13_frequency_22 (fun H locs cells slots hw => ?_)
    obtain ⟨_, h12, hf⟩ := ob_some hf
    obtain ⟨x10, h11, hf⟩ := ob_some hf
    refine gg_cVI (As := [.int l1, .int x7]) hC hw (X13_countValue_M l E D A h11) h12 rfl g_ml_X13_148 hd_X13_countValue (Nat.le_of_ble_eq_true rfl) (Nat.le_of_ble_eq_true rfl) hl.1 rfl (Nat.le_of_ble_eq_true rfl) dX13_frequency_25 (fun H locs cells slots hw => ?_)
    cases hf
    exact hQ _ _ _ _ _ _ dX13_frequency_28 rfl hw
  · replace hf := (if_neg c13).symm.trans hf
    refine lv_iconst (v := 0) hx hb dX13_frequency_13 (by decide) ?_
    refine lv_goto (tgt := 28) hx hb dX13_frequency_14 (by decide) ?_
    cases hf
    exact hQ _ _ _ _ _ _ dX13_frequency_28 rfl hw

def X13_frequency_f (E : gE) (l0 : Nat) (l1 : Int32) (l2 : Int32) (σ : gS) : Option (Int32 × gS) := X13_frequency E l0 l1 l2 σ
set_option maxRecDepth 100000 in
theorem X13_frequency_M (l : Launch) (E : gE) (D : va_G) (A : Nat → Prop) {l0 : Nat} {l1 : Int32} {l2 : Int32} {σ : gS} {res : (Int32 × gS)} (hf : X13_frequency_f E l0 l1 l2 σ = some res) : gCI l E D A yX13_frequency cX13_frequency 3 3 67 (some FieldType.int) [.ref l0, .int l1, .int l2] σ res := by
  refine gg_entI (own := RX13) (nm := "frequency") (ty := FieldType.int) (by decide +kernel) rfl rfl (Nat.le_of_ble_eq_true rfl) rfl ?_
  intro p e R s m args below meth c Q ls hC hw hQ hl
  have hl : lv_has ls 3 [(0, .ref l0), (1, .int l1), (2, .int l2)] := hl
  exact X13_frequency_W hC hQ hf hw hl

def X13_commonestCode_104 (E : gE) (r_18 : Nat → Int32 → Int32 → Int32 → gS → Option (Int32 × gS)) (l0 : Nat) (l1 : Int32) (l3 : Int32) (s0 : Int32) (σ : gS) : Option (Int32 × gS) :=
  r_18 l0 l1 s0 (l3 + 1) σ
set_option maxHeartbeats 4000000 in
set_option maxRecDepth 100000 in
theorem X13_commonestCode_104_W {σ : gS} {l0 : Nat} {l1 : Int32} {l3 : Int32} {s0 : Int32} {res : (Int32 × gS)} {ls : Array Slot} (hC : gC E D A p R s m args meth c cX13_commonestCode 6 RX13 "commonestCode" 3 68) (hQ : gQI E D A p l e R s m args below meth c Q cX13_commonestCode FieldType.int res) {r_18 : Nat → Int32 → Int32 → Int32 → gS → Option (Int32 × gS)} (h_18 : ∀ {l0 : Nat} {l1 : Int32} {l2 : Int32} {l3 : Int32} {σ : gS} {H : Heap} {locs : List Loc} {cells slots : Nat} {ls : Array Slot}, r_18 l0 l1 l2 l3 σ = some res → gW E D A s σ H locs → lv_has ls 6 [(0, .ref l0), (1, .int l1), (2, .int l2), (3, .int l3)] → W p l e R s m args below meth c H locs cells slots Q (F0 m 18 ls [])) (hf : X13_commonestCode_104 E r_18 l0 l1 l3 s0 σ = some res) (hw : gW E D A s σ H locs) (hl : lv_has ls 6 [(0, .ref l0), (1, .int l1), (3, .int l3)]) : W p l e R s m args below meth c H locs cells slots Q (F0 m 104 ls [.int s0]) := by
  have hC0 := hC
  obtain ⟨hx, hb, hml, hown, hts, -⟩ := hC0
  unfold X13_commonestCode_104 at hf
  refine lv_istore_n (lv' := [(2, .int s0), (0, .ref l0), (1, .int l1), (3, .int l3)]) hx hb dX13_commonestCode_104 rfl hl (by decide) rfl (fun ls hl => ?_)
  refine lv_iinc (v := (l3 + 1)) (lv' := [(3, .int (l3 + 1)), (2, .int s0), (0, .ref l0), (1, .int l1)]) hx hb dX13_commonestCode_105 hl (k := 3) rfl rfl (by decide) rfl (fun ls hl => ?_)
  refine lv_goto (tgt := 18) hx hb dX13_commonestCode_108 (by decide) ?_
  exact h_18 hf hw (lv_sub hl [2, 3, 1, 0] rfl)

def X13_commonestCode_92 (E : gE) (r_18 : Nat → Int32 → Int32 → Int32 → gS → Option (Int32 × gS)) (l0 : Nat) (l1 : Int32) (l2 : Int32) (l3 : Int32) (s0 : Int32) (σ : gS) : Option (Int32 × gS) :=
  if s0 = 0 then
    X13_commonestCode_104 E r_18 l0 l1 l3 l2 σ
  else
    X13_commonestCode_104 E r_18 l0 l1 l3 l3 σ
set_option maxHeartbeats 4000000 in
set_option maxRecDepth 100000 in
theorem X13_commonestCode_92_W {σ : gS} {l0 : Nat} {l1 : Int32} {l2 : Int32} {l3 : Int32} {s0 : Int32} {res : (Int32 × gS)} {ls : Array Slot} (hC : gC E D A p R s m args meth c cX13_commonestCode 6 RX13 "commonestCode" 3 68) (hQ : gQI E D A p l e R s m args below meth c Q cX13_commonestCode FieldType.int res) {r_18 : Nat → Int32 → Int32 → Int32 → gS → Option (Int32 × gS)} (h_18 : ∀ {l0 : Nat} {l1 : Int32} {l2 : Int32} {l3 : Int32} {σ : gS} {H : Heap} {locs : List Loc} {cells slots : Nat} {ls : Array Slot}, r_18 l0 l1 l2 l3 σ = some res → gW E D A s σ H locs → lv_has ls 6 [(0, .ref l0), (1, .int l1), (2, .int l2), (3, .int l3)] → W p l e R s m args below meth c H locs cells slots Q (F0 m 18 ls [])) (hf : X13_commonestCode_92 E r_18 l0 l1 l2 l3 s0 σ = some res) (hw : gW E D A s σ H locs) (hl : lv_has ls 6 [(0, .ref l0), (1, .int l1), (2, .int l2), (3, .int l3)]) : W p l e R s m args below meth c H locs cells slots Q (F0 m 92 ls [.int s0]) := by
  have hC0 := hC
  obtain ⟨hx, hb, hml, hown, hts, -⟩ := hC0
  unfold X13_commonestCode_92 at hf
  refine lv_istore (lv' := [(5, .int s0), (0, .ref l0), (1, .int l1), (2, .int l2), (3, .int l3)]) hx hb dX13_commonestCode_92 hl (by decide) rfl (fun ls hl => ?_)
  refine lv_iload hx hb dX13_commonestCode_94 (lv_at hl 0 rfl) ?_
  refine lv_if_eq (tgt := 103) hx hb dX13_commonestCode_96 (by decide) (fun c1 => ?_) (fun c1 => ?_)
  · replace hf := (if_pos c1).symm.trans hf
    refine lv_iload_n hx hb dX13_commonestCode_103 rfl (lv_at hl 3 rfl) ?_
    exact X13_commonestCode_104_W hC hQ h_18 hf hw (lv_sub hl [1, 2, 4] rfl)
  · replace hf := (if_neg c1).symm.trans hf
    refine lv_iload_n hx hb dX13_commonestCode_99 rfl (lv_at hl 4 rfl) ?_
    refine lv_goto (tgt := 104) hx hb dX13_commonestCode_100 (by decide) ?_
    exact X13_commonestCode_104_W hC hQ h_18 hf hw (lv_sub hl [1, 2, 4] rfl)

def X13_commonestCode_87 (E : gE) (r_18 : Nat → Int32 → Int32 → Int32 → gS → Option (Int32 × gS)) (l0 : Nat) (l1 : Int32) (l2 : Int32) (l3 : Int32) (σ : gS) : Option (Int32 × gS) :=
  X13_commonestCode_92 E r_18 l0 l1 l2 l3 (1 : Int32) σ
set_option maxHeartbeats 4000000 in
set_option maxRecDepth 100000 in
theorem X13_commonestCode_87_W {σ : gS} {l0 : Nat} {l1 : Int32} {l2 : Int32} {l3 : Int32} {res : (Int32 × gS)} {ls : Array Slot} (hC : gC E D A p R s m args meth c cX13_commonestCode 6 RX13 "commonestCode" 3 68) (hQ : gQI E D A p l e R s m args below meth c Q cX13_commonestCode FieldType.int res) {r_18 : Nat → Int32 → Int32 → Int32 → gS → Option (Int32 × gS)} (h_18 : ∀ {l0 : Nat} {l1 : Int32} {l2 : Int32} {l3 : Int32} {σ : gS} {H : Heap} {locs : List Loc} {cells slots : Nat} {ls : Array Slot}, r_18 l0 l1 l2 l3 σ = some res → gW E D A s σ H locs → lv_has ls 6 [(0, .ref l0), (1, .int l1), (2, .int l2), (3, .int l3)] → W p l e R s m args below meth c H locs cells slots Q (F0 m 18 ls [])) (hf : X13_commonestCode_87 E r_18 l0 l1 l2 l3 σ = some res) (hw : gW E D A s σ H locs) (hl : lv_has ls 6 [(0, .ref l0), (1, .int l1), (2, .int l2), (3, .int l3)]) : W p l e R s m args below meth c H locs cells slots Q (F0 m 87 ls []) := by
  have hC0 := hC
  obtain ⟨hx, hb, hml, hown, hts, -⟩ := hC0
  unfold X13_commonestCode_87 at hf
  refine lv_iconst (v := 1) hx hb dX13_commonestCode_87 (by decide) ?_
  refine lv_goto (tgt := 92) hx hb dX13_commonestCode_88 (by decide) ?_
  exact X13_commonestCode_92_W hC hQ h_18 hf hw (lv_sub hl [0, 1, 2, 3] rfl)

def X13_commonestCode_91 (E : gE) (r_18 : Nat → Int32 → Int32 → Int32 → gS → Option (Int32 × gS)) (l0 : Nat) (l1 : Int32) (l2 : Int32) (l3 : Int32) (σ : gS) : Option (Int32 × gS) :=
  X13_commonestCode_92 E r_18 l0 l1 l2 l3 (0 : Int32) σ
set_option maxHeartbeats 4000000 in
set_option maxRecDepth 100000 in
theorem X13_commonestCode_91_W {σ : gS} {l0 : Nat} {l1 : Int32} {l2 : Int32} {l3 : Int32} {res : (Int32 × gS)} {ls : Array Slot} (hC : gC E D A p R s m args meth c cX13_commonestCode 6 RX13 "commonestCode" 3 68) (hQ : gQI E D A p l e R s m args below meth c Q cX13_commonestCode FieldType.int res) {r_18 : Nat → Int32 → Int32 → Int32 → gS → Option (Int32 × gS)} (h_18 : ∀ {l0 : Nat} {l1 : Int32} {l2 : Int32} {l3 : Int32} {σ : gS} {H : Heap} {locs : List Loc} {cells slots : Nat} {ls : Array Slot}, r_18 l0 l1 l2 l3 σ = some res → gW E D A s σ H locs → lv_has ls 6 [(0, .ref l0), (1, .int l1), (2, .int l2), (3, .int l3)] → W p l e R s m args below meth c H locs cells slots Q (F0 m 18 ls [])) (hf : X13_commonestCode_91 E r_18 l0 l1 l2 l3 σ = some res) (hw : gW E D A s σ H locs) (hl : lv_has ls 6 [(0, .ref l0), (1, .int l1), (2, .int l2), (3, .int l3)]) : W p l e R s m args below meth c H locs cells slots Q (F0 m 91 ls []) := by
  have hC0 := hC
  obtain ⟨hx, hb, hml, hown, hts, -⟩ := hC0
  unfold X13_commonestCode_91 at hf
  refine lv_iconst (v := 0) hx hb dX13_commonestCode_91 (by decide) ?_
  exact X13_commonestCode_92_W hC hQ h_18 hf hw (lv_sub hl [0, 1, 2, 3] rfl)

def X13_commonestCode_60 (E : gE) (r_18 : Nat → Int32 → Int32 → Int32 → gS → Option (Int32 × gS)) (l0 : Nat) (l1 : Int32) (l2 : Int32) (l3 : Int32) (s0 : Int32) (σ : gS) : Option (Int32 × gS) :=
  if 0 < s0 then
    X13_commonestCode_87 E r_18 l0 l1 l2 l3 σ
  else
    if s0 = 0 then
      ob (gcl σ l0 11) fun _ =>
      ob (X13_at_f E σ l0 l1 l3) fun x2 =>
      ob (gcl σ l0 11) fun _ =>
      ob (X13_at_f E σ l0 l1 l2) fun x5 =>
      if x5 ≤ x2 then
        X13_commonestCode_91 E r_18 l0 l1 l2 l3 σ
      else
        X13_commonestCode_87 E r_18 l0 l1 l2 l3 σ
    else
      X13_commonestCode_91 E r_18 l0 l1 l2 l3 σ
set_option maxHeartbeats 4000000 in
set_option maxRecDepth 100000 in
theorem X13_commonestCode_60_W {σ : gS} {l0 : Nat} {l1 : Int32} {l2 : Int32} {l3 : Int32} {s0 : Int32} {res : (Int32 × gS)} {ls : Array Slot} (hC : gC E D A p R s m args meth c cX13_commonestCode 6 RX13 "commonestCode" 3 68) (hQ : gQI E D A p l e R s m args below meth c Q cX13_commonestCode FieldType.int res) {r_18 : Nat → Int32 → Int32 → Int32 → gS → Option (Int32 × gS)} (h_18 : ∀ {l0 : Nat} {l1 : Int32} {l2 : Int32} {l3 : Int32} {σ : gS} {H : Heap} {locs : List Loc} {cells slots : Nat} {ls : Array Slot}, r_18 l0 l1 l2 l3 σ = some res → gW E D A s σ H locs → lv_has ls 6 [(0, .ref l0), (1, .int l1), (2, .int l2), (3, .int l3)] → W p l e R s m args below meth c H locs cells slots Q (F0 m 18 ls [])) (hf : X13_commonestCode_60 E r_18 l0 l1 l2 l3 s0 σ = some res) (hw : gW E D A s σ H locs) (hl : lv_has ls 6 [(0, .ref l0), (1, .int l1), (2, .int l2), (3, .int l3)]) : W p l e R s m args below meth c H locs cells slots Q (F0 m 60 ls [.int s0]) := by
  have hC0 := hC
  obtain ⟨hx, hb, hml, hown, hts, -⟩ := hC0
  unfold X13_commonestCode_60 at hf
  refine lv_istore (lv' := [(4, .int s0), (0, .ref l0), (1, .int l1), (2, .int l2), (3, .int l3)]) hx hb dX13_commonestCode_60 hl (by decide) rfl (fun ls hl => ?_)
  refine lv_iload hx hb dX13_commonestCode_62 (lv_at hl 0 rfl) ?_
  refine lv_if_gt (tgt := 87) hx hb dX13_commonestCode_64 (by decide) (fun c10 => ?_) (fun c10 => ?_)
  · replace hf := (if_pos c10).symm.trans hf
    exact X13_commonestCode_87_W hC hQ h_18 hf hw (lv_sub hl [1, 2, 3, 4] rfl)
  · replace hf := (if_neg c10).symm.trans hf
    refine lv_iload hx hb dX13_commonestCode_67 (lv_at hl 0 rfl) ?_
    refine lv_if_ne (tgt := 91) hx hb dX13_commonestCode_69 (by decide) (fun c9 => ?_) (fun c9 => ?_)
    · replace hf := (if_neg c9).symm.trans hf
      exact X13_commonestCode_91_W hC hQ h_18 hf hw (lv_sub hl [1, 2, 3, 4] rfl)
    · replace hf := (if_pos c9).symm.trans hf
      refine lv_aload_n hx hb dX13_commonestCode_72 rfl (lv_at hl 1 rfl) ?_
      refine lv_iload_n hx hb dX13_commonestCode_73 rfl (lv_at hl 2 rfl) ?_
      refine lv_iload_n hx hb dX13_commonestCode_74 rfl (lv_at hl 4 rfl) ?_
      obtain ⟨_, h4, hf⟩ := ob_some hf
      obtain ⟨x2, h3, hf⟩ := ob_some hf
      refine gg_cVI (As := [.int l1, .int l3]) hC hw (X13_at_M l E D A h3) h4 rfl g_ml_X13_118 hd_X13_at (Nat.le_of_ble_eq_true rfl) (Nat.le_of_ble_eq_true rfl) hl.1 rfl (Nat.le_of_ble_eq_true rfl) dX13_commonestCode_75 (fun H locs cells slots hw => ?_)
      refine lv_aload_n hx hb dX13_commonestCode_78 rfl (lv_at hl 1 rfl) ?_
      refine lv_iload_n hx hb dX13_commonestCode_79 rfl (lv_at hl 2 rfl) ?_
      refine lv_iload_n hx hb dX13_commonestCode_80 rfl (lv_at hl 3 rfl) ?_
      obtain ⟨_, h7, hf⟩ := ob_some hf
      obtain ⟨x5, h6, hf⟩ := ob_some hf
      refine gg_cVI (As := [.int l1, .int l2]) hC hw (X13_at_M l E D A h6) h7 rfl g_ml_X13_118 hd_X13_at (Nat.le_of_ble_eq_true rfl) (Nat.le_of_ble_eq_true rfl) hl.1 rfl (Nat.le_of_ble_eq_true rfl) dX13_commonestCode_81 (fun H locs cells slots hw => ?_)
      refine lv_icmp_ge (tgt := 91) hx hb dX13_commonestCode_84 (by decide) (fun c8 => ?_) (fun c8 => ?_)
      · replace hf := (if_pos c8).symm.trans hf
        exact X13_commonestCode_91_W hC hQ h_18 hf hw (lv_sub hl [1, 2, 3, 4] rfl)
      · replace hf := (if_neg c8).symm.trans hf
        exact X13_commonestCode_87_W hC hQ h_18 hf hw (lv_sub hl [1, 2, 3, 4] rfl)

def X13_commonestCode_18_s (E : gE) (r_18 : Nat → Int32 → Int32 → Int32 → gS → Option (Int32 × gS)) (l0 : Nat) (l1 : Int32) (l2 : Int32) (l3 : Int32) (σ : gS) : Option (Int32 × gS) :=
  ob (gfR σ l0 11 8) fun x11 =>
  ob (graI E 0 σ x11 (1 : Int32)) fun x13 =>
  if x13 ≤ l3 then
    if l2 = (-1 : Int32) then
      some ((-1 : Int32), σ)
    else
      ob (gcl σ l0 11) fun _ =>
      ob (X13_codeAt_f E σ l0 l1 l2) fun x15 =>
      some (x15, σ)
  else
    if l2 = (-1 : Int32) then
      X13_commonestCode_60 E r_18 l0 l1 l2 l3 (1 : Int32) σ
    else
      ob (gcl σ l0 11) fun _ =>
      ob (X13_at_f E σ l0 l1 l3) fun x19 =>
      ob (gcl σ l0 11) fun _ =>
      ob (X13_countValue_f E σ l0 l1 x19) fun x22 =>
      ob (gcl σ l0 11) fun _ =>
      ob (X13_at_f E σ l0 l1 l2) fun x25 =>
      ob (gcl σ l0 11) fun _ =>
      ob (X13_countValue_f E σ l0 l1 x25) fun x28 =>
      X13_commonestCode_60 E r_18 l0 l1 l2 l3 (x22 - x28) σ
set_option maxHeartbeats 4000000 in
set_option maxRecDepth 100000 in
theorem X13_commonestCode_18_s_W {σ : gS} {l0 : Nat} {l1 : Int32} {l2 : Int32} {l3 : Int32} {res : (Int32 × gS)} {ls : Array Slot} (hC : gC E D A p R s m args meth c cX13_commonestCode 6 RX13 "commonestCode" 3 68) (hQ : gQI E D A p l e R s m args below meth c Q cX13_commonestCode FieldType.int res) {r_18 : Nat → Int32 → Int32 → Int32 → gS → Option (Int32 × gS)} (h_18 : ∀ {l0 : Nat} {l1 : Int32} {l2 : Int32} {l3 : Int32} {σ : gS} {H : Heap} {locs : List Loc} {cells slots : Nat} {ls : Array Slot}, r_18 l0 l1 l2 l3 σ = some res → gW E D A s σ H locs → lv_has ls 6 [(0, .ref l0), (1, .int l1), (2, .int l2), (3, .int l3)] → W p l e R s m args below meth c H locs cells slots Q (F0 m 18 ls [])) (hf : X13_commonestCode_18_s E r_18 l0 l1 l2 l3 σ = some res) (hw : gW E D A s σ H locs) (hl : lv_has ls 6 [(0, .ref l0), (1, .int l1), (2, .int l2), (3, .int l3)]) : W p l e R s m args below meth c H locs cells slots Q (F0 m 18 ls []) := by
  have hC0 := hC
  obtain ⟨hx, hb, hml, hown, hts, -⟩ := hC0
  unfold X13_commonestCode_18_s at hf
  refine lv_iload_n hx hb dX13_commonestCode_18 rfl (lv_at hl 3 rfl) ?_
  refine lv_aload_n hx hb dX13_commonestCode_19 rfl (lv_at hl 0 rfl) ?_
  obtain ⟨x11, h12, hf⟩ := ob_some hf
  refine rR_fl_X13_35 hC hw h12 dX13_commonestCode_20 ?_
  refine lv_iconst (v := 1) hx hb dX13_commonestCode_23 (by decide) ?_
  obtain ⟨x13, h14, hf⟩ := ob_some hf
  refine gg_aldI hC hw h14 dX13_commonestCode_24 ?_
  refine lv_icmp_ge (tgt := 111) hx hb dX13_commonestCode_25 (by decide) (fun c32 => ?_) (fun c32 => ?_)
  · replace hf := (if_pos c32).symm.trans hf
    refine lv_iload_n hx hb dX13_commonestCode_111 rfl (lv_at hl 2 rfl) ?_
    refine lv_iconst (v := -1) hx hb dX13_commonestCode_112 (by decide) ?_
    refine lv_icmp_ne (tgt := 120) hx hb dX13_commonestCode_113 (by decide) (fun c18 => ?_) (fun c18 => ?_)
    · replace hf := (if_neg c18).symm.trans hf
      refine lv_aload_n hx hb dX13_commonestCode_120 rfl (lv_at hl 0 rfl) ?_
      refine lv_iload_n hx hb dX13_commonestCode_121 rfl (lv_at hl 1 rfl) ?_
      refine lv_iload_n hx hb dX13_commonestCode_122 rfl (lv_at hl 2 rfl) ?_
      obtain ⟨_, h17, hf⟩ := ob_some hf
      obtain ⟨x15, h16, hf⟩ := ob_some hf
      refine gg_cVI (As := [.int l1, .int l2]) hC hw (X13_codeAt_M l E D A h16) h17 rfl g_ml_X13_133 hd_X13_codeAt (Nat.le_of_ble_eq_true rfl) (Nat.le_of_ble_eq_true rfl) hl.1 rfl (Nat.le_of_ble_eq_true rfl) dX13_commonestCode_123 (fun H locs cells slots hw => ?_)
      cases hf
      exact hQ _ _ _ _ _ _ dX13_commonestCode_126 rfl hw
    · replace hf := (if_pos c18).symm.trans hf
      refine lv_iconst (v := -1) hx hb dX13_commonestCode_116 (by decide) ?_
      refine lv_goto (tgt := 126) hx hb dX13_commonestCode_117 (by decide) ?_
      cases hf
      exact hQ _ _ _ _ _ _ dX13_commonestCode_126 rfl hw
  · replace hf := (if_neg c32).symm.trans hf
    refine lv_iload_n hx hb dX13_commonestCode_28 rfl (lv_at hl 2 rfl) ?_
    refine lv_iconst (v := -1) hx hb dX13_commonestCode_29 (by decide) ?_
    refine lv_icmp_ne (tgt := 37) hx hb dX13_commonestCode_30 (by decide) (fun c31 => ?_) (fun c31 => ?_)
    · replace hf := (if_neg c31).symm.trans hf
      refine lv_aload_n hx hb dX13_commonestCode_37 rfl (lv_at hl 0 rfl) ?_
      refine lv_iload_n hx hb dX13_commonestCode_38 rfl (lv_at hl 1 rfl) ?_
      refine lv_aload_n hx hb dX13_commonestCode_39 rfl (lv_at hl 0 rfl) ?_
      refine lv_iload_n hx hb dX13_commonestCode_40 rfl (lv_at hl 1 rfl) ?_
      refine lv_iload_n hx hb dX13_commonestCode_41 rfl (lv_at hl 3 rfl) ?_
      obtain ⟨_, h21, hf⟩ := ob_some hf
      obtain ⟨x19, h20, hf⟩ := ob_some hf
      refine gg_cVI (As := [.int l1, .int l3]) hC hw (X13_at_M l E D A h20) h21 rfl g_ml_X13_118 hd_X13_at (Nat.le_of_ble_eq_true rfl) (Nat.le_of_ble_eq_true rfl) hl.1 rfl (Nat.le_of_ble_eq_true rfl) dX13_commonestCode_42 (fun H locs cells slots hw => ?_)
      obtain ⟨_, h24, hf⟩ := ob_some hf
      obtain ⟨x22, h23, hf⟩ := ob_some hf
      refine gg_cVI (As := [.int l1, .int x19]) hC hw (X13_countValue_M l E D A h23) h24 rfl g_ml_X13_148 hd_X13_countValue (Nat.le_of_ble_eq_true rfl) (Nat.le_of_ble_eq_true rfl) hl.1 rfl (Nat.le_of_ble_eq_true rfl) dX13_commonestCode_45 (fun H locs cells slots hw => ?_)
      refine lv_aload_n hx hb dX13_commonestCode_48 rfl (lv_at hl 0 rfl) ?_
      refine lv_iload_n hx hb dX13_commonestCode_49 rfl (lv_at hl 1 rfl) ?_
      refine lv_aload_n hx hb dX13_commonestCode_50 rfl (lv_at hl 0 rfl) ?_
      refine lv_iload_n hx hb dX13_commonestCode_51 rfl (lv_at hl 1 rfl) ?_
      refine lv_iload_n hx hb dX13_commonestCode_52 rfl (lv_at hl 2 rfl) ?_
      obtain ⟨_, h27, hf⟩ := ob_some hf
      obtain ⟨x25, h26, hf⟩ := ob_some hf
      refine gg_cVI (As := [.int l1, .int l2]) hC hw (X13_at_M l E D A h26) h27 rfl g_ml_X13_118 hd_X13_at (Nat.le_of_ble_eq_true rfl) (Nat.le_of_ble_eq_true rfl) hl.1 rfl (Nat.le_of_ble_eq_true rfl) dX13_commonestCode_53 (fun H locs cells slots hw => ?_)
      obtain ⟨_, h30, hf⟩ := ob_some hf
      obtain ⟨x28, h29, hf⟩ := ob_some hf
      refine gg_cVI (As := [.int l1, .int x25]) hC hw (X13_countValue_M l E D A h29) h30 rfl g_ml_X13_148 hd_X13_countValue (Nat.le_of_ble_eq_true rfl) (Nat.le_of_ble_eq_true rfl) hl.1 rfl (Nat.le_of_ble_eq_true rfl) dX13_commonestCode_56 (fun H locs cells slots hw => ?_)
      refine lv_isub hx hb dX13_commonestCode_59 ?_
      exact X13_commonestCode_60_W hC hQ h_18 hf hw (lv_sub hl [0, 1, 2, 3] rfl)
    · replace hf := (if_pos c31).symm.trans hf
      refine lv_iconst (v := 1) hx hb dX13_commonestCode_33 (by decide) ?_
      refine lv_goto (tgt := 60) hx hb dX13_commonestCode_34 (by decide) ?_
      exact X13_commonestCode_60_W hC hQ h_18 hf hw (lv_sub hl [0, 1, 2, 3] rfl)
def X13_commonestCode_18 (E : gE) : Nat → Nat → Int32 → Int32 → Int32 → gS → Option (Int32 × gS)
  | 0 => fun _ _ _ _ _ => none
  | n + 1 => X13_commonestCode_18_s E (X13_commonestCode_18 E n)
theorem X13_commonestCode_18_W {res : (Int32 × gS)} (hC : gC E D A p R s m args meth c cX13_commonestCode 6 RX13 "commonestCode" 3 68) (hQ : gQI E D A p l e R s m args below meth c Q cX13_commonestCode FieldType.int res) : ∀ (n : Nat), ∀ {l0 : Nat} {l1 : Int32} {l2 : Int32} {l3 : Int32} {σ : gS} {H : Heap} {locs : List Loc} {cells slots : Nat} {ls : Array Slot}, X13_commonestCode_18 E n l0 l1 l2 l3 σ = some res → gW E D A s σ H locs → lv_has ls 6 [(0, .ref l0), (1, .int l1), (2, .int l2), (3, .int l3)] → W p l e R s m args below meth c H locs cells slots Q (F0 m 18 ls []) := by
  intro n
  induction n with
  | zero =>
    intros
    rename_i hf _ _
    exact absurd hf (fun h => by cases (show (none : Option (Int32 × gS)) = some res from h))
  | succ n ih =>
    intros
    rename_i hf hw hl
    exact X13_commonestCode_18_s_W hC hQ ih hf hw hl

def X13_commonestCode (E : gE) (l0 : Nat) (l1 : Int32) (σ : gS) : Option (Int32 × gS) :=
  ob (gcl σ l0 11) fun _ =>
  ob (X13_isColumn_f E σ l0 l1) fun x33 =>
  ob (gcl σ l0 11) fun _ =>
  ob (X13_lacks_f E l0 x33 σ) fun x36 =>
  if x36.1 = 0 then
    X13_commonestCode_18 E (gN E) l0 l1 (-1 : Int32) (0 : Int32) x36.2
  else
    some ((0 : Int32), x36.2)
set_option maxHeartbeats 4000000 in
set_option maxRecDepth 100000 in
theorem X13_commonestCode_W {σ : gS} {l0 : Nat} {l1 : Int32} {res : (Int32 × gS)} {ls : Array Slot} (hC : gC E D A p R s m args meth c cX13_commonestCode 6 RX13 "commonestCode" 3 68) (hQ : gQI E D A p l e R s m args below meth c Q cX13_commonestCode FieldType.int res) (hf : X13_commonestCode E l0 l1 σ = some res) (hw : gW E D A s σ H locs) (hl : lv_has ls 6 [(0, .ref l0), (1, .int l1)]) : W p l e R s m args below meth c H locs cells slots Q (F0 m 0 ls []) := by
  have hC0 := hC
  obtain ⟨hx, hb, hml, hown, hts, -⟩ := hC0
  unfold X13_commonestCode at hf
  refine lv_aload_n hx hb dX13_commonestCode_0 rfl (lv_at hl 0 rfl) ?_
  refine lv_aload_n hx hb dX13_commonestCode_1 rfl (lv_at hl 0 rfl) ?_
  refine lv_iload_n hx hb dX13_commonestCode_2 rfl (lv_at hl 1 rfl) ?_
  obtain ⟨_, h35, hf⟩ := ob_some hf
  obtain ⟨x33, h34, hf⟩ := ob_some hf
  refine gg_cVI (As := [.int l1]) hC hw (X13_isColumn_M l E D A h34) h35 rfl g_ml_X13_112 hd_X13_isColumn (Nat.le_of_ble_eq_true rfl) (Nat.le_of_ble_eq_true rfl) hl.1 rfl (Nat.le_of_ble_eq_true rfl) dX13_commonestCode_3 (fun H locs cells slots hw => ?_)
  obtain ⟨_, h38, hf⟩ := ob_some hf
  obtain ⟨x36, h37, hf⟩ := ob_some hf
  refine gg_cVI (As := [.int x33]) hC hw (X13_lacks_M l E D A h37) h38 rfl g_ml_X13_88 hd_X13_lacks (Nat.le_of_ble_eq_true rfl) (Nat.le_of_ble_eq_true rfl) hl.1 rfl (Nat.le_of_ble_eq_true rfl) dX13_commonestCode_6 (fun H locs cells slots hw => ?_)
  refine lv_if_eq (tgt := 14) hx hb dX13_commonestCode_9 (by decide) (fun c39 => ?_) (fun c39 => ?_)
  · replace hf := (if_pos c39).symm.trans hf
    refine lv_iconst (v := -1) hx hb dX13_commonestCode_14 (by decide) ?_
    refine lv_istore_n (lv' := [(2, .int (-1 : Int32)), (0, .ref l0), (1, .int l1)]) hx hb dX13_commonestCode_15 rfl hl (by decide) rfl (fun ls hl => ?_)
    refine lv_iconst (v := 0) hx hb dX13_commonestCode_16 (by decide) ?_
    refine lv_istore_n (lv' := [(3, .int (0 : Int32)), (2, .int (-1 : Int32)), (0, .ref l0), (1, .int l1)]) hx hb dX13_commonestCode_17 rfl hl (by decide) rfl (fun ls hl => ?_)
    exact X13_commonestCode_18_W hC hQ (gN E) hf hw (lv_sub hl [2, 3, 1, 0] rfl)
  · replace hf := (if_neg c39).symm.trans hf
    refine lv_iconst (v := 0) hx hb dX13_commonestCode_12 (by decide) ?_
    cases hf
    exact hQ _ _ _ _ _ _ dX13_commonestCode_13 rfl hw

def X13_commonestCode_f (E : gE) (l0 : Nat) (l1 : Int32) (σ : gS) : Option (Int32 × gS) := X13_commonestCode E l0 l1 σ
set_option maxRecDepth 100000 in
theorem X13_commonestCode_M (l : Launch) (E : gE) (D : va_G) (A : Nat → Prop) {l0 : Nat} {l1 : Int32} {σ : gS} {res : (Int32 × gS)} (hf : X13_commonestCode_f E l0 l1 σ = some res) : gCI l E D A yX13_commonestCode cX13_commonestCode 6 3 68 (some FieldType.int) [.ref l0, .int l1] σ res := by
  refine gg_entI (own := RX13) (nm := "commonestCode") (ty := FieldType.int) (by decide +kernel) rfl rfl (Nat.le_of_ble_eq_true rfl) rfl ?_
  intro p e R s m args below meth c Q ls hC hw hQ hl
  have hl : lv_has ls 6 [(0, .ref l0), (1, .int l1)] := hl
  exact X13_commonestCode_W hC hQ hf hw hl

def X13_widthFor_2_s (E : gE) (σ : gS) (r_2 : Int32 → Int32 → Option Int32) (l0 : Int32) (l1 : Int32) : Option Int32 :=
  if l0 ≤ ((1 : Int32) <<< (l1 &&& 31)) then
    some l1
  else
    r_2 l0 (l1 + 1)
set_option maxHeartbeats 4000000 in
set_option maxRecDepth 100000 in
theorem X13_widthFor_2_s_W {σ : gS} {l0 : Int32} {l1 : Int32} {res : Int32} {ls : Array Slot} (hC : gC E D A p R s m args meth c cX13_widthFor 2 RX13 "widthFor" 0 0) (hQ : gQI E D A p l e R s m args below meth c Q cX13_widthFor FieldType.int (res, σ)) {r_2 : Int32 → Int32 → Option Int32} (h_2 : ∀ {l0 : Int32} {l1 : Int32} {H : Heap} {locs : List Loc} {cells slots : Nat} {ls : Array Slot}, r_2 l0 l1 = some res → gW E D A s σ H locs → lv_has ls 2 [(0, .int l0), (1, .int l1)] → W p l e R s m args below meth c H locs cells slots Q (F0 m 2 ls [])) (hf : X13_widthFor_2_s E σ r_2 l0 l1 = some res) (hw : gW E D A s σ H locs) (hl : lv_has ls 2 [(0, .int l0), (1, .int l1)]) : W p l e R s m args below meth c H locs cells slots Q (F0 m 2 ls []) := by
  have hC0 := hC
  obtain ⟨hx, hb, hml, hown, hts, -⟩ := hC0
  unfold X13_widthFor_2_s at hf
  refine lv_iconst (v := 1) hx hb dX13_widthFor_2 (by decide) ?_
  refine lv_iload_n hx hb dX13_widthFor_3 rfl (lv_at hl 1 rfl) ?_
  refine lv_ishl hx hb dX13_widthFor_4 ?_
  refine lv_iload_n hx hb dX13_widthFor_5 rfl (lv_at hl 0 rfl) ?_
  refine lv_icmp_ge (tgt := 15) hx hb dX13_widthFor_6 (by decide) (fun c1 => ?_) (fun c1 => ?_)
  · replace hf := (if_pos c1).symm.trans hf
    refine lv_iload_n hx hb dX13_widthFor_15 rfl (lv_at hl 1 rfl) ?_
    cases hf
    exact hQ _ _ _ _ _ _ dX13_widthFor_16 rfl hw
  · replace hf := (if_neg c1).symm.trans hf
    refine lv_iinc (v := (l1 + 1)) (lv' := [(1, .int (l1 + 1)), (0, .int l0)]) hx hb dX13_widthFor_9 hl (k := 1) rfl rfl (by decide) rfl (fun ls hl => ?_)
    refine lv_goto (tgt := 2) hx hb dX13_widthFor_12 (by decide) ?_
    exact h_2 hf hw (lv_sub hl [1, 0] rfl)
def X13_widthFor_2 (E : gE) (σ : gS) : Nat → Int32 → Int32 → Option Int32
  | 0 => fun _ _ => none
  | n + 1 => X13_widthFor_2_s E σ (X13_widthFor_2 E σ n)
theorem X13_widthFor_2_W {σ : gS} {res : Int32} (hC : gC E D A p R s m args meth c cX13_widthFor 2 RX13 "widthFor" 0 0) (hQ : gQI E D A p l e R s m args below meth c Q cX13_widthFor FieldType.int (res, σ)) : ∀ (n : Nat), ∀ {l0 : Int32} {l1 : Int32} {H : Heap} {locs : List Loc} {cells slots : Nat} {ls : Array Slot}, X13_widthFor_2 E σ n l0 l1 = some res → gW E D A s σ H locs → lv_has ls 2 [(0, .int l0), (1, .int l1)] → W p l e R s m args below meth c H locs cells slots Q (F0 m 2 ls []) := by
  intro n
  induction n with
  | zero =>
    intros
    rename_i hf _ _
    exact absurd hf (fun h => by cases (show (none : Option Int32) = some res from h))
  | succ n ih =>
    intros
    rename_i hf hw hl
    exact X13_widthFor_2_s_W hC hQ ih hf hw hl

def X13_widthFor (E : gE) (σ : gS) (l0 : Int32) : Option Int32 :=
  X13_widthFor_2 E σ (gN E) l0 (0 : Int32)
set_option maxHeartbeats 4000000 in
set_option maxRecDepth 100000 in
theorem X13_widthFor_W {σ : gS} {l0 : Int32} {res : Int32} {ls : Array Slot} (hC : gC E D A p R s m args meth c cX13_widthFor 2 RX13 "widthFor" 0 0) (hQ : gQI E D A p l e R s m args below meth c Q cX13_widthFor FieldType.int (res, σ)) (hf : X13_widthFor E σ l0 = some res) (hw : gW E D A s σ H locs) (hl : lv_has ls 2 [(0, .int l0)]) : W p l e R s m args below meth c H locs cells slots Q (F0 m 0 ls []) := by
  have hC0 := hC
  obtain ⟨hx, hb, hml, hown, hts, -⟩ := hC0
  unfold X13_widthFor at hf
  refine lv_iconst (v := 0) hx hb dX13_widthFor_0 (by decide) ?_
  refine lv_istore_n (lv' := [(1, .int (0 : Int32)), (0, .int l0)]) hx hb dX13_widthFor_1 rfl hl (by decide) rfl (fun ls hl => ?_)
  exact X13_widthFor_2_W hC hQ (gN E) hf hw (lv_sub hl [1, 0] rfl)

def X13_widthFor_f (E : gE) (σ : gS) (l0 : Int32) : Option Int32 := X13_widthFor E σ l0
set_option maxRecDepth 100000 in
theorem X13_widthFor_M (l : Launch) (E : gE) (D : va_G) (A : Nat → Prop) {l0 : Int32} {σ : gS} {res : Int32} (hf : X13_widthFor_f E σ l0 = some res) : gCI l E D A yX13_widthFor cX13_widthFor 2 0 0 (some FieldType.int) [.int l0] σ (res, σ) := by
  refine gg_entI (own := RX13) (nm := "widthFor") (ty := FieldType.int) (by decide +kernel) rfl rfl (Nat.le_of_ble_eq_true rfl) rfl ?_
  intro p e R s m args below meth c Q ls hC hw hQ hl
  have hl : lv_has ls 2 [(0, .int l0)] := hl
  exact X13_widthFor_W hC hQ hf hw hl

def X13_widthOf (E : gE) (σ : gS) (l0 : Nat) (l1 : Int32) : Option Int32 :=
  ob (gcl σ l0 11) fun _ =>
  ob (X13_sizeIn_f E σ l0 l1) fun x1 =>
  ob (X13_widthFor_f E σ x1) fun x4 =>
  some x4
set_option maxHeartbeats 4000000 in
set_option maxRecDepth 100000 in
theorem X13_widthOf_W {σ : gS} {l0 : Nat} {l1 : Int32} {res : Int32} {ls : Array Slot} (hC : gC E D A p R s m args meth c cX13_widthOf 2 RX13 "widthOf" 2 44) (hQ : gQI E D A p l e R s m args below meth c Q cX13_widthOf FieldType.int (res, σ)) (hf : X13_widthOf E σ l0 l1 = some res) (hw : gW E D A s σ H locs) (hl : lv_has ls 2 [(0, .ref l0), (1, .int l1)]) : W p l e R s m args below meth c H locs cells slots Q (F0 m 0 ls []) := by
  have hC0 := hC
  obtain ⟨hx, hb, hml, hown, hts, -⟩ := hC0
  unfold X13_widthOf at hf
  refine lv_aload_n hx hb dX13_widthOf_0 rfl (lv_at hl 0 rfl) ?_
  refine lv_iload_n hx hb dX13_widthOf_1 rfl (lv_at hl 1 rfl) ?_
  obtain ⟨_, h3, hf⟩ := ob_some hf
  obtain ⟨x1, h2, hf⟩ := ob_some hf
  refine gg_cVI (As := [.int l1]) hC hw (X13_sizeIn_M l E D A h2) h3 rfl g_ml_X13_115 hd_X13_sizeIn (Nat.le_of_ble_eq_true rfl) (Nat.le_of_ble_eq_true rfl) hl.1 rfl (Nat.le_of_ble_eq_true rfl) dX13_widthOf_2 (fun H locs cells slots hw => ?_)
  obtain ⟨x4, h5, hf⟩ := ob_some hf
  refine gg_cSI (As := [.int x1]) hC hw (X13_widthFor_M l E D A h5) g_ml_X13_151 hd_X13_widthFor.2 (Nat.le_of_ble_eq_true rfl) (Nat.le_of_ble_eq_true rfl) hl.1 rfl (Nat.le_of_ble_eq_true rfl) dX13_widthOf_5 (fun H locs cells slots hw => ?_)
  cases hf
  exact hQ _ _ _ _ _ _ dX13_widthOf_8 rfl hw

def X13_widthOf_f (E : gE) (σ : gS) (l0 : Nat) (l1 : Int32) : Option Int32 := X13_widthOf E σ l0 l1
set_option maxRecDepth 100000 in
theorem X13_widthOf_M (l : Launch) (E : gE) (D : va_G) (A : Nat → Prop) {l0 : Nat} {l1 : Int32} {σ : gS} {res : Int32} (hf : X13_widthOf_f E σ l0 l1 = some res) : gCI l E D A yX13_widthOf cX13_widthOf 2 2 44 (some FieldType.int) [.ref l0, .int l1] σ (res, σ) := by
  refine gg_entI (own := RX13) (nm := "widthOf") (ty := FieldType.int) (by decide +kernel) rfl rfl (Nat.le_of_ble_eq_true rfl) rfl ?_
  intro p e R s m args below meth c Q ls hC hw hQ hl
  have hl : lv_has ls 2 [(0, .ref l0), (1, .int l1)] := hl
  exact X13_widthOf_W hC hQ hf hw hl

def X13_wordsOf (E : gE) (σ : gS) (l0 : Nat) (l1 : Int32) : Option Int32 :=
  ob (gfR σ l0 11 8) fun x1 =>
  ob (graI E 0 σ x1 (1 : Int32)) fun x3 =>
  ob (gcl σ l0 11) fun _ =>
  ob (X13_widthOf_f E σ l0 l1) fun x5 =>
  some ((((x3 * x5) + (64 : Int32)) - (1 : Int32)) / (64 : Int32))
set_option maxHeartbeats 4000000 in
set_option maxRecDepth 100000 in
theorem X13_wordsOf_W {σ : gS} {l0 : Nat} {l1 : Int32} {res : Int32} {ls : Array Slot} (hC : gC E D A p R s m args meth c cX13_wordsOf 2 RX13 "wordsOf" 3 65) (hQ : gQI E D A p l e R s m args below meth c Q cX13_wordsOf FieldType.int (res, σ)) (hf : X13_wordsOf E σ l0 l1 = some res) (hw : gW E D A s σ H locs) (hl : lv_has ls 2 [(0, .ref l0), (1, .int l1)]) : W p l e R s m args below meth c H locs cells slots Q (F0 m 0 ls []) := by
  have hC0 := hC
  obtain ⟨hx, hb, hml, hown, hts, -⟩ := hC0
  unfold X13_wordsOf at hf
  refine lv_aload_n hx hb dX13_wordsOf_0 rfl (lv_at hl 0 rfl) ?_
  obtain ⟨x1, h2, hf⟩ := ob_some hf
  refine rR_fl_X13_35 hC hw h2 dX13_wordsOf_1 ?_
  refine lv_iconst (v := 1) hx hb dX13_wordsOf_4 (by decide) ?_
  obtain ⟨x3, h4, hf⟩ := ob_some hf
  refine gg_aldI hC hw h4 dX13_wordsOf_5 ?_
  refine lv_aload_n hx hb dX13_wordsOf_6 rfl (lv_at hl 0 rfl) ?_
  refine lv_iload_n hx hb dX13_wordsOf_7 rfl (lv_at hl 1 rfl) ?_
  obtain ⟨_, h7, hf⟩ := ob_some hf
  obtain ⟨x5, h6, hf⟩ := ob_some hf
  refine gg_cVI (As := [.int l1]) hC hw (X13_widthOf_M l E D A h6) h7 rfl g_ml_X13_154 hd_X13_widthOf (Nat.le_of_ble_eq_true rfl) (Nat.le_of_ble_eq_true rfl) hl.1 rfl (Nat.le_of_ble_eq_true rfl) dX13_wordsOf_8 (fun H locs cells slots hw => ?_)
  refine lv_imul hx hb dX13_wordsOf_11 ?_
  refine lv_bipush (v := 64) hx hb dX13_wordsOf_12 (by decide) ?_
  refine lv_iadd hx hb dX13_wordsOf_14 ?_
  refine lv_iconst (v := 1) hx hb dX13_wordsOf_15 (by decide) ?_
  refine lv_isub hx hb dX13_wordsOf_16 ?_
  refine lv_bipush (v := 64) hx hb dX13_wordsOf_17 (by decide) ?_
  refine lv_idiv hx hb dX13_wordsOf_19 (by decide) ?_
  cases hf
  exact hQ _ _ _ _ _ _ dX13_wordsOf_20 rfl hw

def X13_wordsOf_f (E : gE) (σ : gS) (l0 : Nat) (l1 : Int32) : Option Int32 := X13_wordsOf E σ l0 l1
set_option maxRecDepth 100000 in
theorem X13_wordsOf_M (l : Launch) (E : gE) (D : va_G) (A : Nat → Prop) {l0 : Nat} {l1 : Int32} {σ : gS} {res : Int32} (hf : X13_wordsOf_f E σ l0 l1 = some res) : gCI l E D A yX13_wordsOf cX13_wordsOf 2 3 65 (some FieldType.int) [.ref l0, .int l1] σ (res, σ) := by
  refine gg_entI (own := RX13) (nm := "wordsOf") (ty := FieldType.int) (by decide +kernel) rfl rfl (Nat.le_of_ble_eq_true rfl) rfl ?_
  intro p e R s m args below meth c Q ls hC hw hQ hl
  have hl : lv_has ls 2 [(0, .ref l0), (1, .int l1)] := hl
  exact X13_wordsOf_W hC hQ hf hw hl

end MM1
