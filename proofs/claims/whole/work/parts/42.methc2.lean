/-! decompiled: X12_selectedRow, X12_rejectedBy, X12_selectivity, X12_bitWidthWith, X12_saveSnapshot, X12_restoreSnapshot, X12_sumOfSelected, X12_collectSelected, X12_runsAfterSorting, X12_packingDifferences, X12_sortRows, X12_isPossible, X12_putNumber, X12_staleCount, X12_sumSelected, X12_smallestSelected, X12_greatestSelected, X12_distinctSelected, X12_meanSelected, X12_bitWidthCompacted, X12_runsIfSorted, X12_bestSortColumn, X12_gap, X12_removeRow, X12_setValue -/
section MC2
variable {p : Program} {l : Launch} {e : Env} {R : Room} {s : State} {m : MethodId} {args : Array Value} {below : List Frame} {meth : Method} {c : Code} {H : Heap} {locs : List Loc} {cells slots : Nat} {Q : State → Prop} {E : gE} {D : va_G} {A : Nat → Prop}
def X12_selectedRow_36 (E : gE) (σ : gS) (r_4 : Nat → Int32 → Int32 → Int32 → Option Int32) (l0 : Nat) (l1 : Int32) (l2 : Int32) (l3 : Int32) : Option Int32 :=
  r_4 l0 l1 l2 (l3 + 1)
set_option maxHeartbeats 4000000 in
set_option maxRecDepth 100000 in
theorem X12_selectedRow_36_W {σ : gS} {l0 : Nat} {l1 : Int32} {l2 : Int32} {l3 : Int32} {res : Int32} {ls : Array Slot} (hC : gC E D A p R s m args meth c cX12_selectedRow 4 RX12 "selectedRow" 5 107) (hQ : gQI E D A p l e R s m args below meth c Q cX12_selectedRow FieldType.int (res, σ)) {r_4 : Nat → Int32 → Int32 → Int32 → Option Int32} (h_4 : ∀ {l0 : Nat} {l1 : Int32} {l2 : Int32} {l3 : Int32} {H : Heap} {locs : List Loc} {cells slots : Nat} {ls : Array Slot}, r_4 l0 l1 l2 l3 = some res → gW E D A s σ H locs → lv_has ls 4 [(0, .ref l0), (1, .int l1), (2, .int l2), (3, .int l3)] → W p l e R s m args below meth c H locs cells slots Q (F0 m 4 ls [])) (hf : X12_selectedRow_36 E σ r_4 l0 l1 l2 l3 = some res) (hw : gW E D A s σ H locs) (hl : lv_has ls 4 [(0, .ref l0), (1, .int l1), (2, .int l2), (3, .int l3)]) : W p l e R s m args below meth c H locs cells slots Q (F0 m 36 ls []) := by
  have hC0 := hC
  obtain ⟨hx, hb, hml, hown, hts, -⟩ := hC0
  unfold X12_selectedRow_36 at hf
  refine lv_iinc (v := (l3 + 1)) (lv' := [(3, .int (l3 + 1)), (0, .ref l0), (1, .int l1), (2, .int l2)]) hx hb dX12_selectedRow_36 hl (k := 3) rfl rfl (by decide) rfl (fun ls hl => ?_)
  refine lv_goto (tgt := 4) hx hb dX12_selectedRow_39 (by decide) ?_
  exact h_4 hf hw (lv_sub hl [1, 2, 3, 0] rfl)

def X12_selectedRow_4_s (E : gE) (σ : gS) (r_4 : Nat → Int32 → Int32 → Int32 → Option Int32) (l0 : Nat) (l1 : Int32) (l2 : Int32) (l3 : Int32) : Option Int32 :=
  ob (gfR σ l0 10 0) fun x1 =>
  ob (gcl σ x1 9) fun _ =>
  ob (X11_rows_f E σ x1) fun x3 =>
  if x3 ≤ l3 then
    some (-1 : Int32)
  else
    ob (gfR σ l0 10 0) fun x6 =>
    ob (gcl σ x6 9) fun _ =>
    ob (X11_selects_f E σ x6 l3) fun x8 =>
    if x8 = 0 then
      X12_selectedRow_36 E σ r_4 l0 l1 l2 l3
    else
      if l2 = l1 then
        some l3
      else
        X12_selectedRow_36 E σ r_4 l0 l1 (l2 + 1) l3
set_option maxHeartbeats 4000000 in
set_option maxRecDepth 100000 in
theorem X12_selectedRow_4_s_W {σ : gS} {l0 : Nat} {l1 : Int32} {l2 : Int32} {l3 : Int32} {res : Int32} {ls : Array Slot} (hC : gC E D A p R s m args meth c cX12_selectedRow 4 RX12 "selectedRow" 5 107) (hQ : gQI E D A p l e R s m args below meth c Q cX12_selectedRow FieldType.int (res, σ)) {r_4 : Nat → Int32 → Int32 → Int32 → Option Int32} (h_4 : ∀ {l0 : Nat} {l1 : Int32} {l2 : Int32} {l3 : Int32} {H : Heap} {locs : List Loc} {cells slots : Nat} {ls : Array Slot}, r_4 l0 l1 l2 l3 = some res → gW E D A s σ H locs → lv_has ls 4 [(0, .ref l0), (1, .int l1), (2, .int l2), (3, .int l3)] → W p l e R s m args below meth c H locs cells slots Q (F0 m 4 ls [])) (hf : X12_selectedRow_4_s E σ r_4 l0 l1 l2 l3 = some res) (hw : gW E D A s σ H locs) (hl : lv_has ls 4 [(0, .ref l0), (1, .int l1), (2, .int l2), (3, .int l3)]) : W p l e R s m args below meth c H locs cells slots Q (F0 m 4 ls []) := by
  have hC0 := hC
  obtain ⟨hx, hb, hml, hown, hts, -⟩ := hC0
  unfold X12_selectedRow_4_s at hf
  refine lv_iload_n hx hb dX12_selectedRow_4 rfl (lv_at hl 3 rfl) ?_
  refine lv_aload_n hx hb dX12_selectedRow_5 rfl (lv_at hl 0 rfl) ?_
  obtain ⟨x1, h2, hf⟩ := ob_some hf
  refine rR_fl_X12_10 hC hw h2 dX12_selectedRow_6 ?_
  obtain ⟨_, h5, hf⟩ := ob_some hf
  obtain ⟨x3, h4, hf⟩ := ob_some hf
  refine gg_cVI (As := []) hC hw (X11_rows_M l E D A h4) h5 rfl g_ml_X12_108 hd_X11_rows (Nat.le_of_ble_eq_true rfl) (Nat.le_of_ble_eq_true rfl) hl.1 rfl (Nat.le_of_ble_eq_true rfl) dX12_selectedRow_9 (fun H locs cells slots hw => ?_)
  refine lv_icmp_ge (tgt := 42) hx hb dX12_selectedRow_12 (by decide) (fun c13 => ?_) (fun c13 => ?_)
  · replace hf := (if_pos c13).symm.trans hf
    refine lv_iconst (v := -1) hx hb dX12_selectedRow_42 (by decide) ?_
    cases hf
    exact hQ _ _ _ _ _ _ dX12_selectedRow_43 rfl hw
  · replace hf := (if_neg c13).symm.trans hf
    refine lv_aload_n hx hb dX12_selectedRow_15 rfl (lv_at hl 0 rfl) ?_
    obtain ⟨x6, h7, hf⟩ := ob_some hf
    refine rR_fl_X12_10 hC hw h7 dX12_selectedRow_16 ?_
    refine lv_iload_n hx hb dX12_selectedRow_19 rfl (lv_at hl 3 rfl) ?_
    obtain ⟨_, h10, hf⟩ := ob_some hf
    obtain ⟨x8, h9, hf⟩ := ob_some hf
    refine gg_cVI (As := [.int l3]) hC hw (X11_selects_M l E D A h9) h10 rfl g_ml_X12_226 hd_X11_selects (Nat.le_of_ble_eq_true rfl) (Nat.le_of_ble_eq_true rfl) hl.1 rfl (Nat.le_of_ble_eq_true rfl) dX12_selectedRow_20 (fun H locs cells slots hw => ?_)
    refine lv_if_eq (tgt := 36) hx hb dX12_selectedRow_23 (by decide) (fun c12 => ?_) (fun c12 => ?_)
    · replace hf := (if_pos c12).symm.trans hf
      exact X12_selectedRow_36_W hC hQ h_4 hf hw (lv_sub hl [0, 1, 2, 3] rfl)
    · replace hf := (if_neg c12).symm.trans hf
      refine lv_iload_n hx hb dX12_selectedRow_26 rfl (lv_at hl 2 rfl) ?_
      refine lv_iload_n hx hb dX12_selectedRow_27 rfl (lv_at hl 1 rfl) ?_
      refine lv_icmp_ne (tgt := 33) hx hb dX12_selectedRow_28 (by decide) (fun c11 => ?_) (fun c11 => ?_)
      · replace hf := (if_neg c11).symm.trans hf
        refine lv_iinc (v := (l2 + 1)) (lv' := [(2, .int (l2 + 1)), (0, .ref l0), (1, .int l1), (3, .int l3)]) hx hb dX12_selectedRow_33 hl (k := 2) rfl rfl (by decide) rfl (fun ls hl => ?_)
        exact X12_selectedRow_36_W hC hQ h_4 hf hw (lv_sub hl [1, 2, 0, 3] rfl)
      · replace hf := (if_pos c11).symm.trans hf
        refine lv_iload_n hx hb dX12_selectedRow_31 rfl (lv_at hl 3 rfl) ?_
        cases hf
        exact hQ _ _ _ _ _ _ dX12_selectedRow_32 rfl hw
def X12_selectedRow_4 (E : gE) (σ : gS) : Nat → Nat → Int32 → Int32 → Int32 → Option Int32
  | 0 => fun _ _ _ _ => none
  | n + 1 => X12_selectedRow_4_s E σ (X12_selectedRow_4 E σ n)
theorem X12_selectedRow_4_W {σ : gS} {res : Int32} (hC : gC E D A p R s m args meth c cX12_selectedRow 4 RX12 "selectedRow" 5 107) (hQ : gQI E D A p l e R s m args below meth c Q cX12_selectedRow FieldType.int (res, σ)) : ∀ (n : Nat), ∀ {l0 : Nat} {l1 : Int32} {l2 : Int32} {l3 : Int32} {H : Heap} {locs : List Loc} {cells slots : Nat} {ls : Array Slot}, X12_selectedRow_4 E σ n l0 l1 l2 l3 = some res → gW E D A s σ H locs → lv_has ls 4 [(0, .ref l0), (1, .int l1), (2, .int l2), (3, .int l3)] → W p l e R s m args below meth c H locs cells slots Q (F0 m 4 ls []) := by
  intro n
  induction n with
  | zero =>
    intros
    rename_i hf _ _
    exact absurd hf (fun h => by cases (show (none : Option Int32) = some res from h))
  | succ n ih =>
    intros
    rename_i hf hw hl
    exact X12_selectedRow_4_s_W hC hQ ih hf hw hl

def X12_selectedRow (E : gE) (σ : gS) (l0 : Nat) (l1 : Int32) : Option Int32 :=
  X12_selectedRow_4 E σ (gN E) l0 l1 (0 : Int32) (0 : Int32)
set_option maxHeartbeats 4000000 in
set_option maxRecDepth 100000 in
theorem X12_selectedRow_W {σ : gS} {l0 : Nat} {l1 : Int32} {res : Int32} {ls : Array Slot} (hC : gC E D A p R s m args meth c cX12_selectedRow 4 RX12 "selectedRow" 5 107) (hQ : gQI E D A p l e R s m args below meth c Q cX12_selectedRow FieldType.int (res, σ)) (hf : X12_selectedRow E σ l0 l1 = some res) (hw : gW E D A s σ H locs) (hl : lv_has ls 4 [(0, .ref l0), (1, .int l1)]) : W p l e R s m args below meth c H locs cells slots Q (F0 m 0 ls []) := by
  have hC0 := hC
  obtain ⟨hx, hb, hml, hown, hts, -⟩ := hC0
  unfold X12_selectedRow at hf
  refine lv_iconst (v := 0) hx hb dX12_selectedRow_0 (by decide) ?_
  refine lv_istore_n (lv' := [(2, .int (0 : Int32)), (0, .ref l0), (1, .int l1)]) hx hb dX12_selectedRow_1 rfl hl (by decide) rfl (fun ls hl => ?_)
  refine lv_iconst (v := 0) hx hb dX12_selectedRow_2 (by decide) ?_
  refine lv_istore_n (lv' := [(3, .int (0 : Int32)), (2, .int (0 : Int32)), (0, .ref l0), (1, .int l1)]) hx hb dX12_selectedRow_3 rfl hl (by decide) rfl (fun ls hl => ?_)
  exact X12_selectedRow_4_W hC hQ (gN E) hf hw (lv_sub hl [2, 3, 1, 0] rfl)

def X12_selectedRow_f (E : gE) (σ : gS) (l0 : Nat) (l1 : Int32) : Option Int32 := X12_selectedRow E σ l0 l1
set_option maxRecDepth 100000 in
theorem X12_selectedRow_M (l : Launch) (E : gE) (D : va_G) (A : Nat → Prop) {l0 : Nat} {l1 : Int32} {σ : gS} {res : Int32} (hf : X12_selectedRow_f E σ l0 l1 = some res) : gCI l E D A yX12_selectedRow cX12_selectedRow 4 5 107 (some FieldType.int) [.ref l0, .int l1] σ (res, σ) := by
  refine gg_entI (own := RX12) (nm := "selectedRow") (ty := FieldType.int) (by decide +kernel) rfl rfl (Nat.le_of_ble_eq_true rfl) rfl ?_
  intro p e R s m args below meth c Q ls hC hw hQ hl
  have hl : lv_has ls 4 [(0, .ref l0), (1, .int l1)] := hl
  exact X12_selectedRow_W hC hQ hf hw hl

def X12_rejectedBy (E : gE) (l0 : Nat) (l1 : Int32) (σ : gS) : Option ((Nat ⊕ Int32) × gS) :=
  ob (gcl σ l0 10) fun _ =>
  ob (X12_checkRow_f E l0 l1 σ) fun x1 =>
  gtry x1 (fun k9 σ9 => some (Sum.inl k9, σ9)) (fun _ σ4 =>
    ob (gfR σ4 l0 10 0) fun x6 =>
    ob (gcl σ4 x6 9) fun _ =>
    ob (X11_firstRejecting_f E σ4 x6 l1) fun x8 =>
    some (Sum.inr x8, σ4))
set_option maxHeartbeats 4000000 in
set_option maxRecDepth 100000 in
theorem X12_rejectedBy_W {σ : gS} {l0 : Nat} {l1 : Int32} {res : ((Nat ⊕ Int32) × gS)} {ls : Array Slot} (hC : gC E D A p R s m args meth c cX12_rejectedBy 2 RX12 "rejectedBy" 7 111) (hQ : ∀ (r : Int32) (σ1 : gS), res = (.inr r, σ1) → gQI E D A p l e R s m args below meth c Q cX12_rejectedBy FieldType.int (r, σ1)) (hT : ∀ (k : Nat) (σ1 : gS), res = (.inl k, σ1) → gTN E D A p l e R s m args below meth c Q cX12_rejectedBy 2 RX12 k σ1) (hst : l.stackTraces = false) (hf : X12_rejectedBy E l0 l1 σ = some res) (hw : gW E D A s σ H locs) (hl : lv_has ls 2 [(0, .ref l0), (1, .int l1)]) : W p l e R s m args below meth c H locs cells slots Q (F0 m 0 ls []) := by
  have hC0 := hC
  obtain ⟨hx, hb, hml, hown, hts, -⟩ := hC0
  unfold X12_rejectedBy at hf
  refine lv_aload_n hx hb dX12_rejectedBy_0 rfl (lv_at hl 0 rfl) ?_
  refine lv_iload_n hx hb dX12_rejectedBy_1 rfl (lv_at hl 1 rfl) ?_
  obtain ⟨_, h3, hf⟩ := ob_some hf
  obtain ⟨x1, h2, hf⟩ := ob_some hf
  refine gg_yVV (As := [.int l1]) hC hw (X12_checkRow_M l hst E D A h2) h3 rfl g_ml_X12_119 hd_X12_checkRow (Nat.le_of_ble_eq_true rfl) (Nat.le_of_ble_eq_true rfl) hl.1 rfl (Nat.le_of_ble_eq_true rfl) dX12_rejectedBy_2 (fun k9 σ9 he => ?_) (fun σ4 he H locs cells slots hw => ?_)
  · subst he
    replace hf := gtry_inl.symm.trans hf
    cases hf
    exact (hT _ _ rfl).2.2 _ _ _
  · subst he
    replace hf := gtry_inr.symm.trans hf
    refine lv_aload_n hx hb dX12_rejectedBy_5 rfl (lv_at hl 0 rfl) ?_
    obtain ⟨x6, h7, hf⟩ := ob_some hf
    refine rR_fl_X12_10 hC hw h7 dX12_rejectedBy_6 ?_
    refine lv_iload_n hx hb dX12_rejectedBy_9 rfl (lv_at hl 1 rfl) ?_
    obtain ⟨_, h10, hf⟩ := ob_some hf
    obtain ⟨x8, h9, hf⟩ := ob_some hf
    refine gg_cVI (As := [.int l1]) hC hw (X11_firstRejecting_M l E D A h9) h10 rfl g_ml_X12_232 hd_X11_firstRejecting (Nat.le_of_ble_eq_true rfl) (Nat.le_of_ble_eq_true rfl) hl.1 rfl (Nat.le_of_ble_eq_true rfl) dX12_rejectedBy_10 (fun H locs cells slots hw => ?_)
    cases hf
    exact hQ _ _ rfl _ _ _ _ _ _ dX12_rejectedBy_13 rfl hw

def X12_rejectedBy_f (E : gE) (l0 : Nat) (l1 : Int32) (σ : gS) : Option ((Nat ⊕ Int32) × gS) := X12_rejectedBy E l0 l1 σ
set_option maxRecDepth 100000 in
theorem X12_rejectedBy_M (l : Launch) (hst : l.stackTraces = false) (E : gE) (D : va_G) (A : Nat → Prop) {l0 : Nat} {l1 : Int32} {σ : gS} {res : ((Nat ⊕ Int32) × gS)} (hf : X12_rejectedBy_f E l0 l1 σ = some res) : gYI l E D A yX12_rejectedBy (Cond.code yX12_rejectedBy cX12_rejectedBy 2 (some FieldType.int)) 7 111 [.ref l0, .int l1] σ res := by
  refine gg_entYI (own := RX12) (nm := "rejectedBy") (ty := FieldType.int) hst (Nat.le_of_ble_eq_true rfl) (Nat.le_of_ble_eq_true rfl) (by decide +kernel) rfl rfl (Nat.le_of_ble_eq_true rfl) rfl ?_
  intro p e R s m args below meth c Q ls hC hw hQ hT hl
  have hl : lv_has ls 2 [(0, .ref l0), (1, .int l1)] := hl
  exact X12_rejectedBy_W hC hQ hT hst hf hw hl

def X12_selectivity (E : gE) (σ : gS) (l0 : Nat) : Option UInt32 :=
  ob (gfR σ l0 10 0) fun x1 =>
  ob (gcl σ x1 9) fun _ =>
  ob (X11_rows_f E σ x1) fun x3 =>
  if x3 ≤ 0 then
    some (0 : UInt32)
  else
    ob (gfR σ l0 10 0) fun x6 =>
    ob (gcl σ x6 9) fun _ =>
    ob (X11_selectedRows_f E σ x6) fun x8 =>
    ob (gfdiv (FP.i2f x8) (FP.i2f x3)) fun x11 =>
    some x11
set_option maxHeartbeats 4000000 in
set_option maxRecDepth 100000 in
theorem X12_selectivity_W {σ : gS} {l0 : Nat} {res : UInt32} {ls : Array Slot} (hC : gC E D A p R s m args meth c cX12_selectivity 2 RX12 "selectivity" 6 129) (hQ : gQF E D A p l e R s m args below meth c Q cX12_selectivity (res, σ)) (hf : X12_selectivity E σ l0 = some res) (hw : gW E D A s σ H locs) (hl : lv_has ls 2 [(0, .ref l0)]) : W p l e R s m args below meth c H locs cells slots Q (F0 m 0 ls []) := by
  have hC0 := hC
  obtain ⟨hx, hb, hml, hown, hts, -⟩ := hC0
  unfold X12_selectivity at hf
  refine lv_aload_n hx hb dX12_selectivity_0 rfl (lv_at hl 0 rfl) ?_
  obtain ⟨x1, h2, hf⟩ := ob_some hf
  refine rR_fl_X12_10 hC hw h2 dX12_selectivity_1 ?_
  obtain ⟨_, h5, hf⟩ := ob_some hf
  obtain ⟨x3, h4, hf⟩ := ob_some hf
  refine gg_cVI (As := []) hC hw (X11_rows_M l E D A h4) h5 rfl g_ml_X12_108 hd_X11_rows (Nat.le_of_ble_eq_true rfl) (Nat.le_of_ble_eq_true rfl) hl.1 rfl (Nat.le_of_ble_eq_true rfl) dX12_selectivity_4 (fun H locs cells slots hw => ?_)
  refine lv_istore_n (lv' := [(1, .int x3), (0, .ref l0)]) hx hb dX12_selectivity_7 rfl hl (by decide) rfl (fun ls hl => ?_)
  refine lv_iload_n hx hb dX12_selectivity_8 rfl (lv_at hl 0 rfl) ?_
  refine lv_if_le (tgt := 26) hx hb dX12_selectivity_9 (by decide) (fun c13 => ?_) (fun c13 => ?_)
  · replace hf := (if_pos c13).symm.trans hf
    refine lv_fconst0 hx hb dX12_selectivity_26 ?_
    cases hf
    exact hQ _ _ _ _ _ _ dX12_selectivity_27 hw
  · replace hf := (if_neg c13).symm.trans hf
    refine lv_aload_n hx hb dX12_selectivity_12 rfl (lv_at hl 1 rfl) ?_
    obtain ⟨x6, h7, hf⟩ := ob_some hf
    refine rR_fl_X12_10 hC hw h7 dX12_selectivity_13 ?_
    obtain ⟨_, h10, hf⟩ := ob_some hf
    obtain ⟨x8, h9, hf⟩ := ob_some hf
    refine gg_cVI (As := []) hC hw (X11_selectedRows_M l E D A h9) h10 rfl g_ml_X12_229 hd_X11_selectedRows (Nat.le_of_ble_eq_true rfl) (Nat.le_of_ble_eq_true rfl) hl.1 rfl (Nat.le_of_ble_eq_true rfl) dX12_selectivity_16 (fun H locs cells slots hw => ?_)
    refine lv_i2f hx hb dX12_selectivity_19 ?_
    refine lv_iload_n hx hb dX12_selectivity_20 rfl (lv_at hl 0 rfl) ?_
    refine lv_i2f hx hb dX12_selectivity_21 ?_
    obtain ⟨x11, h12, hf⟩ := ob_some hf
    obtain ⟨he, hn⟩ := gfdiv_some h12
    refine lv_fdiv hx hb dX12_selectivity_22 hn ?_
    rw [← he]
    refine lv_goto (tgt := 27) hx hb dX12_selectivity_23 (by decide) ?_
    cases hf
    exact hQ _ _ _ _ _ _ dX12_selectivity_27 hw

def X12_selectivity_f (E : gE) (σ : gS) (l0 : Nat) : Option UInt32 := X12_selectivity E σ l0
set_option maxRecDepth 100000 in
theorem X12_selectivity_M (l : Launch) (E : gE) (D : va_G) (A : Nat → Prop) {l0 : Nat} {σ : gS} {res : UInt32} (hf : X12_selectivity_f E σ l0 = some res) : gCF l E D A yX12_selectivity cX12_selectivity 2 6 129 (some FieldType.float) [.ref l0] σ (res, σ) := by
  refine gg_entF (own := RX12) (nm := "selectivity") (by decide +kernel) rfl rfl (Nat.le_of_ble_eq_true rfl) rfl ?_
  intro p e R s m args below meth c Q ls hC hw hQ hl
  have hl : lv_has ls 2 [(0, .ref l0)] := hl
  exact X12_selectivity_W hC hQ hf hw hl

def X12_bitWidthWith_40 (E : gE) (s0 : Int32) (σ : gS) : Option ((Nat ⊕ Int32) × gS) :=
  ob (X3_widthFor_f E σ s0) fun x1 =>
  some (Sum.inr x1, σ)
set_option maxHeartbeats 4000000 in
set_option maxRecDepth 100000 in
theorem X12_bitWidthWith_40_W {σ : gS} {s0 : Int32} {res : ((Nat ⊕ Int32) × gS)} {ls : Array Slot} (hC : gC E D A p R s m args meth c cX12_bitWidthWith 4 RX12 "bitWidthWith" 7 111) (hQ : ∀ (r : Int32) (σ1 : gS), res = (.inr r, σ1) → gQI E D A p l e R s m args below meth c Q cX12_bitWidthWith FieldType.int (r, σ1)) (hT : ∀ (k : Nat) (σ1 : gS), res = (.inl k, σ1) → gTN E D A p l e R s m args below meth c Q cX12_bitWidthWith 4 RX12 k σ1) (hst : l.stackTraces = false) (hf : X12_bitWidthWith_40 E s0 σ = some res) (hw : gW E D A s σ H locs) (hl : lv_has ls 4 []) : W p l e R s m args below meth c H locs cells slots Q (F0 m 40 ls [.int s0]) := by
  have hC0 := hC
  obtain ⟨hx, hb, hml, hown, hts, -⟩ := hC0
  unfold X12_bitWidthWith_40 at hf
  obtain ⟨x1, h2, hf⟩ := ob_some hf
  refine gg_cSI (As := [.int s0]) hC hw (X3_widthFor_M l E D A h2) g_ml_X12_250 hd_X3_widthFor.2 (Nat.le_of_ble_eq_true rfl) (Nat.le_of_ble_eq_true rfl) hl.1 rfl (Nat.le_of_ble_eq_true rfl) dX12_bitWidthWith_40 (fun H locs cells slots hw => ?_)
  cases hf
  exact hQ _ _ rfl _ _ _ _ _ _ dX12_bitWidthWith_43 rfl hw

def X12_bitWidthWith (E : gE) (l0 : Nat) (l1 : Int32) (l2 : Int32) (σ : gS) : Option ((Nat ⊕ Int32) × gS) :=
  ob (gcl σ l0 10) fun _ =>
  ob (X12_checkColumn_f E l0 l1 σ) fun x3 =>
  gtry x3 (fun k9 σ9 => some (Sum.inl k9, σ9)) (fun _ σ6 =>
    ob (gcl σ6 l0 10) fun _ =>
    ob (X12_checkValue_f E l0 l2 σ6) fun x8 =>
    gtry x8 (fun k9 σ9 => some (Sum.inl k9, σ9)) (fun _ σ11 =>
      ob (gfR σ11 l0 10 0) fun x13 =>
      ob (gcl σ11 x13 9) fun _ =>
      ob (X11_dictionary_f E σ11 x13 l1) fun x15 =>
      ob (gcl σ11 x15 2) fun _ =>
      ob (X3_holds_f E σ11 x15 l2) fun x18 =>
      if x18 = 0 then
        ob (gcl σ11 x15 2) fun _ =>
        ob (X3_size_f E σ11 x15) fun x21 =>
        X12_bitWidthWith_40 E (x21 + (1 : Int32)) σ11
      else
        ob (gcl σ11 x15 2) fun _ =>
        ob (X3_size_f E σ11 x15) fun x24 =>
        X12_bitWidthWith_40 E x24 σ11))
set_option maxHeartbeats 4000000 in
set_option maxRecDepth 100000 in
theorem X12_bitWidthWith_W {σ : gS} {l0 : Nat} {l1 : Int32} {l2 : Int32} {res : ((Nat ⊕ Int32) × gS)} {ls : Array Slot} (hC : gC E D A p R s m args meth c cX12_bitWidthWith 4 RX12 "bitWidthWith" 7 111) (hQ : ∀ (r : Int32) (σ1 : gS), res = (.inr r, σ1) → gQI E D A p l e R s m args below meth c Q cX12_bitWidthWith FieldType.int (r, σ1)) (hT : ∀ (k : Nat) (σ1 : gS), res = (.inl k, σ1) → gTN E D A p l e R s m args below meth c Q cX12_bitWidthWith 4 RX12 k σ1) (hst : l.stackTraces = false) (hf : X12_bitWidthWith E l0 l1 l2 σ = some res) (hw : gW E D A s σ H locs) (hl : lv_has ls 4 [(0, .ref l0), (1, .int l1), (2, .int l2)]) : W p l e R s m args below meth c H locs cells slots Q (F0 m 0 ls []) := by
  have hC0 := hC
  obtain ⟨hx, hb, hml, hown, hts, -⟩ := hC0
  unfold X12_bitWidthWith at hf
  refine lv_aload_n hx hb dX12_bitWidthWith_0 rfl (lv_at hl 0 rfl) ?_
  refine lv_iload_n hx hb dX12_bitWidthWith_1 rfl (lv_at hl 1 rfl) ?_
  obtain ⟨_, h5, hf⟩ := ob_some hf
  obtain ⟨x3, h4, hf⟩ := ob_some hf
  refine gg_yVV (As := [.int l1]) hC hw (X12_checkColumn_M l hst E D A h4) h5 rfl g_ml_X12_116 hd_X12_checkColumn (Nat.le_of_ble_eq_true rfl) (Nat.le_of_ble_eq_true rfl) hl.1 rfl (Nat.le_of_ble_eq_true rfl) dX12_bitWidthWith_2 (fun k9 σ9 he => ?_) (fun σ6 he H locs cells slots hw => ?_)
  · subst he
    replace hf := gtry_inl.symm.trans hf
    cases hf
    exact (hT _ _ rfl).2.2 _ _ _
  · subst he
    replace hf := gtry_inr.symm.trans hf
    refine lv_aload_n hx hb dX12_bitWidthWith_5 rfl (lv_at hl 0 rfl) ?_
    refine lv_iload_n hx hb dX12_bitWidthWith_6 rfl (lv_at hl 2 rfl) ?_
    obtain ⟨_, h10, hf⟩ := ob_some hf
    obtain ⟨x8, h9, hf⟩ := ob_some hf
    refine gg_yVV (As := [.int l2]) hC hw (X12_checkValue_M l hst E D A h9) h10 rfl g_ml_X12_244 hd_X12_checkValue (Nat.le_of_ble_eq_true rfl) (Nat.le_of_ble_eq_true rfl) hl.1 rfl (Nat.le_of_ble_eq_true rfl) dX12_bitWidthWith_7 (fun k9 σ9 he => ?_) (fun σ11 he H locs cells slots hw => ?_)
    · subst he
      replace hf := gtry_inl.symm.trans hf
      cases hf
      exact (hT _ _ rfl).2.2 _ _ _
    · subst he
      replace hf := gtry_inr.symm.trans hf
      refine lv_aload_n hx hb dX12_bitWidthWith_10 rfl (lv_at hl 0 rfl) ?_
      obtain ⟨x13, h14, hf⟩ := ob_some hf
      refine rR_fl_X12_10 hC hw h14 dX12_bitWidthWith_11 ?_
      refine lv_iload_n hx hb dX12_bitWidthWith_14 rfl (lv_at hl 1 rfl) ?_
      obtain ⟨_, h17, hf⟩ := ob_some hf
      obtain ⟨x15, h16, hf⟩ := ob_some hf
      refine gg_cVR (As := [.int l1]) hC hw (X11_dictionary_M l E D A h16) h17 rfl g_ml_X12_135 hd_X11_dictionary (Nat.le_of_ble_eq_true rfl) (Nat.le_of_ble_eq_true rfl) hl.1 rfl (Nat.le_of_ble_eq_true rfl) dX12_bitWidthWith_15 (fun H locs cells slots hw => ?_)
      refine lv_astore_n (lv' := [(3, .ref x15), (0, .ref l0), (1, .int l1), (2, .int l2)]) hx hb dX12_bitWidthWith_18 rfl hl (by decide) rfl (fun ls hl => ?_)
      refine lv_aload_n hx hb dX12_bitWidthWith_19 rfl (lv_at hl 0 rfl) ?_
      refine lv_iload_n hx hb dX12_bitWidthWith_20 rfl (lv_at hl 3 rfl) ?_
      obtain ⟨_, h20, hf⟩ := ob_some hf
      obtain ⟨x18, h19, hf⟩ := ob_some hf
      refine gg_cVI (As := [.int l2]) hC hw (X3_holds_M l E D A h19) h20 rfl g_ml_X12_247 hd_X3_holds (Nat.le_of_ble_eq_true rfl) (Nat.le_of_ble_eq_true rfl) hl.1 rfl (Nat.le_of_ble_eq_true rfl) dX12_bitWidthWith_21 (fun H locs cells slots hw => ?_)
      refine lv_if_eq (tgt := 34) hx hb dX12_bitWidthWith_24 (by decide) (fun c27 => ?_) (fun c27 => ?_)
      · replace hf := (if_pos c27).symm.trans hf
        refine lv_aload_n hx hb dX12_bitWidthWith_34 rfl (lv_at hl 0 rfl) ?_
        obtain ⟨_, h23, hf⟩ := ob_some hf
        obtain ⟨x21, h22, hf⟩ := ob_some hf
        refine gg_cVI (As := []) hC hw (X3_size_M l E D A h22) h23 rfl g_ml_X12_139 hd_X3_size (Nat.le_of_ble_eq_true rfl) (Nat.le_of_ble_eq_true rfl) hl.1 rfl (Nat.le_of_ble_eq_true rfl) dX12_bitWidthWith_35 (fun H locs cells slots hw => ?_)
        refine lv_iconst (v := 1) hx hb dX12_bitWidthWith_38 (by decide) ?_
        refine lv_iadd hx hb dX12_bitWidthWith_39 ?_
        exact X12_bitWidthWith_40_W hC hQ hT hst hf hw (lv_sub hl [] rfl)
      · replace hf := (if_neg c27).symm.trans hf
        refine lv_aload_n hx hb dX12_bitWidthWith_27 rfl (lv_at hl 0 rfl) ?_
        obtain ⟨_, h26, hf⟩ := ob_some hf
        obtain ⟨x24, h25, hf⟩ := ob_some hf
        refine gg_cVI (As := []) hC hw (X3_size_M l E D A h25) h26 rfl g_ml_X12_139 hd_X3_size (Nat.le_of_ble_eq_true rfl) (Nat.le_of_ble_eq_true rfl) hl.1 rfl (Nat.le_of_ble_eq_true rfl) dX12_bitWidthWith_28 (fun H locs cells slots hw => ?_)
        refine lv_goto (tgt := 40) hx hb dX12_bitWidthWith_31 (by decide) ?_
        exact X12_bitWidthWith_40_W hC hQ hT hst hf hw (lv_sub hl [] rfl)

def X12_bitWidthWith_f (E : gE) (l0 : Nat) (l1 : Int32) (l2 : Int32) (σ : gS) : Option ((Nat ⊕ Int32) × gS) := X12_bitWidthWith E l0 l1 l2 σ
set_option maxRecDepth 100000 in
theorem X12_bitWidthWith_M (l : Launch) (hst : l.stackTraces = false) (E : gE) (D : va_G) (A : Nat → Prop) {l0 : Nat} {l1 : Int32} {l2 : Int32} {σ : gS} {res : ((Nat ⊕ Int32) × gS)} (hf : X12_bitWidthWith_f E l0 l1 l2 σ = some res) : gYI l E D A yX12_bitWidthWith (Cond.code yX12_bitWidthWith cX12_bitWidthWith 4 (some FieldType.int)) 7 111 [.ref l0, .int l1, .int l2] σ res := by
  refine gg_entYI (own := RX12) (nm := "bitWidthWith") (ty := FieldType.int) hst (Nat.le_of_ble_eq_true rfl) (Nat.le_of_ble_eq_true rfl) (by decide +kernel) rfl rfl (Nat.le_of_ble_eq_true rfl) rfl ?_
  intro p e R s m args below meth c Q ls hC hw hQ hT hl
  have hl : lv_has ls 4 [(0, .ref l0), (1, .int l1), (2, .int l2)] := hl
  exact X12_bitWidthWith_W hC hQ hT hst hf hw hl

def X12_saveSnapshot (E : gE) (l0 : Nat) (σ : gS) : Option gS :=
  ob (gfR σ l0 10 1) fun x1 =>
  ob (gfR σ l0 10 0) fun x3 =>
  ob (gcl σ x1 9) fun _ =>
  ob (X11_copyFrom_f E x1 x3 σ) fun x5 =>
  ob (gz (1 : Int32)) fun _ =>
  ob (gpf E x5 l0 10 2 (.int (1 : Int32))) fun σ8 =>
  some σ8
set_option maxHeartbeats 4000000 in
set_option maxRecDepth 100000 in
theorem X12_saveSnapshot_W {σ : gS} {l0 : Nat} {σz : gS} {ls : Array Slot} (hC : gC E D A p R s m args meth c cX12_saveSnapshot 1 RX12 "saveSnapshot" 6 144) (hQ : gQV E D A p l e R s m args below meth c Q cX12_saveSnapshot σz) (hf : X12_saveSnapshot E l0 σ = some σz) (hw : gW E D A s σ H locs) (hl : lv_has ls 1 [(0, .ref l0)]) : W p l e R s m args below meth c H locs cells slots Q (F0 m 0 ls []) := by
  have hC0 := hC
  obtain ⟨hx, hb, hml, hown, hts, -⟩ := hC0
  unfold X12_saveSnapshot at hf
  refine lv_aload_n hx hb dX12_saveSnapshot_0 rfl (lv_at hl 0 rfl) ?_
  obtain ⟨x1, h2, hf⟩ := ob_some hf
  refine rR_fl_X12_16 hC hw h2 dX12_saveSnapshot_1 ?_
  refine lv_aload_n hx hb dX12_saveSnapshot_4 rfl (lv_at hl 0 rfl) ?_
  obtain ⟨x3, h4, hf⟩ := ob_some hf
  refine rR_fl_X12_10 hC hw h4 dX12_saveSnapshot_5 ?_
  obtain ⟨_, h7, hf⟩ := ob_some hf
  obtain ⟨x5, h6, hf⟩ := ob_some hf
  refine gg_cVV (As := [.ref x3]) hC hw (X11_copyFrom_M l E D A h6) h7 rfl g_ml_X12_342 hd_X11_copyFrom (Nat.le_of_ble_eq_true rfl) (Nat.le_of_ble_eq_true rfl) hl.1 rfl (Nat.le_of_ble_eq_true rfl) dX12_saveSnapshot_8 (fun H locs cells slots hw => ?_)
  refine lv_aload_n hx hb dX12_saveSnapshot_11 rfl (lv_at hl 0 rfl) ?_
  refine lv_iconst (v := 1) hx hb dX12_saveSnapshot_12 (by decide) ?_
  obtain ⟨_, h10, hf⟩ := ob_some hf
  obtain ⟨σ8, h9, hf⟩ := ob_some hf
  refine p_fl_X12_104 hC hw h9 (gz_some h10) (gz_fits h10) dX12_saveSnapshot_13 (fun H locs hw => ?_)
  cases hf
  exact hQ _ _ _ _ _ _ dX12_saveSnapshot_16 hw

def X12_saveSnapshot_f (E : gE) (l0 : Nat) (σ : gS) : Option gS := X12_saveSnapshot E l0 σ
set_option maxRecDepth 100000 in
theorem X12_saveSnapshot_M (l : Launch) (E : gE) (D : va_G) (A : Nat → Prop) {l0 : Nat} {σ : gS} {σz : gS} (hf : X12_saveSnapshot_f E l0 σ = some σz) : gCV l E D A yX12_saveSnapshot cX12_saveSnapshot 1 6 144 none [.ref l0] σ σz := by
  refine gg_entV (own := RX12) (nm := "saveSnapshot") (by decide +kernel) rfl rfl (Nat.le_of_ble_eq_true rfl) rfl ?_
  intro p e R s m args below meth c Q ls hC hw hQ hl
  have hl : lv_has ls 1 [(0, .ref l0)] := hl
  exact X12_saveSnapshot_W hC hQ hf hw hl

def X12_restoreSnapshot (E : gE) (l0 : Nat) (σ : gS) : Option ((Nat ⊕ Int32) × gS) :=
  ob (gfI σ l0 10 2) fun x1 =>
  if x1 = 0 then
    ob (gthr E σ) fun σ20 =>
    some (Sum.inl 2, σ20)
  else
    ob (gfR σ l0 10 0) fun x3 =>
    ob (gfR σ l0 10 1) fun x5 =>
    ob (gcl σ x3 9) fun _ =>
    ob (X11_copyFrom_f E x3 x5 σ) fun x7 =>
    ob (gfR x7 l0 10 3) fun x10 =>
    ob (gcl x7 x10 4) fun _ =>
    ob (X5_clear_f E x10 x7) fun x12 =>
    ob (gfR x12 l0 10 0) fun x15 =>
    ob (gcl x12 x15 9) fun _ =>
    ob (X11_rows_f E x12 x15) fun x17 =>
    some (Sum.inr x17, x12)
set_option maxHeartbeats 4000000 in
set_option maxRecDepth 100000 in
theorem X12_restoreSnapshot_W {σ : gS} {l0 : Nat} {res : ((Nat ⊕ Int32) × gS)} {ls : Array Slot} (hC : gC E D A p R s m args meth c cX12_restoreSnapshot 1 RX12 "restoreSnapshot" 6 144) (hQ : ∀ (r : Int32) (σ1 : gS), res = (.inr r, σ1) → gQI E D A p l e R s m args below meth c Q cX12_restoreSnapshot FieldType.int (r, σ1)) (hT : ∀ (k : Nat) (σ1 : gS), res = (.inl k, σ1) → gTN E D A p l e R s m args below meth c Q cX12_restoreSnapshot 1 RX12 k σ1) (hst : l.stackTraces = false) (hf : X12_restoreSnapshot E l0 σ = some res) (hw : gW E D A s σ H locs) (hl : lv_has ls 1 [(0, .ref l0)]) : W p l e R s m args below meth c H locs cells slots Q (F0 m 0 ls []) := by
  have hC0 := hC
  obtain ⟨hx, hb, hml, hown, hts, -⟩ := hC0
  unfold X12_restoreSnapshot at hf
  refine lv_aload_n hx hb dX12_restoreSnapshot_0 rfl (lv_at hl 0 rfl) ?_
  obtain ⟨x1, h2, hf⟩ := ob_some hf
  refine rI_fl_X12_104 hC hw h2 dX12_restoreSnapshot_1 ?_
  refine lv_if_ne (tgt := 18) hx hb dX12_restoreSnapshot_4 (by decide) (fun c22 => ?_) (fun c22 => ?_)
  · replace hf := (if_neg c22).symm.trans hf
    refine lv_aload_n hx hb dX12_restoreSnapshot_18 rfl (lv_at hl 0 rfl) ?_
    obtain ⟨x3, h4, hf⟩ := ob_some hf
    refine rR_fl_X12_10 hC hw h4 dX12_restoreSnapshot_19 ?_
    refine lv_aload_n hx hb dX12_restoreSnapshot_22 rfl (lv_at hl 0 rfl) ?_
    obtain ⟨x5, h6, hf⟩ := ob_some hf
    refine rR_fl_X12_16 hC hw h6 dX12_restoreSnapshot_23 ?_
    obtain ⟨_, h9, hf⟩ := ob_some hf
    obtain ⟨x7, h8, hf⟩ := ob_some hf
    refine gg_cVV (As := [.ref x5]) hC hw (X11_copyFrom_M l E D A h8) h9 rfl g_ml_X12_342 hd_X11_copyFrom (Nat.le_of_ble_eq_true rfl) (Nat.le_of_ble_eq_true rfl) hl.1 rfl (Nat.le_of_ble_eq_true rfl) dX12_restoreSnapshot_26 (fun H locs cells slots hw => ?_)
    refine lv_aload_n hx hb dX12_restoreSnapshot_29 rfl (lv_at hl 0 rfl) ?_
    obtain ⟨x10, h11, hf⟩ := ob_some hf
    refine rR_fl_X12_22 hC hw h11 dX12_restoreSnapshot_30 ?_
    obtain ⟨_, h14, hf⟩ := ob_some hf
    obtain ⟨x12, h13, hf⟩ := ob_some hf
    refine gg_cVV (As := []) hC hw (X5_clear_M l E D A h13) h14 rfl g_ml_X12_103 hd_X5_clear (Nat.le_of_ble_eq_true rfl) (Nat.le_of_ble_eq_true rfl) hl.1 rfl (Nat.le_of_ble_eq_true rfl) dX12_restoreSnapshot_33 (fun H locs cells slots hw => ?_)
    refine lv_aload_n hx hb dX12_restoreSnapshot_36 rfl (lv_at hl 0 rfl) ?_
    obtain ⟨x15, h16, hf⟩ := ob_some hf
    refine rR_fl_X12_10 hC hw h16 dX12_restoreSnapshot_37 ?_
    obtain ⟨_, h19, hf⟩ := ob_some hf
    obtain ⟨x17, h18, hf⟩ := ob_some hf
    refine gg_cVI (As := []) hC hw (X11_rows_M l E D A h18) h19 rfl g_ml_X12_108 hd_X11_rows (Nat.le_of_ble_eq_true rfl) (Nat.le_of_ble_eq_true rfl) hl.1 rfl (Nat.le_of_ble_eq_true rfl) dX12_restoreSnapshot_40 (fun H locs cells slots hw => ?_)
    cases hf
    exact hQ _ _ rfl _ _ _ _ _ _ dX12_restoreSnapshot_43 rfl hw
  · replace hf := (if_pos c22).symm.trans hf
    obtain ⟨σ20, h21, hf⟩ := ob_some hf
    cases hf
    exact (hT _ _ rfl).2.1 _ _ _ _ 34 _ _ _ _ _ _ _ h21 hw hl.1 tw_2 rfl rfl rfl dX12_restoreSnapshot_7 dX12_restoreSnapshot_10 dX12_restoreSnapshot_11 dX12_restoreSnapshot_14 dX12_restoreSnapshot_17

def X12_restoreSnapshot_f (E : gE) (l0 : Nat) (σ : gS) : Option ((Nat ⊕ Int32) × gS) := X12_restoreSnapshot E l0 σ
set_option maxRecDepth 100000 in
theorem X12_restoreSnapshot_M (l : Launch) (hst : l.stackTraces = false) (E : gE) (D : va_G) (A : Nat → Prop) {l0 : Nat} {σ : gS} {res : ((Nat ⊕ Int32) × gS)} (hf : X12_restoreSnapshot_f E l0 σ = some res) : gYI l E D A yX12_restoreSnapshot (Cond.code yX12_restoreSnapshot cX12_restoreSnapshot 1 (some FieldType.int)) 6 144 [.ref l0] σ res := by
  refine gg_entYI (own := RX12) (nm := "restoreSnapshot") (ty := FieldType.int) hst (Nat.le_of_ble_eq_true rfl) (Nat.le_of_ble_eq_true rfl) (by decide +kernel) rfl rfl (Nat.le_of_ble_eq_true rfl) rfl ?_
  intro p e R s m args below meth c Q ls hC hw hQ hT hl
  have hl : lv_has ls 1 [(0, .ref l0)] := hl
  exact X12_restoreSnapshot_W hC hQ hT hst hf hw hl

def X12_sumOfSelected_46 (E : gE) (σ : gS) (r_5 : Nat → Int32 → Int64 → Int32 → Option Int64) (l0 : Nat) (l1 : Int32) (l2 : Int64) (l4 : Int32) : Option Int64 :=
  r_5 l0 l1 l2 (l4 + 1)
set_option maxHeartbeats 4000000 in
set_option maxRecDepth 100000 in
theorem X12_sumOfSelected_46_W {σ : gS} {l0 : Nat} {l1 : Int32} {l2 : Int64} {l4 : Int32} {res : Int64} {ls : Array Slot} (hC : gC E D A p R s m args meth c cX12_sumOfSelected 5 RX12 "sumOfSelected" 5 107) (hQ : gQJ E D A p l e R s m args below meth c Q cX12_sumOfSelected (res, σ)) {r_5 : Nat → Int32 → Int64 → Int32 → Option Int64} (h_5 : ∀ {l0 : Nat} {l1 : Int32} {l2 : Int64} {l4 : Int32} {H : Heap} {locs : List Loc} {cells slots : Nat} {ls : Array Slot}, r_5 l0 l1 l2 l4 = some res → gW E D A s σ H locs → lv_has ls 5 [(0, .ref l0), (1, .int l1), (2, .long l2), (4, .int l4)] → W p l e R s m args below meth c H locs cells slots Q (F0 m 5 ls [])) (hf : X12_sumOfSelected_46 E σ r_5 l0 l1 l2 l4 = some res) (hw : gW E D A s σ H locs) (hl : lv_has ls 5 [(0, .ref l0), (1, .int l1), (2, .long l2), (4, .int l4)]) : W p l e R s m args below meth c H locs cells slots Q (F0 m 46 ls []) := by
  have hC0 := hC
  obtain ⟨hx, hb, hml, hown, hts, -⟩ := hC0
  unfold X12_sumOfSelected_46 at hf
  refine lv_iinc (v := (l4 + 1)) (lv' := [(4, .int (l4 + 1)), (0, .ref l0), (1, .int l1), (2, .long l2)]) hx hb dX12_sumOfSelected_46 hl (k := 3) rfl rfl (by decide) rfl (fun ls hl => ?_)
  refine lv_goto (tgt := 5) hx hb dX12_sumOfSelected_49 (by decide) ?_
  exact h_5 hf hw (lv_sub hl [1, 2, 3, 0] rfl)

def X12_sumOfSelected_5_s (E : gE) (σ : gS) (r_5 : Nat → Int32 → Int64 → Int32 → Option Int64) (l0 : Nat) (l1 : Int32) (l2 : Int64) (l4 : Int32) : Option Int64 :=
  ob (gfR σ l0 10 0) fun x1 =>
  ob (gcl σ x1 9) fun _ =>
  ob (X11_rows_f E σ x1) fun x3 =>
  if x3 ≤ l4 then
    some l2
  else
    ob (gfR σ l0 10 0) fun x6 =>
    ob (gcl σ x6 9) fun _ =>
    ob (X11_selects_f E σ x6 l4) fun x8 =>
    if x8 = 0 then
      X12_sumOfSelected_46 E σ r_5 l0 l1 l2 l4
    else
      ob (gfR σ l0 10 0) fun x11 =>
      ob (gcl σ x11 9) fun _ =>
      ob (X11_column_f E σ x11 l1) fun x13 =>
      ob (gcl σ x13 0) fun _ =>
      ob (X1_valueAt_f E σ x13 l4) fun x16 =>
      X12_sumOfSelected_46 E σ r_5 l0 l1 (l2 + x16.toInt64) l4
set_option maxHeartbeats 4000000 in
set_option maxRecDepth 100000 in
theorem X12_sumOfSelected_5_s_W {σ : gS} {l0 : Nat} {l1 : Int32} {l2 : Int64} {l4 : Int32} {res : Int64} {ls : Array Slot} (hC : gC E D A p R s m args meth c cX12_sumOfSelected 5 RX12 "sumOfSelected" 5 107) (hQ : gQJ E D A p l e R s m args below meth c Q cX12_sumOfSelected (res, σ)) {r_5 : Nat → Int32 → Int64 → Int32 → Option Int64} (h_5 : ∀ {l0 : Nat} {l1 : Int32} {l2 : Int64} {l4 : Int32} {H : Heap} {locs : List Loc} {cells slots : Nat} {ls : Array Slot}, r_5 l0 l1 l2 l4 = some res → gW E D A s σ H locs → lv_has ls 5 [(0, .ref l0), (1, .int l1), (2, .long l2), (4, .int l4)] → W p l e R s m args below meth c H locs cells slots Q (F0 m 5 ls [])) (hf : X12_sumOfSelected_5_s E σ r_5 l0 l1 l2 l4 = some res) (hw : gW E D A s σ H locs) (hl : lv_has ls 5 [(0, .ref l0), (1, .int l1), (2, .long l2), (4, .int l4)]) : W p l e R s m args below meth c H locs cells slots Q (F0 m 5 ls []) := by
  have hC0 := hC
  obtain ⟨hx, hb, hml, hown, hts, -⟩ := hC0
  unfold X12_sumOfSelected_5_s at hf
  refine lv_iload hx hb dX12_sumOfSelected_5 (lv_at hl 3 rfl) ?_
  refine lv_aload_n hx hb dX12_sumOfSelected_7 rfl (lv_at hl 0 rfl) ?_
  obtain ⟨x1, h2, hf⟩ := ob_some hf
  refine rR_fl_X12_10 hC hw h2 dX12_sumOfSelected_8 ?_
  obtain ⟨_, h5, hf⟩ := ob_some hf
  obtain ⟨x3, h4, hf⟩ := ob_some hf
  refine gg_cVI (As := []) hC hw (X11_rows_M l E D A h4) h5 rfl g_ml_X12_108 hd_X11_rows (Nat.le_of_ble_eq_true rfl) (Nat.le_of_ble_eq_true rfl) hl.1 rfl (Nat.le_of_ble_eq_true rfl) dX12_sumOfSelected_11 (fun H locs cells slots hw => ?_)
  refine lv_icmp_ge (tgt := 52) hx hb dX12_sumOfSelected_14 (by decide) (fun c20 => ?_) (fun c20 => ?_)
  · replace hf := (if_pos c20).symm.trans hf
    refine lv_lload_n hx hb dX12_sumOfSelected_52 rfl (lv_at hl 2 rfl) ?_
    cases hf
    exact hQ _ _ _ _ _ _ dX12_sumOfSelected_53 hw
  · replace hf := (if_neg c20).symm.trans hf
    refine lv_aload_n hx hb dX12_sumOfSelected_17 rfl (lv_at hl 0 rfl) ?_
    obtain ⟨x6, h7, hf⟩ := ob_some hf
    refine rR_fl_X12_10 hC hw h7 dX12_sumOfSelected_18 ?_
    refine lv_iload hx hb dX12_sumOfSelected_21 (lv_at hl 3 rfl) ?_
    obtain ⟨_, h10, hf⟩ := ob_some hf
    obtain ⟨x8, h9, hf⟩ := ob_some hf
    refine gg_cVI (As := [.int l4]) hC hw (X11_selects_M l E D A h9) h10 rfl g_ml_X12_226 hd_X11_selects (Nat.le_of_ble_eq_true rfl) (Nat.le_of_ble_eq_true rfl) hl.1 rfl (Nat.le_of_ble_eq_true rfl) dX12_sumOfSelected_23 (fun H locs cells slots hw => ?_)
    refine lv_if_eq (tgt := 46) hx hb dX12_sumOfSelected_26 (by decide) (fun c19 => ?_) (fun c19 => ?_)
    · replace hf := (if_pos c19).symm.trans hf
      exact X12_sumOfSelected_46_W hC hQ h_5 hf hw (lv_sub hl [0, 1, 2, 3] rfl)
    · replace hf := (if_neg c19).symm.trans hf
      refine lv_lload_n hx hb dX12_sumOfSelected_29 rfl (lv_at hl 2 rfl) ?_
      refine lv_aload_n hx hb dX12_sumOfSelected_30 rfl (lv_at hl 0 rfl) ?_
      obtain ⟨x11, h12, hf⟩ := ob_some hf
      refine rR_fl_X12_10 hC hw h12 dX12_sumOfSelected_31 ?_
      refine lv_iload_n hx hb dX12_sumOfSelected_34 rfl (lv_at hl 1 rfl) ?_
      obtain ⟨_, h15, hf⟩ := ob_some hf
      obtain ⟨x13, h14, hf⟩ := ob_some hf
      refine gg_cVR (As := [.int l1]) hC hw (X11_column_M l E D A h14) h15 rfl g_ml_X12_122 hd_X11_column (Nat.le_of_ble_eq_true rfl) (Nat.le_of_ble_eq_true rfl) hl.1 rfl (Nat.le_of_ble_eq_true rfl) dX12_sumOfSelected_35 (fun H locs cells slots hw => ?_)
      refine lv_iload hx hb dX12_sumOfSelected_38 (lv_at hl 3 rfl) ?_
      obtain ⟨_, h18, hf⟩ := ob_some hf
      obtain ⟨x16, h17, hf⟩ := ob_some hf
      refine gg_cVI (As := [.int l4]) hC hw (X1_valueAt_M l E D A h17) h18 rfl g_ml_X12_126 hd_X1_valueAt (Nat.le_of_ble_eq_true rfl) (Nat.le_of_ble_eq_true rfl) hl.1 rfl (Nat.le_of_ble_eq_true rfl) dX12_sumOfSelected_40 (fun H locs cells slots hw => ?_)
      refine lv_i2l (v := x16.toInt64) hx hb dX12_sumOfSelected_43 rfl ?_
      refine lv_ladd hx hb dX12_sumOfSelected_44 ?_
      refine lv_lstore_n (lv' := [(2, .long (l2 + x16.toInt64)), (0, .ref l0), (1, .int l1), (4, .int l4)]) hx hb dX12_sumOfSelected_45 rfl hl (by decide) rfl (fun ls hl => ?_)
      exact X12_sumOfSelected_46_W hC hQ h_5 hf hw (lv_sub hl [1, 2, 0, 3] rfl)
def X12_sumOfSelected_5 (E : gE) (σ : gS) : Nat → Nat → Int32 → Int64 → Int32 → Option Int64
  | 0 => fun _ _ _ _ => none
  | n + 1 => X12_sumOfSelected_5_s E σ (X12_sumOfSelected_5 E σ n)
theorem X12_sumOfSelected_5_W {σ : gS} {res : Int64} (hC : gC E D A p R s m args meth c cX12_sumOfSelected 5 RX12 "sumOfSelected" 5 107) (hQ : gQJ E D A p l e R s m args below meth c Q cX12_sumOfSelected (res, σ)) : ∀ (n : Nat), ∀ {l0 : Nat} {l1 : Int32} {l2 : Int64} {l4 : Int32} {H : Heap} {locs : List Loc} {cells slots : Nat} {ls : Array Slot}, X12_sumOfSelected_5 E σ n l0 l1 l2 l4 = some res → gW E D A s σ H locs → lv_has ls 5 [(0, .ref l0), (1, .int l1), (2, .long l2), (4, .int l4)] → W p l e R s m args below meth c H locs cells slots Q (F0 m 5 ls []) := by
  intro n
  induction n with
  | zero =>
    intros
    rename_i hf _ _
    exact absurd hf (fun h => by cases (show (none : Option Int64) = some res from h))
  | succ n ih =>
    intros
    rename_i hf hw hl
    exact X12_sumOfSelected_5_s_W hC hQ ih hf hw hl

def X12_sumOfSelected (E : gE) (σ : gS) (l0 : Nat) (l1 : Int32) : Option Int64 :=
  X12_sumOfSelected_5 E σ (gN E) l0 l1 (0 : Int64) (0 : Int32)
set_option maxHeartbeats 4000000 in
set_option maxRecDepth 100000 in
theorem X12_sumOfSelected_W {σ : gS} {l0 : Nat} {l1 : Int32} {res : Int64} {ls : Array Slot} (hC : gC E D A p R s m args meth c cX12_sumOfSelected 5 RX12 "sumOfSelected" 5 107) (hQ : gQJ E D A p l e R s m args below meth c Q cX12_sumOfSelected (res, σ)) (hf : X12_sumOfSelected E σ l0 l1 = some res) (hw : gW E D A s σ H locs) (hl : lv_has ls 5 [(0, .ref l0), (1, .int l1)]) : W p l e R s m args below meth c H locs cells slots Q (F0 m 0 ls []) := by
  have hC0 := hC
  obtain ⟨hx, hb, hml, hown, hts, -⟩ := hC0
  unfold X12_sumOfSelected at hf
  refine lv_lconst (v := 0) hx hb dX12_sumOfSelected_0 (by decide) ?_
  refine lv_lstore_n (lv' := [(2, .long (0 : Int64)), (0, .ref l0), (1, .int l1)]) hx hb dX12_sumOfSelected_1 rfl hl (by decide) rfl (fun ls hl => ?_)
  refine lv_iconst (v := 0) hx hb dX12_sumOfSelected_2 (by decide) ?_
  refine lv_istore (lv' := [(4, .int (0 : Int32)), (2, .long (0 : Int64)), (0, .ref l0), (1, .int l1)]) hx hb dX12_sumOfSelected_3 hl (by decide) rfl (fun ls hl => ?_)
  exact X12_sumOfSelected_5_W hC hQ (gN E) hf hw (lv_sub hl [2, 3, 1, 0] rfl)

def X12_sumOfSelected_f (E : gE) (σ : gS) (l0 : Nat) (l1 : Int32) : Option Int64 := X12_sumOfSelected E σ l0 l1
set_option maxRecDepth 100000 in
theorem X12_sumOfSelected_M (l : Launch) (E : gE) (D : va_G) (A : Nat → Prop) {l0 : Nat} {l1 : Int32} {σ : gS} {res : Int64} (hf : X12_sumOfSelected_f E σ l0 l1 = some res) : gCJ l E D A yX12_sumOfSelected cX12_sumOfSelected 5 5 107 (some FieldType.long) [.ref l0, .int l1] σ (res, σ) := by
  refine gg_entJ (own := RX12) (nm := "sumOfSelected") (by decide +kernel) rfl rfl (Nat.le_of_ble_eq_true rfl) rfl ?_
  intro p e R s m args below meth c Q ls hC hw hQ hl
  have hl : lv_has ls 5 [(0, .ref l0), (1, .int l1)] := hl
  exact X12_sumOfSelected_W hC hQ hf hw hl

def X12_collectSelected_50 (E : gE) (r_9 : Nat → Int32 → Int32 → gS → Option gS) (l0 : Nat) (l1 : Int32) (l2 : Int32) (σ : gS) : Option gS :=
  r_9 l0 l1 (l2 + 1) σ
set_option maxHeartbeats 4000000 in
set_option maxRecDepth 100000 in
theorem X12_collectSelected_50_W {σ : gS} {l0 : Nat} {l1 : Int32} {l2 : Int32} {σz : gS} {ls : Array Slot} (hC : gC E D A p R s m args meth c cX12_collectSelected 3 RX12 "collectSelected" 5 124) (hQ : gQV E D A p l e R s m args below meth c Q cX12_collectSelected σz) {r_9 : Nat → Int32 → Int32 → gS → Option gS} (h_9 : ∀ {l0 : Nat} {l1 : Int32} {l2 : Int32} {σ : gS} {H : Heap} {locs : List Loc} {cells slots : Nat} {ls : Array Slot}, r_9 l0 l1 l2 σ = some σz → gW E D A s σ H locs → lv_has ls 3 [(0, .ref l0), (1, .int l1), (2, .int l2)] → W p l e R s m args below meth c H locs cells slots Q (F0 m 9 ls [])) (hf : X12_collectSelected_50 E r_9 l0 l1 l2 σ = some σz) (hw : gW E D A s σ H locs) (hl : lv_has ls 3 [(0, .ref l0), (1, .int l1), (2, .int l2)]) : W p l e R s m args below meth c H locs cells slots Q (F0 m 50 ls []) := by
  have hC0 := hC
  obtain ⟨hx, hb, hml, hown, hts, -⟩ := hC0
  unfold X12_collectSelected_50 at hf
  refine lv_iinc (v := (l2 + 1)) (lv' := [(2, .int (l2 + 1)), (0, .ref l0), (1, .int l1)]) hx hb dX12_collectSelected_50 hl (k := 2) rfl rfl (by decide) rfl (fun ls hl => ?_)
  refine lv_goto (tgt := 9) hx hb dX12_collectSelected_53 (by decide) ?_
  exact h_9 hf hw (lv_sub hl [1, 2, 0] rfl)

def X12_collectSelected_9_s (E : gE) (r_9 : Nat → Int32 → Int32 → gS → Option gS) (l0 : Nat) (l1 : Int32) (l2 : Int32) (σ : gS) : Option gS :=
  ob (gfR σ l0 10 0) fun x1 =>
  ob (gcl σ x1 9) fun _ =>
  ob (X11_rows_f E σ x1) fun x3 =>
  if x3 ≤ l2 then
    some σ
  else
    ob (gfR σ l0 10 0) fun x6 =>
    ob (gcl σ x6 9) fun _ =>
    ob (X11_selects_f E σ x6 l2) fun x8 =>
    if x8 = 0 then
      X12_collectSelected_50 E r_9 l0 l1 l2 σ
    else
      ob (gfR σ l0 10 9) fun x11 =>
      ob (gfR σ l0 10 0) fun x13 =>
      ob (gcl σ x13 9) fun _ =>
      ob (X11_column_f E σ x13 l1) fun x15 =>
      ob (gcl σ x15 0) fun _ =>
      ob (X1_valueAt_f E σ x15 l2) fun x18 =>
      ob (gcl σ x11 2) fun _ =>
      ob (X3_insert_f E x11 x18 σ) fun x21 =>
      X12_collectSelected_50 E r_9 l0 l1 l2 x21
set_option maxHeartbeats 4000000 in
set_option maxRecDepth 100000 in
theorem X12_collectSelected_9_s_W {σ : gS} {l0 : Nat} {l1 : Int32} {l2 : Int32} {σz : gS} {ls : Array Slot} (hC : gC E D A p R s m args meth c cX12_collectSelected 3 RX12 "collectSelected" 5 124) (hQ : gQV E D A p l e R s m args below meth c Q cX12_collectSelected σz) {r_9 : Nat → Int32 → Int32 → gS → Option gS} (h_9 : ∀ {l0 : Nat} {l1 : Int32} {l2 : Int32} {σ : gS} {H : Heap} {locs : List Loc} {cells slots : Nat} {ls : Array Slot}, r_9 l0 l1 l2 σ = some σz → gW E D A s σ H locs → lv_has ls 3 [(0, .ref l0), (1, .int l1), (2, .int l2)] → W p l e R s m args below meth c H locs cells slots Q (F0 m 9 ls [])) (hf : X12_collectSelected_9_s E r_9 l0 l1 l2 σ = some σz) (hw : gW E D A s σ H locs) (hl : lv_has ls 3 [(0, .ref l0), (1, .int l1), (2, .int l2)]) : W p l e R s m args below meth c H locs cells slots Q (F0 m 9 ls []) := by
  have hC0 := hC
  obtain ⟨hx, hb, hml, hown, hts, -⟩ := hC0
  unfold X12_collectSelected_9_s at hf
  refine lv_iload_n hx hb dX12_collectSelected_9 rfl (lv_at hl 2 rfl) ?_
  refine lv_aload_n hx hb dX12_collectSelected_10 rfl (lv_at hl 0 rfl) ?_
  obtain ⟨x1, h2, hf⟩ := ob_some hf
  refine rR_fl_X12_10 hC hw h2 dX12_collectSelected_11 ?_
  obtain ⟨_, h5, hf⟩ := ob_some hf
  obtain ⟨x3, h4, hf⟩ := ob_some hf
  refine gg_cVI (As := []) hC hw (X11_rows_M l E D A h4) h5 rfl g_ml_X12_108 hd_X11_rows (Nat.le_of_ble_eq_true rfl) (Nat.le_of_ble_eq_true rfl) hl.1 rfl (Nat.le_of_ble_eq_true rfl) dX12_collectSelected_14 (fun H locs cells slots hw => ?_)
  refine lv_icmp_ge (tgt := 56) hx hb dX12_collectSelected_17 (by decide) (fun c25 => ?_) (fun c25 => ?_)
  · replace hf := (if_pos c25).symm.trans hf
    cases hf
    exact hQ _ _ _ _ _ _ dX12_collectSelected_56 hw
  · replace hf := (if_neg c25).symm.trans hf
    refine lv_aload_n hx hb dX12_collectSelected_20 rfl (lv_at hl 0 rfl) ?_
    obtain ⟨x6, h7, hf⟩ := ob_some hf
    refine rR_fl_X12_10 hC hw h7 dX12_collectSelected_21 ?_
    refine lv_iload_n hx hb dX12_collectSelected_24 rfl (lv_at hl 2 rfl) ?_
    obtain ⟨_, h10, hf⟩ := ob_some hf
    obtain ⟨x8, h9, hf⟩ := ob_some hf
    refine gg_cVI (As := [.int l2]) hC hw (X11_selects_M l E D A h9) h10 rfl g_ml_X12_226 hd_X11_selects (Nat.le_of_ble_eq_true rfl) (Nat.le_of_ble_eq_true rfl) hl.1 rfl (Nat.le_of_ble_eq_true rfl) dX12_collectSelected_25 (fun H locs cells slots hw => ?_)
    refine lv_if_eq (tgt := 50) hx hb dX12_collectSelected_28 (by decide) (fun c24 => ?_) (fun c24 => ?_)
    · replace hf := (if_pos c24).symm.trans hf
      exact X12_collectSelected_50_W hC hQ h_9 hf hw (lv_sub hl [0, 1, 2] rfl)
    · replace hf := (if_neg c24).symm.trans hf
      refine lv_aload_n hx hb dX12_collectSelected_31 rfl (lv_at hl 0 rfl) ?_
      obtain ⟨x11, h12, hf⟩ := ob_some hf
      refine rR_fl_X12_56 hC hw h12 dX12_collectSelected_32 ?_
      refine lv_aload_n hx hb dX12_collectSelected_35 rfl (lv_at hl 0 rfl) ?_
      obtain ⟨x13, h14, hf⟩ := ob_some hf
      refine rR_fl_X12_10 hC hw h14 dX12_collectSelected_36 ?_
      refine lv_iload_n hx hb dX12_collectSelected_39 rfl (lv_at hl 1 rfl) ?_
      obtain ⟨_, h17, hf⟩ := ob_some hf
      obtain ⟨x15, h16, hf⟩ := ob_some hf
      refine gg_cVR (As := [.int l1]) hC hw (X11_column_M l E D A h16) h17 rfl g_ml_X12_122 hd_X11_column (Nat.le_of_ble_eq_true rfl) (Nat.le_of_ble_eq_true rfl) hl.1 rfl (Nat.le_of_ble_eq_true rfl) dX12_collectSelected_40 (fun H locs cells slots hw => ?_)
      refine lv_iload_n hx hb dX12_collectSelected_43 rfl (lv_at hl 2 rfl) ?_
      obtain ⟨_, h20, hf⟩ := ob_some hf
      obtain ⟨x18, h19, hf⟩ := ob_some hf
      refine gg_cVI (As := [.int l2]) hC hw (X1_valueAt_M l E D A h19) h20 rfl g_ml_X12_126 hd_X1_valueAt (Nat.le_of_ble_eq_true rfl) (Nat.le_of_ble_eq_true rfl) hl.1 rfl (Nat.le_of_ble_eq_true rfl) dX12_collectSelected_44 (fun H locs cells slots hw => ?_)
      obtain ⟨_, h23, hf⟩ := ob_some hf
      obtain ⟨x21, h22, hf⟩ := ob_some hf
      refine gg_cVV (As := [.int x18]) hC hw (X3_insert_M l E D A h22) h23 rfl g_ml_X12_371 hd_X3_insert (Nat.le_of_ble_eq_true rfl) (Nat.le_of_ble_eq_true rfl) hl.1 rfl (Nat.le_of_ble_eq_true rfl) dX12_collectSelected_47 (fun H locs cells slots hw => ?_)
      exact X12_collectSelected_50_W hC hQ h_9 hf hw (lv_sub hl [0, 1, 2] rfl)
def X12_collectSelected_9 (E : gE) : Nat → Nat → Int32 → Int32 → gS → Option gS
  | 0 => fun _ _ _ _ => none
  | n + 1 => X12_collectSelected_9_s E (X12_collectSelected_9 E n)
theorem X12_collectSelected_9_W {σz : gS} (hC : gC E D A p R s m args meth c cX12_collectSelected 3 RX12 "collectSelected" 5 124) (hQ : gQV E D A p l e R s m args below meth c Q cX12_collectSelected σz) : ∀ (n : Nat), ∀ {l0 : Nat} {l1 : Int32} {l2 : Int32} {σ : gS} {H : Heap} {locs : List Loc} {cells slots : Nat} {ls : Array Slot}, X12_collectSelected_9 E n l0 l1 l2 σ = some σz → gW E D A s σ H locs → lv_has ls 3 [(0, .ref l0), (1, .int l1), (2, .int l2)] → W p l e R s m args below meth c H locs cells slots Q (F0 m 9 ls []) := by
  intro n
  induction n with
  | zero =>
    intros
    rename_i hf _ _
    exact absurd hf (fun h => by cases (show (none : Option gS) = some σz from h))
  | succ n ih =>
    intros
    rename_i hf hw hl
    exact X12_collectSelected_9_s_W hC hQ ih hf hw hl

def X12_collectSelected (E : gE) (l0 : Nat) (l1 : Int32) (σ : gS) : Option gS :=
  ob (gfR σ l0 10 9) fun x26 =>
  ob (gcl σ x26 2) fun _ =>
  ob (X3_clear_f E x26 σ) fun x28 =>
  X12_collectSelected_9 E (gN E) l0 l1 (0 : Int32) x28
set_option maxHeartbeats 4000000 in
set_option maxRecDepth 100000 in
theorem X12_collectSelected_W {σ : gS} {l0 : Nat} {l1 : Int32} {σz : gS} {ls : Array Slot} (hC : gC E D A p R s m args meth c cX12_collectSelected 3 RX12 "collectSelected" 5 124) (hQ : gQV E D A p l e R s m args below meth c Q cX12_collectSelected σz) (hf : X12_collectSelected E l0 l1 σ = some σz) (hw : gW E D A s σ H locs) (hl : lv_has ls 3 [(0, .ref l0), (1, .int l1)]) : W p l e R s m args below meth c H locs cells slots Q (F0 m 0 ls []) := by
  have hC0 := hC
  obtain ⟨hx, hb, hml, hown, hts, -⟩ := hC0
  unfold X12_collectSelected at hf
  refine lv_aload_n hx hb dX12_collectSelected_0 rfl (lv_at hl 0 rfl) ?_
  obtain ⟨x26, h27, hf⟩ := ob_some hf
  refine rR_fl_X12_56 hC hw h27 dX12_collectSelected_1 ?_
  obtain ⟨_, h30, hf⟩ := ob_some hf
  obtain ⟨x28, h29, hf⟩ := ob_some hf
  refine gg_cVV (As := []) hC hw (X3_clear_M l E D A h29) h30 rfl g_ml_X12_370 hd_X3_clear (Nat.le_of_ble_eq_true rfl) (Nat.le_of_ble_eq_true rfl) hl.1 rfl (Nat.le_of_ble_eq_true rfl) dX12_collectSelected_4 (fun H locs cells slots hw => ?_)
  refine lv_iconst (v := 0) hx hb dX12_collectSelected_7 (by decide) ?_
  refine lv_istore_n (lv' := [(2, .int (0 : Int32)), (0, .ref l0), (1, .int l1)]) hx hb dX12_collectSelected_8 rfl hl (by decide) rfl (fun ls hl => ?_)
  exact X12_collectSelected_9_W hC hQ (gN E) hf hw (lv_sub hl [1, 2, 0] rfl)

def X12_collectSelected_f (E : gE) (l0 : Nat) (l1 : Int32) (σ : gS) : Option gS := X12_collectSelected E l0 l1 σ
set_option maxRecDepth 100000 in
theorem X12_collectSelected_M (l : Launch) (E : gE) (D : va_G) (A : Nat → Prop) {l0 : Nat} {l1 : Int32} {σ : gS} {σz : gS} (hf : X12_collectSelected_f E l0 l1 σ = some σz) : gCV l E D A yX12_collectSelected cX12_collectSelected 3 5 124 none [.ref l0, .int l1] σ σz := by
  refine gg_entV (own := RX12) (nm := "collectSelected") (by decide +kernel) rfl rfl (Nat.le_of_ble_eq_true rfl) rfl ?_
  intro p e R s m args below meth c Q ls hC hw hQ hl
  have hl : lv_has ls 3 [(0, .ref l0), (1, .int l1)] := hl
  exact X12_collectSelected_W hC hQ hf hw hl

def X12_runsAfterSorting_20_s (E : gE) (r_20 : Nat → Int32 → Int32 → gS → Option (Int32 × gS)) (l0 : Nat) (l2 : Int32) (l3 : Int32) (σ : gS) : Option (Int32 × gS) :=
  ob (gfR σ l0 10 0) fun x1 =>
  ob (gcl σ x1 9) fun _ =>
  ob (X11_columns_f E σ x1) fun x3 =>
  if x3 ≤ l3 then
    some (l2, σ)
  else
    ob (gfR σ l0 10 0) fun x6 =>
    ob (gcl σ x6 9) fun _ =>
    ob (X11_column_f E σ x6 l3) fun x8 =>
    ob (gfR σ l0 10 8) fun x11 =>
    ob (gcl σ x8 0) fun _ =>
    ob (X1_runsIn_f E σ x8 x11) fun x13 =>
    r_20 l0 (l2 + x13) (l3 + 1) σ
set_option maxHeartbeats 4000000 in
set_option maxRecDepth 100000 in
theorem X12_runsAfterSorting_20_s_W {σ : gS} {l0 : Nat} {l2 : Int32} {l3 : Int32} {res : (Int32 × gS)} {ls : Array Slot} (hC : gC E D A p R s m args meth c cX12_runsAfterSorting 4 RX12 "runsAfterSorting" 2 48) (hQ : gQI E D A p l e R s m args below meth c Q cX12_runsAfterSorting FieldType.int res) {r_20 : Nat → Int32 → Int32 → gS → Option (Int32 × gS)} (h_20 : ∀ {l0 : Nat} {l2 : Int32} {l3 : Int32} {σ : gS} {H : Heap} {locs : List Loc} {cells slots : Nat} {ls : Array Slot}, r_20 l0 l2 l3 σ = some res → gW E D A s σ H locs → lv_has ls 4 [(0, .ref l0), (2, .int l2), (3, .int l3)] → W p l e R s m args below meth c H locs cells slots Q (F0 m 20 ls [])) (hf : X12_runsAfterSorting_20_s E r_20 l0 l2 l3 σ = some res) (hw : gW E D A s σ H locs) (hl : lv_has ls 4 [(0, .ref l0), (2, .int l2), (3, .int l3)]) : W p l e R s m args below meth c H locs cells slots Q (F0 m 20 ls []) := by
  have hC0 := hC
  obtain ⟨hx, hb, hml, hown, hts, -⟩ := hC0
  unfold X12_runsAfterSorting_20_s at hf
  refine lv_iload_n hx hb dX12_runsAfterSorting_20 rfl (lv_at hl 2 rfl) ?_
  refine lv_aload_n hx hb dX12_runsAfterSorting_21 rfl (lv_at hl 0 rfl) ?_
  obtain ⟨x1, h2, hf⟩ := ob_some hf
  refine rR_fl_X12_10 hC hw h2 dX12_runsAfterSorting_22 ?_
  obtain ⟨_, h5, hf⟩ := ob_some hf
  obtain ⟨x3, h4, hf⟩ := ob_some hf
  refine gg_cVI (As := []) hC hw (X11_columns_M l E D A h4) h5 rfl g_ml_X12_115 hd_X11_columns (Nat.le_of_ble_eq_true rfl) (Nat.le_of_ble_eq_true rfl) hl.1 rfl (Nat.le_of_ble_eq_true rfl) dX12_runsAfterSorting_25 (fun H locs cells slots hw => ?_)
  refine lv_icmp_ge (tgt := 55) hx hb dX12_runsAfterSorting_28 (by decide) (fun c16 => ?_) (fun c16 => ?_)
  · replace hf := (if_pos c16).symm.trans hf
    refine lv_iload_n hx hb dX12_runsAfterSorting_55 rfl (lv_at hl 1 rfl) ?_
    cases hf
    exact hQ _ _ _ _ _ _ dX12_runsAfterSorting_56 rfl hw
  · replace hf := (if_neg c16).symm.trans hf
    refine lv_iload_n hx hb dX12_runsAfterSorting_31 rfl (lv_at hl 1 rfl) ?_
    refine lv_aload_n hx hb dX12_runsAfterSorting_32 rfl (lv_at hl 0 rfl) ?_
    obtain ⟨x6, h7, hf⟩ := ob_some hf
    refine rR_fl_X12_10 hC hw h7 dX12_runsAfterSorting_33 ?_
    refine lv_iload_n hx hb dX12_runsAfterSorting_36 rfl (lv_at hl 2 rfl) ?_
    obtain ⟨_, h10, hf⟩ := ob_some hf
    obtain ⟨x8, h9, hf⟩ := ob_some hf
    refine gg_cVR (As := [.int l3]) hC hw (X11_column_M l E D A h9) h10 rfl g_ml_X12_122 hd_X11_column (Nat.le_of_ble_eq_true rfl) (Nat.le_of_ble_eq_true rfl) hl.1 rfl (Nat.le_of_ble_eq_true rfl) dX12_runsAfterSorting_37 (fun H locs cells slots hw => ?_)
    refine lv_aload_n hx hb dX12_runsAfterSorting_40 rfl (lv_at hl 0 rfl) ?_
    obtain ⟨x11, h12, hf⟩ := ob_some hf
    refine rR_fl_X12_49 hC hw h12 dX12_runsAfterSorting_41 ?_
    obtain ⟨_, h15, hf⟩ := ob_some hf
    obtain ⟨x13, h14, hf⟩ := ob_some hf
    refine gg_cVI (As := [.ref x11]) hC hw (X1_runsIn_M l E D A h14) h15 rfl g_ml_X12_187 hd_X1_runsIn (Nat.le_of_ble_eq_true rfl) (Nat.le_of_ble_eq_true rfl) hl.1 rfl (Nat.le_of_ble_eq_true rfl) dX12_runsAfterSorting_44 (fun H locs cells slots hw => ?_)
    refine lv_iadd hx hb dX12_runsAfterSorting_47 ?_
    refine lv_istore_n (lv' := [(2, .int (l2 + x13)), (0, .ref l0), (3, .int l3)]) hx hb dX12_runsAfterSorting_48 rfl hl (by decide) rfl (fun ls hl => ?_)
    refine lv_iinc (v := (l3 + 1)) (lv' := [(3, .int (l3 + 1)), (2, .int (l2 + x13)), (0, .ref l0)]) hx hb dX12_runsAfterSorting_49 hl (k := 2) rfl rfl (by decide) rfl (fun ls hl => ?_)
    refine lv_goto (tgt := 20) hx hb dX12_runsAfterSorting_52 (by decide) ?_
    exact h_20 hf hw (lv_sub hl [2, 1, 0] rfl)
def X12_runsAfterSorting_20 (E : gE) : Nat → Nat → Int32 → Int32 → gS → Option (Int32 × gS)
  | 0 => fun _ _ _ _ => none
  | n + 1 => X12_runsAfterSorting_20_s E (X12_runsAfterSorting_20 E n)
theorem X12_runsAfterSorting_20_W {res : (Int32 × gS)} (hC : gC E D A p R s m args meth c cX12_runsAfterSorting 4 RX12 "runsAfterSorting" 2 48) (hQ : gQI E D A p l e R s m args below meth c Q cX12_runsAfterSorting FieldType.int res) : ∀ (n : Nat), ∀ {l0 : Nat} {l2 : Int32} {l3 : Int32} {σ : gS} {H : Heap} {locs : List Loc} {cells slots : Nat} {ls : Array Slot}, X12_runsAfterSorting_20 E n l0 l2 l3 σ = some res → gW E D A s σ H locs → lv_has ls 4 [(0, .ref l0), (2, .int l2), (3, .int l3)] → W p l e R s m args below meth c H locs cells slots Q (F0 m 20 ls []) := by
  intro n
  induction n with
  | zero =>
    intros
    rename_i hf _ _
    exact absurd hf (fun h => by cases (show (none : Option (Int32 × gS)) = some res from h))
  | succ n ih =>
    intros
    rename_i hf hw hl
    exact X12_runsAfterSorting_20_s_W hC hQ ih hf hw hl

def X12_runsAfterSorting (E : gE) (l0 : Nat) (l1 : Int32) (σ : gS) : Option (Int32 × gS) :=
  ob (gfR σ l0 10 8) fun x17 =>
  ob (gfR σ l0 10 0) fun x19 =>
  ob (gcl σ x19 9) fun _ =>
  ob (X11_column_f E σ x19 l1) fun x21 =>
  ob (gcl σ x17 8) fun _ =>
  ob (X10_sortBy_f E x17 x21 (1 : Int32) σ) fun x24 =>
  X12_runsAfterSorting_20 E (gN E) l0 (0 : Int32) (0 : Int32) x24
set_option maxHeartbeats 4000000 in
set_option maxRecDepth 100000 in
theorem X12_runsAfterSorting_W {σ : gS} {l0 : Nat} {l1 : Int32} {res : (Int32 × gS)} {ls : Array Slot} (hC : gC E D A p R s m args meth c cX12_runsAfterSorting 4 RX12 "runsAfterSorting" 2 48) (hQ : gQI E D A p l e R s m args below meth c Q cX12_runsAfterSorting FieldType.int res) (hf : X12_runsAfterSorting E l0 l1 σ = some res) (hw : gW E D A s σ H locs) (hl : lv_has ls 4 [(0, .ref l0), (1, .int l1)]) : W p l e R s m args below meth c H locs cells slots Q (F0 m 0 ls []) := by
  have hC0 := hC
  obtain ⟨hx, hb, hml, hown, hts, -⟩ := hC0
  unfold X12_runsAfterSorting at hf
  refine lv_aload_n hx hb dX12_runsAfterSorting_0 rfl (lv_at hl 0 rfl) ?_
  obtain ⟨x17, h18, hf⟩ := ob_some hf
  refine rR_fl_X12_49 hC hw h18 dX12_runsAfterSorting_1 ?_
  refine lv_aload_n hx hb dX12_runsAfterSorting_4 rfl (lv_at hl 0 rfl) ?_
  obtain ⟨x19, h20, hf⟩ := ob_some hf
  refine rR_fl_X12_10 hC hw h20 dX12_runsAfterSorting_5 ?_
  refine lv_iload_n hx hb dX12_runsAfterSorting_8 rfl (lv_at hl 1 rfl) ?_
  obtain ⟨_, h23, hf⟩ := ob_some hf
  obtain ⟨x21, h22, hf⟩ := ob_some hf
  refine gg_cVR (As := [.int l1]) hC hw (X11_column_M l E D A h22) h23 rfl g_ml_X12_122 hd_X11_column (Nat.le_of_ble_eq_true rfl) (Nat.le_of_ble_eq_true rfl) hl.1 rfl (Nat.le_of_ble_eq_true rfl) dX12_runsAfterSorting_9 (fun H locs cells slots hw => ?_)
  refine lv_iconst (v := 1) hx hb dX12_runsAfterSorting_12 (by decide) ?_
  obtain ⟨_, h26, hf⟩ := ob_some hf
  obtain ⟨x24, h25, hf⟩ := ob_some hf
  refine gg_cVV (As := [.ref x21, .int (1 : Int32)]) hC hw (X10_sortBy_M l E D A h25) h26 rfl g_ml_X12_374 hd_X10_sortBy (Nat.le_of_ble_eq_true rfl) (Nat.le_of_ble_eq_true rfl) hl.1 rfl (Nat.le_of_ble_eq_true rfl) dX12_runsAfterSorting_13 (fun H locs cells slots hw => ?_)
  refine lv_iconst (v := 0) hx hb dX12_runsAfterSorting_16 (by decide) ?_
  refine lv_istore_n (lv' := [(2, .int (0 : Int32)), (0, .ref l0), (1, .int l1)]) hx hb dX12_runsAfterSorting_17 rfl hl (by decide) rfl (fun ls hl => ?_)
  refine lv_iconst (v := 0) hx hb dX12_runsAfterSorting_18 (by decide) ?_
  refine lv_istore_n (lv' := [(3, .int (0 : Int32)), (2, .int (0 : Int32)), (0, .ref l0), (1, .int l1)]) hx hb dX12_runsAfterSorting_19 rfl hl (by decide) rfl (fun ls hl => ?_)
  exact X12_runsAfterSorting_20_W hC hQ (gN E) hf hw (lv_sub hl [2, 1, 0] rfl)

def X12_runsAfterSorting_f (E : gE) (l0 : Nat) (l1 : Int32) (σ : gS) : Option (Int32 × gS) := X12_runsAfterSorting E l0 l1 σ
set_option maxRecDepth 100000 in
theorem X12_runsAfterSorting_M (l : Launch) (E : gE) (D : va_G) (A : Nat → Prop) {l0 : Nat} {l1 : Int32} {σ : gS} {res : (Int32 × gS)} (hf : X12_runsAfterSorting_f E l0 l1 σ = some res) : gCI l E D A yX12_runsAfterSorting cX12_runsAfterSorting 4 2 48 (some FieldType.int) [.ref l0, .int l1] σ res := by
  refine gg_entI (own := RX12) (nm := "runsAfterSorting") (ty := FieldType.int) (by decide +kernel) rfl rfl (Nat.le_of_ble_eq_true rfl) rfl ?_
  intro p e R s m args below meth c Q ls hC hw hQ hl
  have hl : lv_has ls 4 [(0, .ref l0), (1, .int l1)] := hl
  exact X12_runsAfterSorting_W hC hQ hf hw hl

def X12_packingDifferences_62 (E : gE) (r_12 : Nat → Nat → Int32 → Int32 → gS → Option (Int32 × gS)) (l0 : Nat) (l1 : Nat) (l2 : Int32) (l3 : Int32) (σ : gS) : Option (Int32 × gS) :=
  r_12 l0 l1 l2 (l3 + 1) σ
set_option maxHeartbeats 4000000 in
set_option maxRecDepth 100000 in
theorem X12_packingDifferences_62_W {σ : gS} {l0 : Nat} {l1 : Nat} {l2 : Int32} {l3 : Int32} {res : (Int32 × gS)} {ls : Array Slot} (hC : gC E D A p R s m args meth c cX12_packingDifferences 5 RX12 "packingDifferences" 4 89) (hQ : gQI E D A p l e R s m args below meth c Q cX12_packingDifferences FieldType.int res) {r_12 : Nat → Nat → Int32 → Int32 → gS → Option (Int32 × gS)} (h_12 : ∀ {l0 : Nat} {l1 : Nat} {l2 : Int32} {l3 : Int32} {σ : gS} {H : Heap} {locs : List Loc} {cells slots : Nat} {ls : Array Slot}, r_12 l0 l1 l2 l3 σ = some res → gW E D A s σ H locs → lv_has ls 5 [(0, .ref l0), (1, .ref l1), (2, .int l2), (3, .int l3)] → W p l e R s m args below meth c H locs cells slots Q (F0 m 12 ls [])) (hf : X12_packingDifferences_62 E r_12 l0 l1 l2 l3 σ = some res) (hw : gW E D A s σ H locs) (hl : lv_has ls 5 [(0, .ref l0), (1, .ref l1), (2, .int l2), (3, .int l3)]) : W p l e R s m args below meth c H locs cells slots Q (F0 m 62 ls []) := by
  have hC0 := hC
  obtain ⟨hx, hb, hml, hown, hts, -⟩ := hC0
  unfold X12_packingDifferences_62 at hf
  refine lv_iinc (v := (l3 + 1)) (lv' := [(3, .int (l3 + 1)), (0, .ref l0), (1, .ref l1), (2, .int l2)]) hx hb dX12_packingDifferences_62 hl (k := 3) rfl rfl (by decide) rfl (fun ls hl => ?_)
  refine lv_goto (tgt := 12) hx hb dX12_packingDifferences_65 (by decide) ?_
  exact h_12 hf hw (lv_sub hl [1, 2, 3, 0] rfl)

def X12_packingDifferences_59 (E : gE) (r_12 : Nat → Nat → Int32 → Int32 → gS → Option (Int32 × gS)) (l0 : Nat) (l1 : Nat) (l2 : Int32) (l3 : Int32) (σ : gS) : Option (Int32 × gS) :=
  X12_packingDifferences_62 E r_12 l0 l1 (l2 + 1) l3 σ
set_option maxHeartbeats 4000000 in
set_option maxRecDepth 100000 in
theorem X12_packingDifferences_59_W {σ : gS} {l0 : Nat} {l1 : Nat} {l2 : Int32} {l3 : Int32} {res : (Int32 × gS)} {ls : Array Slot} (hC : gC E D A p R s m args meth c cX12_packingDifferences 5 RX12 "packingDifferences" 4 89) (hQ : gQI E D A p l e R s m args below meth c Q cX12_packingDifferences FieldType.int res) {r_12 : Nat → Nat → Int32 → Int32 → gS → Option (Int32 × gS)} (h_12 : ∀ {l0 : Nat} {l1 : Nat} {l2 : Int32} {l3 : Int32} {σ : gS} {H : Heap} {locs : List Loc} {cells slots : Nat} {ls : Array Slot}, r_12 l0 l1 l2 l3 σ = some res → gW E D A s σ H locs → lv_has ls 5 [(0, .ref l0), (1, .ref l1), (2, .int l2), (3, .int l3)] → W p l e R s m args below meth c H locs cells slots Q (F0 m 12 ls [])) (hf : X12_packingDifferences_59 E r_12 l0 l1 l2 l3 σ = some res) (hw : gW E D A s σ H locs) (hl : lv_has ls 5 [(0, .ref l0), (1, .ref l1), (2, .int l2), (3, .int l3)]) : W p l e R s m args below meth c H locs cells slots Q (F0 m 59 ls []) := by
  have hC0 := hC
  obtain ⟨hx, hb, hml, hown, hts, -⟩ := hC0
  unfold X12_packingDifferences_59 at hf
  refine lv_iinc (v := (l2 + 1)) (lv' := [(2, .int (l2 + 1)), (0, .ref l0), (1, .ref l1), (3, .int l3)]) hx hb dX12_packingDifferences_59 hl (k := 2) rfl rfl (by decide) rfl (fun ls hl => ?_)
  exact X12_packingDifferences_62_W hC hQ h_12 hf hw (lv_sub hl [1, 2, 0, 3] rfl)

def X12_packingDifferences_12_s (E : gE) (r_12 : Nat → Nat → Int32 → Int32 → gS → Option (Int32 × gS)) (l0 : Nat) (l1 : Nat) (l2 : Int32) (l3 : Int32) (σ : gS) : Option (Int32 × gS) :=
  ob (gcl σ l1 0) fun _ =>
  ob (X1_length_f E σ l1) fun x1 =>
  if x1 ≤ l3 then
    some (l2, σ)
  else
    ob (gfR σ l0 10 10) fun x4 =>
    ob (gcl σ x4 6) fun _ =>
    ob (X8_unpack_f E σ x4 l3) fun x6 =>
    ob (gcl σ l1 0) fun _ =>
    ob (X1_dictionary_f E σ l1) fun x9 =>
    ob (gcl σ x9 2) fun _ =>
    ob (X3_size_f E σ x9) fun x12 =>
    if x12 ≤ x6 then
      X12_packingDifferences_59 E r_12 l0 l1 l2 l3 σ
    else
      ob (gcl σ l1 0) fun _ =>
      ob (X1_dictionary_f E σ l1) fun x15 =>
      ob (gcl σ x15 2) fun _ =>
      ob (X3_entry_f E σ x15 x6) fun x18 =>
      ob (gcl σ l1 0) fun _ =>
      ob (X1_valueAt_f E σ l1 l3) fun x21 =>
      if x18 = x21 then
        X12_packingDifferences_62 E r_12 l0 l1 l2 l3 σ
      else
        X12_packingDifferences_59 E r_12 l0 l1 l2 l3 σ
set_option maxHeartbeats 4000000 in
set_option maxRecDepth 100000 in
theorem X12_packingDifferences_12_s_W {σ : gS} {l0 : Nat} {l1 : Nat} {l2 : Int32} {l3 : Int32} {res : (Int32 × gS)} {ls : Array Slot} (hC : gC E D A p R s m args meth c cX12_packingDifferences 5 RX12 "packingDifferences" 4 89) (hQ : gQI E D A p l e R s m args below meth c Q cX12_packingDifferences FieldType.int res) {r_12 : Nat → Nat → Int32 → Int32 → gS → Option (Int32 × gS)} (h_12 : ∀ {l0 : Nat} {l1 : Nat} {l2 : Int32} {l3 : Int32} {σ : gS} {H : Heap} {locs : List Loc} {cells slots : Nat} {ls : Array Slot}, r_12 l0 l1 l2 l3 σ = some res → gW E D A s σ H locs → lv_has ls 5 [(0, .ref l0), (1, .ref l1), (2, .int l2), (3, .int l3)] → W p l e R s m args below meth c H locs cells slots Q (F0 m 12 ls [])) (hf : X12_packingDifferences_12_s E r_12 l0 l1 l2 l3 σ = some res) (hw : gW E D A s σ H locs) (hl : lv_has ls 5 [(0, .ref l0), (1, .ref l1), (2, .int l2), (3, .int l3)]) : W p l e R s m args below meth c H locs cells slots Q (F0 m 12 ls []) := by
  have hC0 := hC
  obtain ⟨hx, hb, hml, hown, hts, -⟩ := hC0
  unfold X12_packingDifferences_12_s at hf
  refine lv_iload_n hx hb dX12_packingDifferences_12 rfl (lv_at hl 3 rfl) ?_
  refine lv_aload_n hx hb dX12_packingDifferences_13 rfl (lv_at hl 1 rfl) ?_
  obtain ⟨_, h3, hf⟩ := ob_some hf
  obtain ⟨x1, h2, hf⟩ := ob_some hf
  refine gg_cVI (As := []) hC hw (X1_length_M l E D A h2) h3 rfl g_ml_X12_378 hd_X1_length (Nat.le_of_ble_eq_true rfl) (Nat.le_of_ble_eq_true rfl) hl.1 rfl (Nat.le_of_ble_eq_true rfl) dX12_packingDifferences_14 (fun H locs cells slots hw => ?_)
  refine lv_icmp_ge (tgt := 68) hx hb dX12_packingDifferences_17 (by decide) (fun c26 => ?_) (fun c26 => ?_)
  · replace hf := (if_pos c26).symm.trans hf
    refine lv_iload_n hx hb dX12_packingDifferences_68 rfl (lv_at hl 2 rfl) ?_
    cases hf
    exact hQ _ _ _ _ _ _ dX12_packingDifferences_69 rfl hw
  · replace hf := (if_neg c26).symm.trans hf
    refine lv_aload_n hx hb dX12_packingDifferences_20 rfl (lv_at hl 0 rfl) ?_
    obtain ⟨x4, h5, hf⟩ := ob_some hf
    refine rR_fl_X12_63 hC hw h5 dX12_packingDifferences_21 ?_
    refine lv_iload_n hx hb dX12_packingDifferences_24 rfl (lv_at hl 3 rfl) ?_
    obtain ⟨_, h8, hf⟩ := ob_some hf
    obtain ⟨x6, h7, hf⟩ := ob_some hf
    refine gg_cVI (As := [.int l3]) hC hw (X8_unpack_M l E D A h7) h8 rfl g_ml_X12_381 hd_X8_unpack (Nat.le_of_ble_eq_true rfl) (Nat.le_of_ble_eq_true rfl) hl.1 rfl (Nat.le_of_ble_eq_true rfl) dX12_packingDifferences_25 (fun H locs cells slots hw => ?_)
    refine lv_istore (lv' := [(4, .int x6), (0, .ref l0), (1, .ref l1), (2, .int l2), (3, .int l3)]) hx hb dX12_packingDifferences_28 hl (by decide) rfl (fun ls hl => ?_)
    refine lv_iload hx hb dX12_packingDifferences_30 (lv_at hl 0 rfl) ?_
    refine lv_aload_n hx hb dX12_packingDifferences_32 rfl (lv_at hl 2 rfl) ?_
    obtain ⟨_, h11, hf⟩ := ob_some hf
    obtain ⟨x9, h10, hf⟩ := ob_some hf
    refine gg_cVR (As := []) hC hw (X1_dictionary_M l E D A h10) h11 rfl g_ml_X12_384 hd_X1_dictionary (Nat.le_of_ble_eq_true rfl) (Nat.le_of_ble_eq_true rfl) hl.1 rfl (Nat.le_of_ble_eq_true rfl) dX12_packingDifferences_33 (fun H locs cells slots hw => ?_)
    obtain ⟨_, h14, hf⟩ := ob_some hf
    obtain ⟨x12, h13, hf⟩ := ob_some hf
    refine gg_cVI (As := []) hC hw (X3_size_M l E D A h13) h14 rfl g_ml_X12_139 hd_X3_size (Nat.le_of_ble_eq_true rfl) (Nat.le_of_ble_eq_true rfl) hl.1 rfl (Nat.le_of_ble_eq_true rfl) dX12_packingDifferences_36 (fun H locs cells slots hw => ?_)
    refine lv_icmp_ge (tgt := 59) hx hb dX12_packingDifferences_39 (by decide) (fun c25 => ?_) (fun c25 => ?_)
    · replace hf := (if_pos c25).symm.trans hf
      exact X12_packingDifferences_59_W hC hQ h_12 hf hw (lv_sub hl [1, 2, 3, 4] rfl)
    · replace hf := (if_neg c25).symm.trans hf
      refine lv_aload_n hx hb dX12_packingDifferences_42 rfl (lv_at hl 2 rfl) ?_
      obtain ⟨_, h17, hf⟩ := ob_some hf
      obtain ⟨x15, h16, hf⟩ := ob_some hf
      refine gg_cVR (As := []) hC hw (X1_dictionary_M l E D A h16) h17 rfl g_ml_X12_384 hd_X1_dictionary (Nat.le_of_ble_eq_true rfl) (Nat.le_of_ble_eq_true rfl) hl.1 rfl (Nat.le_of_ble_eq_true rfl) dX12_packingDifferences_43 (fun H locs cells slots hw => ?_)
      refine lv_iload hx hb dX12_packingDifferences_46 (lv_at hl 0 rfl) ?_
      obtain ⟨_, h20, hf⟩ := ob_some hf
      obtain ⟨x18, h19, hf⟩ := ob_some hf
      refine gg_cVI (As := [.int x6]) hC hw (X3_entry_M l E D A h19) h20 rfl g_ml_X12_144 hd_X3_entry (Nat.le_of_ble_eq_true rfl) (Nat.le_of_ble_eq_true rfl) hl.1 rfl (Nat.le_of_ble_eq_true rfl) dX12_packingDifferences_48 (fun H locs cells slots hw => ?_)
      refine lv_aload_n hx hb dX12_packingDifferences_51 rfl (lv_at hl 2 rfl) ?_
      refine lv_iload_n hx hb dX12_packingDifferences_52 rfl (lv_at hl 4 rfl) ?_
      obtain ⟨_, h23, hf⟩ := ob_some hf
      obtain ⟨x21, h22, hf⟩ := ob_some hf
      refine gg_cVI (As := [.int l3]) hC hw (X1_valueAt_M l E D A h22) h23 rfl g_ml_X12_126 hd_X1_valueAt (Nat.le_of_ble_eq_true rfl) (Nat.le_of_ble_eq_true rfl) hl.1 rfl (Nat.le_of_ble_eq_true rfl) dX12_packingDifferences_53 (fun H locs cells slots hw => ?_)
      refine lv_icmp_eq (tgt := 62) hx hb dX12_packingDifferences_56 (by decide) (fun c24 => ?_) (fun c24 => ?_)
      · replace hf := (if_pos c24).symm.trans hf
        exact X12_packingDifferences_62_W hC hQ h_12 hf hw (lv_sub hl [1, 2, 3, 4] rfl)
      · replace hf := (if_neg c24).symm.trans hf
        exact X12_packingDifferences_59_W hC hQ h_12 hf hw (lv_sub hl [1, 2, 3, 4] rfl)
def X12_packingDifferences_12 (E : gE) : Nat → Nat → Nat → Int32 → Int32 → gS → Option (Int32 × gS)
  | 0 => fun _ _ _ _ _ => none
  | n + 1 => X12_packingDifferences_12_s E (X12_packingDifferences_12 E n)
theorem X12_packingDifferences_12_W {res : (Int32 × gS)} (hC : gC E D A p R s m args meth c cX12_packingDifferences 5 RX12 "packingDifferences" 4 89) (hQ : gQI E D A p l e R s m args below meth c Q cX12_packingDifferences FieldType.int res) : ∀ (n : Nat), ∀ {l0 : Nat} {l1 : Nat} {l2 : Int32} {l3 : Int32} {σ : gS} {H : Heap} {locs : List Loc} {cells slots : Nat} {ls : Array Slot}, X12_packingDifferences_12 E n l0 l1 l2 l3 σ = some res → gW E D A s σ H locs → lv_has ls 5 [(0, .ref l0), (1, .ref l1), (2, .int l2), (3, .int l3)] → W p l e R s m args below meth c H locs cells slots Q (F0 m 12 ls []) := by
  intro n
  induction n with
  | zero =>
    intros
    rename_i hf _ _
    exact absurd hf (fun h => by cases (show (none : Option (Int32 × gS)) = some res from h))
  | succ n ih =>
    intros
    rename_i hf hw hl
    exact X12_packingDifferences_12_s_W hC hQ ih hf hw hl

def X12_packingDifferences (E : gE) (l0 : Nat) (l1 : Nat) (σ : gS) : Option (Int32 × gS) :=
  ob (gfR σ l0 10 10) fun x27 =>
  ob (gcl σ x27 6) fun _ =>
  ob (X8_pack_f E x27 l1 σ) fun x29 =>
  X12_packingDifferences_12 E (gN E) l0 l1 (0 : Int32) (0 : Int32) x29
set_option maxHeartbeats 4000000 in
set_option maxRecDepth 100000 in
theorem X12_packingDifferences_W {σ : gS} {l0 : Nat} {l1 : Nat} {res : (Int32 × gS)} {ls : Array Slot} (hC : gC E D A p R s m args meth c cX12_packingDifferences 5 RX12 "packingDifferences" 4 89) (hQ : gQI E D A p l e R s m args below meth c Q cX12_packingDifferences FieldType.int res) (hf : X12_packingDifferences E l0 l1 σ = some res) (hw : gW E D A s σ H locs) (hl : lv_has ls 5 [(0, .ref l0), (1, .ref l1)]) : W p l e R s m args below meth c H locs cells slots Q (F0 m 0 ls []) := by
  have hC0 := hC
  obtain ⟨hx, hb, hml, hown, hts, -⟩ := hC0
  unfold X12_packingDifferences at hf
  refine lv_aload_n hx hb dX12_packingDifferences_0 rfl (lv_at hl 0 rfl) ?_
  obtain ⟨x27, h28, hf⟩ := ob_some hf
  refine rR_fl_X12_63 hC hw h28 dX12_packingDifferences_1 ?_
  refine lv_aload_n hx hb dX12_packingDifferences_4 rfl (lv_at hl 1 rfl) ?_
  obtain ⟨_, h31, hf⟩ := ob_some hf
  obtain ⟨x29, h30, hf⟩ := ob_some hf
  refine gg_cVV (As := [.ref l1]) hC hw (X8_pack_M l E D A h30) h31 rfl g_ml_X12_173 hd_X8_pack (Nat.le_of_ble_eq_true rfl) (Nat.le_of_ble_eq_true rfl) hl.1 rfl (Nat.le_of_ble_eq_true rfl) dX12_packingDifferences_5 (fun H locs cells slots hw => ?_)
  refine lv_iconst (v := 0) hx hb dX12_packingDifferences_8 (by decide) ?_
  refine lv_istore_n (lv' := [(2, .int (0 : Int32)), (0, .ref l0), (1, .ref l1)]) hx hb dX12_packingDifferences_9 rfl hl (by decide) rfl (fun ls hl => ?_)
  refine lv_iconst (v := 0) hx hb dX12_packingDifferences_10 (by decide) ?_
  refine lv_istore_n (lv' := [(3, .int (0 : Int32)), (2, .int (0 : Int32)), (0, .ref l0), (1, .ref l1)]) hx hb dX12_packingDifferences_11 rfl hl (by decide) rfl (fun ls hl => ?_)
  exact X12_packingDifferences_12_W hC hQ (gN E) hf hw (lv_sub hl [2, 3, 1, 0] rfl)

def X12_packingDifferences_f (E : gE) (l0 : Nat) (l1 : Nat) (σ : gS) : Option (Int32 × gS) := X12_packingDifferences E l0 l1 σ
set_option maxRecDepth 100000 in
theorem X12_packingDifferences_M (l : Launch) (E : gE) (D : va_G) (A : Nat → Prop) {l0 : Nat} {l1 : Nat} {σ : gS} {res : (Int32 × gS)} (hf : X12_packingDifferences_f E l0 l1 σ = some res) : gCI l E D A yX12_packingDifferences cX12_packingDifferences 5 4 89 (some FieldType.int) [.ref l0, .ref l1] σ res := by
  refine gg_entI (own := RX12) (nm := "packingDifferences") (ty := FieldType.int) (by decide +kernel) rfl rfl (Nat.le_of_ble_eq_true rfl) rfl ?_
  intro p e R s m args below meth c Q ls hC hw hQ hl
  have hl : lv_has ls 5 [(0, .ref l0), (1, .ref l1)] := hl
  exact X12_packingDifferences_W hC hQ hf hw hl

def X12_sortRows (E : gE) (l0 : Nat) (l1 : Int32) (l2 : Int32) (σ : gS) : Option gS :=
  ob (gfR σ l0 10 8) fun x1 =>
  ob (gfR σ l0 10 0) fun x3 =>
  ob (gcl σ x3 9) fun _ =>
  ob (X11_column_f E σ x3 l1) fun x5 =>
  ob (gcl σ x1 8) fun _ =>
  ob (X10_sortBy_f E x1 x5 l2 σ) fun x8 =>
  ob (gfR x8 l0 10 0) fun x11 =>
  ob (gfR x8 l0 10 8) fun x13 =>
  ob (gcl x8 x11 9) fun _ =>
  ob (X11_reorder_f E x11 x13 x8) fun x15 =>
  some x15
set_option maxHeartbeats 4000000 in
set_option maxRecDepth 100000 in
theorem X12_sortRows_W {σ : gS} {l0 : Nat} {l1 : Int32} {l2 : Int32} {σz : gS} {ls : Array Slot} (hC : gC E D A p R s m args meth c cX12_sortRows 3 RX12 "sortRows" 6 145) (hQ : gQV E D A p l e R s m args below meth c Q cX12_sortRows σz) (hf : X12_sortRows E l0 l1 l2 σ = some σz) (hw : gW E D A s σ H locs) (hl : lv_has ls 3 [(0, .ref l0), (1, .int l1), (2, .int l2)]) : W p l e R s m args below meth c H locs cells slots Q (F0 m 0 ls []) := by
  have hC0 := hC
  obtain ⟨hx, hb, hml, hown, hts, -⟩ := hC0
  unfold X12_sortRows at hf
  refine lv_aload_n hx hb dX12_sortRows_0 rfl (lv_at hl 0 rfl) ?_
  obtain ⟨x1, h2, hf⟩ := ob_some hf
  refine rR_fl_X12_49 hC hw h2 dX12_sortRows_1 ?_
  refine lv_aload_n hx hb dX12_sortRows_4 rfl (lv_at hl 0 rfl) ?_
  obtain ⟨x3, h4, hf⟩ := ob_some hf
  refine rR_fl_X12_10 hC hw h4 dX12_sortRows_5 ?_
  refine lv_iload_n hx hb dX12_sortRows_8 rfl (lv_at hl 1 rfl) ?_
  obtain ⟨_, h7, hf⟩ := ob_some hf
  obtain ⟨x5, h6, hf⟩ := ob_some hf
  refine gg_cVR (As := [.int l1]) hC hw (X11_column_M l E D A h6) h7 rfl g_ml_X12_122 hd_X11_column (Nat.le_of_ble_eq_true rfl) (Nat.le_of_ble_eq_true rfl) hl.1 rfl (Nat.le_of_ble_eq_true rfl) dX12_sortRows_9 (fun H locs cells slots hw => ?_)
  refine lv_iload_n hx hb dX12_sortRows_12 rfl (lv_at hl 2 rfl) ?_
  obtain ⟨_, h10, hf⟩ := ob_some hf
  obtain ⟨x8, h9, hf⟩ := ob_some hf
  refine gg_cVV (As := [.ref x5, .int l2]) hC hw (X10_sortBy_M l E D A h9) h10 rfl g_ml_X12_374 hd_X10_sortBy (Nat.le_of_ble_eq_true rfl) (Nat.le_of_ble_eq_true rfl) hl.1 rfl (Nat.le_of_ble_eq_true rfl) dX12_sortRows_13 (fun H locs cells slots hw => ?_)
  refine lv_aload_n hx hb dX12_sortRows_16 rfl (lv_at hl 0 rfl) ?_
  obtain ⟨x11, h12, hf⟩ := ob_some hf
  refine rR_fl_X12_10 hC hw h12 dX12_sortRows_17 ?_
  refine lv_aload_n hx hb dX12_sortRows_20 rfl (lv_at hl 0 rfl) ?_
  obtain ⟨x13, h14, hf⟩ := ob_some hf
  refine rR_fl_X12_49 hC hw h14 dX12_sortRows_21 ?_
  obtain ⟨_, h17, hf⟩ := ob_some hf
  obtain ⟨x15, h16, hf⟩ := ob_some hf
  refine gg_cVV (As := [.ref x13]) hC hw (X11_reorder_M l E D A h16) h17 rfl g_ml_X12_394 hd_X11_reorder (Nat.le_of_ble_eq_true rfl) (Nat.le_of_ble_eq_true rfl) hl.1 rfl (Nat.le_of_ble_eq_true rfl) dX12_sortRows_24 (fun H locs cells slots hw => ?_)
  cases hf
  exact hQ _ _ _ _ _ _ dX12_sortRows_27 hw

def X12_sortRows_f (E : gE) (l0 : Nat) (l1 : Int32) (l2 : Int32) (σ : gS) : Option gS := X12_sortRows E l0 l1 l2 σ
set_option maxRecDepth 100000 in
theorem X12_sortRows_M (l : Launch) (E : gE) (D : va_G) (A : Nat → Prop) {l0 : Nat} {l1 : Int32} {l2 : Int32} {σ : gS} {σz : gS} (hf : X12_sortRows_f E l0 l1 l2 σ = some σz) : gCV l E D A yX12_sortRows cX12_sortRows 3 6 145 none [.ref l0, .int l1, .int l2] σ σz := by
  refine gg_entV (own := RX12) (nm := "sortRows") (by decide +kernel) rfl rfl (Nat.le_of_ble_eq_true rfl) rfl ?_
  intro p e R s m args below meth c Q ls hC hw hQ hl
  have hl : lv_has ls 3 [(0, .ref l0), (1, .int l1), (2, .int l2)] := hl
  exact X12_sortRows_W hC hQ hf hw hl

def X12_isPossible_76 (E : gE) (σ : gS) (l0 : Nat) : Option Int32 :=
  ob (gfR σ l0 10 0) fun x1 =>
  ob (gcl σ x1 9) fun _ =>
  ob (X11_filter_f E σ x1) fun x3 =>
  ob (gcl σ x3 3) fun _ =>
  ob (X4_isFull_f E σ x3) fun x6 =>
  if x6 = 0 then
    some (1 : Int32)
  else
    some (0 : Int32)
set_option maxHeartbeats 4000000 in
set_option maxRecDepth 100000 in
theorem X12_isPossible_76_W {σ : gS} {l0 : Nat} {res : Int32} {ls : Array Slot} (hC : gC E D A p R s m args meth c cX12_isPossible 2 RX12 "isPossible" 3 61) (hQ : gQI E D A p l e R s m args below meth c Q cX12_isPossible FieldType.boolean (res, σ)) (hf : X12_isPossible_76 E σ l0 = some res) (hw : gW E D A s σ H locs) (hl : lv_has ls 2 [(0, .ref l0)]) : W p l e R s m args below meth c H locs cells slots Q (F0 m 76 ls []) := by
  have hC0 := hC
  obtain ⟨hx, hb, hml, hown, hts, -⟩ := hC0
  unfold X12_isPossible_76 at hf
  refine lv_aload_n hx hb dX12_isPossible_76 rfl (lv_at hl 0 rfl) ?_
  obtain ⟨x1, h2, hf⟩ := ob_some hf
  refine rR_fl_X12_10 hC hw h2 dX12_isPossible_77 ?_
  obtain ⟨_, h5, hf⟩ := ob_some hf
  obtain ⟨x3, h4, hf⟩ := ob_some hf
  refine gg_cVR (As := []) hC hw (X11_filter_M l E D A h4) h5 rfl g_ml_X12_198 hd_X11_filter (Nat.le_of_ble_eq_true rfl) (Nat.le_of_ble_eq_true rfl) hl.1 rfl (Nat.le_of_ble_eq_true rfl) dX12_isPossible_80 (fun H locs cells slots hw => ?_)
  obtain ⟨_, h8, hf⟩ := ob_some hf
  obtain ⟨x6, h7, hf⟩ := ob_some hf
  refine gg_cVI (As := []) hC hw (X4_isFull_M l E D A h7) h8 rfl g_ml_X12_387 hd_X4_isFull (Nat.le_of_ble_eq_true rfl) (Nat.le_of_ble_eq_true rfl) hl.1 rfl (Nat.le_of_ble_eq_true rfl) dX12_isPossible_83 (fun H locs cells slots hw => ?_)
  refine lv_if_ne (tgt := 93) hx hb dX12_isPossible_86 (by decide) (fun c9 => ?_) (fun c9 => ?_)
  · replace hf := (if_neg c9).symm.trans hf
    refine lv_iconst (v := 0) hx hb dX12_isPossible_93 (by decide) ?_
    cases hf
    exact hQ _ _ _ _ _ _ dX12_isPossible_94 gz0 hw
  · replace hf := (if_pos c9).symm.trans hf
    refine lv_iconst (v := 1) hx hb dX12_isPossible_89 (by decide) ?_
    refine lv_goto (tgt := 94) hx hb dX12_isPossible_90 (by decide) ?_
    cases hf
    exact hQ _ _ _ _ _ _ dX12_isPossible_94 gz1 hw

def X12_isPossible (E : gE) (σ : gS) (l0 : Nat) (l1 : Nat) : Option Int32 :=
  ob (gfR σ l1 1 0) fun x10 =>
  ob (gxc E x10 101) fun _ =>
  ob (Jx29ce0_ordinal_8abf5_f E σ x10) fun x12 =>
  ob (graI E 0 σ (gst E 42) x12) fun x15 =>
  if x15 = (1 : Int32) then
    ob (gfR σ l0 10 0) fun x18 =>
    ob (gcl σ x18 9) fun _ =>
    ob (X11_isFull_f E σ x18) fun x20 =>
    if x20 = 0 then
      some (1 : Int32)
    else
      some (0 : Int32)
  else
    if x15 = (2 : Int32) then
      ob (gfR σ l0 10 0) fun x25 =>
      ob (gfI σ l1 1 2) fun x27 =>
      ob (gcl σ x25 9) fun _ =>
      ob (X11_hasRow_f E σ x25 x27) fun x29 =>
      ob (gz x29) fun _ =>
      some x29
    else
      if x15 = (3 : Int32) then
        X12_isPossible_76 E σ l0
      else
        if x15 = (4 : Int32) then
          X12_isPossible_76 E σ l0
        else
          if x15 = (5 : Int32) then
            X12_isPossible_76 E σ l0
          else
            if x15 = (6 : Int32) then
              ob (gfR σ l0 10 0) fun x37 =>
              ob (gcl σ x37 9) fun _ =>
              ob (X11_filter_f E σ x37) fun x39 =>
              ob (gfI σ l1 1 2) fun x42 =>
              ob (gcl σ x39 3) fun _ =>
              ob (X4_has_f E σ x39 x42) fun x44 =>
              ob (gz x44) fun _ =>
              some x44
            else
              some (1 : Int32)
set_option maxHeartbeats 4000000 in
set_option maxRecDepth 100000 in
theorem X12_isPossible_W {σ : gS} {l0 : Nat} {l1 : Nat} {res : Int32} {ls : Array Slot} (hC : gC E D A p R s m args meth c cX12_isPossible 2 RX12 "isPossible" 3 61) (hQ : gQI E D A p l e R s m args below meth c Q cX12_isPossible FieldType.boolean (res, σ)) (hf : X12_isPossible E σ l0 l1 = some res) (hw : gW E D A s σ H locs) (hl : lv_has ls 2 [(0, .ref l0), (1, .ref l1)]) : W p l e R s m args below meth c H locs cells slots Q (F0 m 0 ls []) := by
  have hC0 := hC
  obtain ⟨hx, hb, hml, hown, hts, -⟩ := hC0
  unfold X12_isPossible at hf
  refine gg_gets hC hw (k := 2) rfl fl_X12_398 dX12_isPossible_0 ?_
  refine lv_aload_n hx hb dX12_isPossible_3 rfl (lv_at hl 1 rfl) ?_
  obtain ⟨x10, h11, hf⟩ := ob_some hf
  refine rR_fn_X12_403 hC hw h11 dX12_isPossible_4 ?_
  obtain ⟨_, h14, hf⟩ := ob_some hf
  obtain ⟨x12, h13, hf⟩ := ob_some hf
  refine gg_cUI (As := []) hC hw (Jx29ce0_ordinal_8abf5_M l E D A h13) h14 rfl uo_X12_409 rfl hd_ord (Nat.le_of_ble_eq_true rfl) (Nat.le_of_ble_eq_true rfl) hl.1 rfl (Nat.le_of_ble_eq_true rfl) dX12_isPossible_7 (fun H locs cells slots hw => ?_)
  obtain ⟨x15, h16, hf⟩ := ob_some hf
  refine gg_aldI hC hw h16 dX12_isPossible_10 ?_
  by_cases c17 : x15 = (1 : Int32)
  · replace hf := (if_pos c17).symm.trans hf
    refine lv_tableIn (off := 37) (tgt := 48) hx hb dX12_isPossible_11 (by rw [c17]; decide) (by rw [c17]; decide) (by rw [c17]; rfl) (by decide) ?_
    refine lv_aload_n hx hb dX12_isPossible_48 rfl (lv_at hl 0 rfl) ?_
    obtain ⟨x18, h19, hf⟩ := ob_some hf
    refine rR_fl_X12_10 hC hw h19 dX12_isPossible_49 ?_
    obtain ⟨_, h22, hf⟩ := ob_some hf
    obtain ⟨x20, h21, hf⟩ := ob_some hf
    refine gg_cVI (As := []) hC hw (X11_isFull_M l E D A h21) h22 rfl g_ml_X12_263 hd_X11_isFull (Nat.le_of_ble_eq_true rfl) (Nat.le_of_ble_eq_true rfl) hl.1 rfl (Nat.le_of_ble_eq_true rfl) dX12_isPossible_52 (fun H locs cells slots hw => ?_)
    refine lv_if_ne (tgt := 62) hx hb dX12_isPossible_55 (by decide) (fun c23 => ?_) (fun c23 => ?_)
    · replace hf := (if_neg c23).symm.trans hf
      refine lv_iconst (v := 0) hx hb dX12_isPossible_62 (by decide) ?_
      cases hf
      exact hQ _ _ _ _ _ _ dX12_isPossible_63 gz0 hw
    · replace hf := (if_pos c23).symm.trans hf
      refine lv_iconst (v := 1) hx hb dX12_isPossible_58 (by decide) ?_
      refine lv_goto (tgt := 63) hx hb dX12_isPossible_59 (by decide) ?_
      cases hf
      exact hQ _ _ _ _ _ _ dX12_isPossible_63 gz1 hw
  · replace hf := (if_neg c17).symm.trans hf
    by_cases c24 : x15 = (2 : Int32)
    · replace hf := (if_pos c24).symm.trans hf
      refine lv_tableIn (off := 53) (tgt := 64) hx hb dX12_isPossible_11 (by rw [c24]; decide) (by rw [c24]; decide) (by rw [c24]; rfl) (by decide) ?_
      refine lv_aload_n hx hb dX12_isPossible_64 rfl (lv_at hl 0 rfl) ?_
      obtain ⟨x25, h26, hf⟩ := ob_some hf
      refine rR_fl_X12_10 hC hw h26 dX12_isPossible_65 ?_
      refine lv_aload_n hx hb dX12_isPossible_68 rfl (lv_at hl 1 rfl) ?_
      obtain ⟨x27, h28, hf⟩ := ob_some hf
      refine rI_fn_X12_414 hC hw h28 dX12_isPossible_69 ?_
      obtain ⟨_, h31, hf⟩ := ob_some hf
      obtain ⟨x29, h30, hf⟩ := ob_some hf
      refine gg_cVI (As := [.int x27]) hC hw (X11_hasRow_M l E D A h30) h31 rfl g_ml_X12_354 hd_X11_hasRow (Nat.le_of_ble_eq_true rfl) (Nat.le_of_ble_eq_true rfl) hl.1 rfl (Nat.le_of_ble_eq_true rfl) dX12_isPossible_72 (fun H locs cells slots hw => ?_)
      obtain ⟨_, h32, hf⟩ := ob_some hf
      cases hf
      exact hQ _ _ _ _ _ _ dX12_isPossible_75 (gz_some h32) hw
    · replace hf := (if_neg c24).symm.trans hf
      by_cases c33 : x15 = (3 : Int32)
      · replace hf := (if_pos c33).symm.trans hf
        refine lv_tableIn (off := 65) (tgt := 76) hx hb dX12_isPossible_11 (by rw [c33]; decide) (by rw [c33]; decide) (by rw [c33]; rfl) (by decide) ?_
        exact X12_isPossible_76_W hC hQ hf hw (lv_sub hl [0] rfl)
      · replace hf := (if_neg c33).symm.trans hf
        by_cases c34 : x15 = (4 : Int32)
        · replace hf := (if_pos c34).symm.trans hf
          refine lv_tableIn (off := 65) (tgt := 76) hx hb dX12_isPossible_11 (by rw [c34]; decide) (by rw [c34]; decide) (by rw [c34]; rfl) (by decide) ?_
          exact X12_isPossible_76_W hC hQ hf hw (lv_sub hl [0] rfl)
        · replace hf := (if_neg c34).symm.trans hf
          by_cases c35 : x15 = (5 : Int32)
          · replace hf := (if_pos c35).symm.trans hf
            refine lv_tableIn (off := 65) (tgt := 76) hx hb dX12_isPossible_11 (by rw [c35]; decide) (by rw [c35]; decide) (by rw [c35]; rfl) (by decide) ?_
            exact X12_isPossible_76_W hC hQ hf hw (lv_sub hl [0] rfl)
          · replace hf := (if_neg c35).symm.trans hf
            by_cases c36 : x15 = (6 : Int32)
            · replace hf := (if_pos c36).symm.trans hf
              refine lv_tableIn (off := 84) (tgt := 95) hx hb dX12_isPossible_11 (by rw [c36]; decide) (by rw [c36]; decide) (by rw [c36]; rfl) (by decide) ?_
              refine lv_aload_n hx hb dX12_isPossible_95 rfl (lv_at hl 0 rfl) ?_
              obtain ⟨x37, h38, hf⟩ := ob_some hf
              refine rR_fl_X12_10 hC hw h38 dX12_isPossible_96 ?_
              obtain ⟨_, h41, hf⟩ := ob_some hf
              obtain ⟨x39, h40, hf⟩ := ob_some hf
              refine gg_cVR (As := []) hC hw (X11_filter_M l E D A h40) h41 rfl g_ml_X12_198 hd_X11_filter (Nat.le_of_ble_eq_true rfl) (Nat.le_of_ble_eq_true rfl) hl.1 rfl (Nat.le_of_ble_eq_true rfl) dX12_isPossible_99 (fun H locs cells slots hw => ?_)
              refine lv_aload_n hx hb dX12_isPossible_102 rfl (lv_at hl 1 rfl) ?_
              obtain ⟨x42, h43, hf⟩ := ob_some hf
              refine rI_fn_X12_414 hC hw h43 dX12_isPossible_103 ?_
              obtain ⟨_, h46, hf⟩ := ob_some hf
              obtain ⟨x44, h45, hf⟩ := ob_some hf
              refine gg_cVI (As := [.int x42]) hC hw (X4_has_M l E D A h45) h46 rfl g_ml_X12_361 hd_X4_has (Nat.le_of_ble_eq_true rfl) (Nat.le_of_ble_eq_true rfl) hl.1 rfl (Nat.le_of_ble_eq_true rfl) dX12_isPossible_106 (fun H locs cells slots hw => ?_)
              obtain ⟨_, h47, hf⟩ := ob_some hf
              cases hf
              exact hQ _ _ _ _ _ _ dX12_isPossible_109 (gz_some h47) hw
            · replace hf := (if_neg c36).symm.trans hf
              refine lv_tableOut (tgt := 110) hx hb dX12_isPossible_11 (gtab [1, 2, 3, 4, 5, 6] (by decide) (by decide) (gvc c17 (gvc c24 (gvc c33 (gvc c34 (gvc c35 (gvc c36 gvn))))))) (by decide) ?_
              refine lv_iconst (v := 1) hx hb dX12_isPossible_110 (by decide) ?_
              cases hf
              exact hQ _ _ _ _ _ _ dX12_isPossible_111 gz1 hw

def X12_isPossible_f (E : gE) (σ : gS) (l0 : Nat) (l1 : Nat) : Option Int32 := X12_isPossible E σ l0 l1
set_option maxRecDepth 100000 in
theorem X12_isPossible_M (l : Launch) (E : gE) (D : va_G) (A : Nat → Prop) {l0 : Nat} {l1 : Nat} {σ : gS} {res : Int32} (hf : X12_isPossible_f E σ l0 l1 = some res) : gCI l E D A yX12_isPossible cX12_isPossible 2 3 61 (some FieldType.boolean) [.ref l0, .ref l1] σ (res, σ) := by
  refine gg_entI (own := RX12) (nm := "isPossible") (ty := FieldType.boolean) (by decide +kernel) rfl rfl (Nat.le_of_ble_eq_true rfl) rfl ?_
  intro p e R s m args below meth c Q ls hC hw hQ hl
  have hl : lv_has ls 2 [(0, .ref l0), (1, .ref l1)] := hl
  exact X12_isPossible_W hC hQ hf hw hl

def X12_putNumber_33_s (E : gE) (r_33 : Nat → Int32 → Int32 → gS → Option gS) (l0 : Nat) (l2 : Int32) (l3 : Int32) (σ : gS) : Option gS :=
  if l3 ≤ 0 then
    some σ
  else
    ob (gnz l3) fun _ =>
    ob (gcl σ l0 10) fun _ =>
    ob (X12_putByte_f E l0 ((48 : Int32) + ((l2 / l3) - (l2 / l3) / (10 : Int32) * (10 : Int32))) σ) fun x2 =>
    r_33 l0 l2 (l3 / (10 : Int32)) x2
set_option maxHeartbeats 4000000 in
set_option maxRecDepth 100000 in
theorem X12_putNumber_33_s_W {σ : gS} {l0 : Nat} {l2 : Int32} {l3 : Int32} {σz : gS} {ls : Array Slot} (hC : gC E D A p R s m args meth c cX12_putNumber 4 RX12 "putNumber" 1 21) (hQ : gQV E D A p l e R s m args below meth c Q cX12_putNumber σz) {r_33 : Nat → Int32 → Int32 → gS → Option gS} (h_33 : ∀ {l0 : Nat} {l2 : Int32} {l3 : Int32} {σ : gS} {H : Heap} {locs : List Loc} {cells slots : Nat} {ls : Array Slot}, r_33 l0 l2 l3 σ = some σz → gW E D A s σ H locs → lv_has ls 4 [(0, .ref l0), (2, .int l2), (3, .int l3)] → W p l e R s m args below meth c H locs cells slots Q (F0 m 33 ls [])) (hf : X12_putNumber_33_s E r_33 l0 l2 l3 σ = some σz) (hw : gW E D A s σ H locs) (hl : lv_has ls 4 [(0, .ref l0), (2, .int l2), (3, .int l3)]) : W p l e R s m args below meth c H locs cells slots Q (F0 m 33 ls []) := by
  have hC0 := hC
  obtain ⟨hx, hb, hml, hown, hts, -⟩ := hC0
  unfold X12_putNumber_33_s at hf
  refine lv_iload_n hx hb dX12_putNumber_33 rfl (lv_at hl 2 rfl) ?_
  refine lv_if_le (tgt := 58) hx hb dX12_putNumber_34 (by decide) (fun c5 => ?_) (fun c5 => ?_)
  · replace hf := (if_pos c5).symm.trans hf
    cases hf
    exact hQ _ _ _ _ _ _ dX12_putNumber_58 hw
  · replace hf := (if_neg c5).symm.trans hf
    refine lv_aload_n hx hb dX12_putNumber_37 rfl (lv_at hl 0 rfl) ?_
    refine lv_bipush (v := 48) hx hb dX12_putNumber_38 (by decide) ?_
    refine lv_iload_n hx hb dX12_putNumber_40 rfl (lv_at hl 1 rfl) ?_
    refine lv_iload_n hx hb dX12_putNumber_41 rfl (lv_at hl 2 rfl) ?_
    obtain ⟨_, h1, hf⟩ := ob_some hf
    refine lv_idiv hx hb dX12_putNumber_42 (gnz_some h1) ?_
    refine lv_bipush (v := 10) hx hb dX12_putNumber_43 (by decide) ?_
    refine lv_irem hx hb dX12_putNumber_45 (by decide) ?_
    refine lv_iadd hx hb dX12_putNumber_46 ?_
    obtain ⟨_, h4, hf⟩ := ob_some hf
    obtain ⟨x2, h3, hf⟩ := ob_some hf
    refine gg_cVV (As := [.int ((48 : Int32) + ((l2 / l3) - (l2 / l3) / (10 : Int32) * (10 : Int32)))]) hC hw (X12_putByte_M l E D A h3) h4 rfl g_ml_X12_328 hd_X12_putByte (Nat.le_of_ble_eq_true rfl) (Nat.le_of_ble_eq_true rfl) hl.1 rfl (Nat.le_of_ble_eq_true rfl) dX12_putNumber_47 (fun H locs cells slots hw => ?_)
    refine lv_iload_n hx hb dX12_putNumber_50 rfl (lv_at hl 2 rfl) ?_
    refine lv_bipush (v := 10) hx hb dX12_putNumber_51 (by decide) ?_
    refine lv_idiv hx hb dX12_putNumber_53 (by decide) ?_
    refine lv_istore_n (lv' := [(3, .int (l3 / (10 : Int32))), (0, .ref l0), (2, .int l2)]) hx hb dX12_putNumber_54 rfl hl (by decide) rfl (fun ls hl => ?_)
    refine lv_goto (tgt := 33) hx hb dX12_putNumber_55 (by decide) ?_
    exact h_33 hf hw (lv_sub hl [1, 2, 0] rfl)
def X12_putNumber_33 (E : gE) : Nat → Nat → Int32 → Int32 → gS → Option gS
  | 0 => fun _ _ _ _ => none
  | n + 1 => X12_putNumber_33_s E (X12_putNumber_33 E n)
theorem X12_putNumber_33_W {σz : gS} (hC : gC E D A p R s m args meth c cX12_putNumber 4 RX12 "putNumber" 1 21) (hQ : gQV E D A p l e R s m args below meth c Q cX12_putNumber σz) : ∀ (n : Nat), ∀ {l0 : Nat} {l2 : Int32} {l3 : Int32} {σ : gS} {H : Heap} {locs : List Loc} {cells slots : Nat} {ls : Array Slot}, X12_putNumber_33 E n l0 l2 l3 σ = some σz → gW E D A s σ H locs → lv_has ls 4 [(0, .ref l0), (2, .int l2), (3, .int l3)] → W p l e R s m args below meth c H locs cells slots Q (F0 m 33 ls []) := by
  intro n
  induction n with
  | zero =>
    intros
    rename_i hf _ _
    exact absurd hf (fun h => by cases (show (none : Option gS) = some σz from h))
  | succ n ih =>
    intros
    rename_i hf hw hl
    exact X12_putNumber_33_s_W hC hQ ih hf hw hl

def X12_putNumber_17_s (E : gE) (r_17 : Nat → Int32 → Int32 → gS → Option gS) (l0 : Nat) (l2 : Int32) (l3 : Int32) (σ : gS) : Option gS :=
  if (l2 / (10 : Int32)) < l3 then
    X12_putNumber_33 E (gN E) l0 l2 l3 σ
  else
    r_17 l0 l2 (l3 * (10 : Int32)) σ
set_option maxHeartbeats 4000000 in
set_option maxRecDepth 100000 in
theorem X12_putNumber_17_s_W {σ : gS} {l0 : Nat} {l2 : Int32} {l3 : Int32} {σz : gS} {ls : Array Slot} (hC : gC E D A p R s m args meth c cX12_putNumber 4 RX12 "putNumber" 1 21) (hQ : gQV E D A p l e R s m args below meth c Q cX12_putNumber σz) {r_17 : Nat → Int32 → Int32 → gS → Option gS} (h_17 : ∀ {l0 : Nat} {l2 : Int32} {l3 : Int32} {σ : gS} {H : Heap} {locs : List Loc} {cells slots : Nat} {ls : Array Slot}, r_17 l0 l2 l3 σ = some σz → gW E D A s σ H locs → lv_has ls 4 [(0, .ref l0), (2, .int l2), (3, .int l3)] → W p l e R s m args below meth c H locs cells slots Q (F0 m 17 ls [])) (hf : X12_putNumber_17_s E r_17 l0 l2 l3 σ = some σz) (hw : gW E D A s σ H locs) (hl : lv_has ls 4 [(0, .ref l0), (2, .int l2), (3, .int l3)]) : W p l e R s m args below meth c H locs cells slots Q (F0 m 17 ls []) := by
  have hC0 := hC
  obtain ⟨hx, hb, hml, hown, hts, -⟩ := hC0
  unfold X12_putNumber_17_s at hf
  refine lv_iload_n hx hb dX12_putNumber_17 rfl (lv_at hl 2 rfl) ?_
  refine lv_iload_n hx hb dX12_putNumber_18 rfl (lv_at hl 1 rfl) ?_
  refine lv_bipush (v := 10) hx hb dX12_putNumber_19 (by decide) ?_
  refine lv_idiv hx hb dX12_putNumber_21 (by decide) ?_
  refine lv_icmp_gt (tgt := 33) hx hb dX12_putNumber_22 (by decide) (fun c6 => ?_) (fun c6 => ?_)
  · replace hf := (if_pos c6).symm.trans hf
    exact X12_putNumber_33_W hC hQ (gN E) hf hw (lv_sub hl [0, 1, 2] rfl)
  · replace hf := (if_neg c6).symm.trans hf
    refine lv_iload_n hx hb dX12_putNumber_25 rfl (lv_at hl 2 rfl) ?_
    refine lv_bipush (v := 10) hx hb dX12_putNumber_26 (by decide) ?_
    refine lv_imul hx hb dX12_putNumber_28 ?_
    refine lv_istore_n (lv' := [(3, .int (l3 * (10 : Int32))), (0, .ref l0), (2, .int l2)]) hx hb dX12_putNumber_29 rfl hl (by decide) rfl (fun ls hl => ?_)
    refine lv_goto (tgt := 17) hx hb dX12_putNumber_30 (by decide) ?_
    exact h_17 hf hw (lv_sub hl [1, 2, 0] rfl)
def X12_putNumber_17 (E : gE) : Nat → Nat → Int32 → Int32 → gS → Option gS
  | 0 => fun _ _ _ _ => none
  | n + 1 => X12_putNumber_17_s E (X12_putNumber_17 E n)
theorem X12_putNumber_17_W {σz : gS} (hC : gC E D A p R s m args meth c cX12_putNumber 4 RX12 "putNumber" 1 21) (hQ : gQV E D A p l e R s m args below meth c Q cX12_putNumber σz) : ∀ (n : Nat), ∀ {l0 : Nat} {l2 : Int32} {l3 : Int32} {σ : gS} {H : Heap} {locs : List Loc} {cells slots : Nat} {ls : Array Slot}, X12_putNumber_17 E n l0 l2 l3 σ = some σz → gW E D A s σ H locs → lv_has ls 4 [(0, .ref l0), (2, .int l2), (3, .int l3)] → W p l e R s m args below meth c H locs cells slots Q (F0 m 17 ls []) := by
  intro n
  induction n with
  | zero =>
    intros
    rename_i hf _ _
    exact absurd hf (fun h => by cases (show (none : Option gS) = some σz from h))
  | succ n ih =>
    intros
    rename_i hf hw hl
    exact X12_putNumber_17_s_W hC hQ ih hf hw hl

def X12_putNumber_15 (E : gE) (l0 : Nat) (l2 : Int32) (σ : gS) : Option gS :=
  X12_putNumber_17 E (gN E) l0 l2 (1 : Int32) σ
set_option maxHeartbeats 4000000 in
set_option maxRecDepth 100000 in
theorem X12_putNumber_15_W {σ : gS} {l0 : Nat} {l2 : Int32} {σz : gS} {ls : Array Slot} (hC : gC E D A p R s m args meth c cX12_putNumber 4 RX12 "putNumber" 1 21) (hQ : gQV E D A p l e R s m args below meth c Q cX12_putNumber σz) (hf : X12_putNumber_15 E l0 l2 σ = some σz) (hw : gW E D A s σ H locs) (hl : lv_has ls 4 [(0, .ref l0), (2, .int l2)]) : W p l e R s m args below meth c H locs cells slots Q (F0 m 15 ls []) := by
  have hC0 := hC
  obtain ⟨hx, hb, hml, hown, hts, -⟩ := hC0
  unfold X12_putNumber_15 at hf
  refine lv_iconst (v := 1) hx hb dX12_putNumber_15 (by decide) ?_
  refine lv_istore_n (lv' := [(3, .int (1 : Int32)), (0, .ref l0), (2, .int l2)]) hx hb dX12_putNumber_16 rfl hl (by decide) rfl (fun ls hl => ?_)
  exact X12_putNumber_17_W hC hQ (gN E) hf hw (lv_sub hl [1, 2, 0] rfl)

def X12_putNumber (E : gE) (l0 : Nat) (l1 : Int32) (σ : gS) : Option gS :=
  if 0 ≤ l1 then
    X12_putNumber_15 E l0 l1 σ
  else
    ob (gcl σ l0 10) fun _ =>
    ob (X12_putByte_f E l0 (45 : Int32) σ) fun x7 =>
    X12_putNumber_15 E l0 (-l1) x7
set_option maxHeartbeats 4000000 in
set_option maxRecDepth 100000 in
theorem X12_putNumber_W {σ : gS} {l0 : Nat} {l1 : Int32} {σz : gS} {ls : Array Slot} (hC : gC E D A p R s m args meth c cX12_putNumber 4 RX12 "putNumber" 1 21) (hQ : gQV E D A p l e R s m args below meth c Q cX12_putNumber σz) (hf : X12_putNumber E l0 l1 σ = some σz) (hw : gW E D A s σ H locs) (hl : lv_has ls 4 [(0, .ref l0), (1, .int l1)]) : W p l e R s m args below meth c H locs cells slots Q (F0 m 0 ls []) := by
  have hC0 := hC
  obtain ⟨hx, hb, hml, hown, hts, -⟩ := hC0
  unfold X12_putNumber at hf
  refine lv_iload_n hx hb dX12_putNumber_0 rfl (lv_at hl 1 rfl) ?_
  refine lv_istore_n (lv' := [(2, .int l1), (0, .ref l0), (1, .int l1)]) hx hb dX12_putNumber_1 rfl hl (by decide) rfl (fun ls hl => ?_)
  refine lv_iload_n hx hb dX12_putNumber_2 rfl (lv_at hl 0 rfl) ?_
  refine lv_if_ge (tgt := 15) hx hb dX12_putNumber_3 (by decide) (fun c10 => ?_) (fun c10 => ?_)
  · replace hf := (if_pos c10).symm.trans hf
    exact X12_putNumber_15_W hC hQ hf hw (lv_sub hl [1, 0] rfl)
  · replace hf := (if_neg c10).symm.trans hf
    refine lv_aload_n hx hb dX12_putNumber_6 rfl (lv_at hl 1 rfl) ?_
    refine lv_bipush (v := 45) hx hb dX12_putNumber_7 (by decide) ?_
    obtain ⟨_, h9, hf⟩ := ob_some hf
    obtain ⟨x7, h8, hf⟩ := ob_some hf
    refine gg_cVV (As := [.int (45 : Int32)]) hC hw (X12_putByte_M l E D A h8) h9 rfl g_ml_X12_328 hd_X12_putByte (Nat.le_of_ble_eq_true rfl) (Nat.le_of_ble_eq_true rfl) hl.1 rfl (Nat.le_of_ble_eq_true rfl) dX12_putNumber_9 (fun H locs cells slots hw => ?_)
    refine lv_iload_n hx hb dX12_putNumber_12 rfl (lv_at hl 0 rfl) ?_
    refine lv_ineg hx hb dX12_putNumber_13 ?_
    refine lv_istore_n (lv' := [(2, .int (-l1)), (0, .ref l0), (1, .int l1)]) hx hb dX12_putNumber_14 rfl hl (by decide) rfl (fun ls hl => ?_)
    exact X12_putNumber_15_W hC hQ hf hw (lv_sub hl [1, 0] rfl)

def X12_putNumber_f (E : gE) (l0 : Nat) (l1 : Int32) (σ : gS) : Option gS := X12_putNumber E l0 l1 σ
set_option maxRecDepth 100000 in
theorem X12_putNumber_M (l : Launch) (E : gE) (D : va_G) (A : Nat → Prop) {l0 : Nat} {l1 : Int32} {σ : gS} {σz : gS} (hf : X12_putNumber_f E l0 l1 σ = some σz) : gCV l E D A yX12_putNumber cX12_putNumber 4 1 21 none [.ref l0, .int l1] σ σz := by
  refine gg_entV (own := RX12) (nm := "putNumber") (by decide +kernel) rfl rfl (Nat.le_of_ble_eq_true rfl) rfl ?_
  intro p e R s m args below meth c Q ls hC hw hQ hl
  have hl : lv_has ls 4 [(0, .ref l0), (1, .int l1)] := hl
  exact X12_putNumber_W hC hQ hf hw hl

def X12_staleCount (E : gE) (l0 : Nat) (l1 : Int32) (σ : gS) : Option ((Nat ⊕ Int32) × gS) :=
  ob (gcl σ l0 10) fun _ =>
  ob (X12_checkColumn_f E l0 l1 σ) fun x1 =>
  gtry x1 (fun k9 σ9 => some (Sum.inl k9, σ9)) (fun _ σ4 =>
    ob (gfR σ4 l0 10 0) fun x6 =>
    ob (gcl σ4 x6 9) fun _ =>
    ob (X11_column_f E σ4 x6 l1) fun x8 =>
    ob (gfR σ4 l0 10 9) fun x11 =>
    ob (gcl σ4 x8 0) fun _ =>
    ob (X1_collectInto_f E x8 x11 σ4) fun x13 =>
    ob (gfR x13 l0 10 0) fun x16 =>
    ob (gcl x13 x16 9) fun _ =>
    ob (X11_dictionary_f E x13 x16 l1) fun x18 =>
    ob (gcl x13 x18 2) fun _ =>
    ob (X3_size_f E x13 x18) fun x21 =>
    ob (gfR x13 l0 10 9) fun x24 =>
    ob (gcl x13 x24 2) fun _ =>
    ob (X3_size_f E x13 x24) fun x26 =>
    some (Sum.inr (x21 - x26), x13))
set_option maxHeartbeats 4000000 in
set_option maxRecDepth 100000 in
theorem X12_staleCount_W {σ : gS} {l0 : Nat} {l1 : Int32} {res : ((Nat ⊕ Int32) × gS)} {ls : Array Slot} (hC : gC E D A p R s m args meth c cX12_staleCount 2 RX12 "staleCount" 7 146) (hQ : ∀ (r : Int32) (σ1 : gS), res = (.inr r, σ1) → gQI E D A p l e R s m args below meth c Q cX12_staleCount FieldType.int (r, σ1)) (hT : ∀ (k : Nat) (σ1 : gS), res = (.inl k, σ1) → gTN E D A p l e R s m args below meth c Q cX12_staleCount 2 RX12 k σ1) (hst : l.stackTraces = false) (hf : X12_staleCount E l0 l1 σ = some res) (hw : gW E D A s σ H locs) (hl : lv_has ls 2 [(0, .ref l0), (1, .int l1)]) : W p l e R s m args below meth c H locs cells slots Q (F0 m 0 ls []) := by
  have hC0 := hC
  obtain ⟨hx, hb, hml, hown, hts, -⟩ := hC0
  unfold X12_staleCount at hf
  refine lv_aload_n hx hb dX12_staleCount_0 rfl (lv_at hl 0 rfl) ?_
  refine lv_iload_n hx hb dX12_staleCount_1 rfl (lv_at hl 1 rfl) ?_
  obtain ⟨_, h3, hf⟩ := ob_some hf
  obtain ⟨x1, h2, hf⟩ := ob_some hf
  refine gg_yVV (As := [.int l1]) hC hw (X12_checkColumn_M l hst E D A h2) h3 rfl g_ml_X12_116 hd_X12_checkColumn (Nat.le_of_ble_eq_true rfl) (Nat.le_of_ble_eq_true rfl) hl.1 rfl (Nat.le_of_ble_eq_true rfl) dX12_staleCount_2 (fun k9 σ9 he => ?_) (fun σ4 he H locs cells slots hw => ?_)
  · subst he
    replace hf := gtry_inl.symm.trans hf
    cases hf
    exact (hT _ _ rfl).2.2 _ _ _
  · subst he
    replace hf := gtry_inr.symm.trans hf
    refine lv_aload_n hx hb dX12_staleCount_5 rfl (lv_at hl 0 rfl) ?_
    obtain ⟨x6, h7, hf⟩ := ob_some hf
    refine rR_fl_X12_10 hC hw h7 dX12_staleCount_6 ?_
    refine lv_iload_n hx hb dX12_staleCount_9 rfl (lv_at hl 1 rfl) ?_
    obtain ⟨_, h10, hf⟩ := ob_some hf
    obtain ⟨x8, h9, hf⟩ := ob_some hf
    refine gg_cVR (As := [.int l1]) hC hw (X11_column_M l E D A h9) h10 rfl g_ml_X12_122 hd_X11_column (Nat.le_of_ble_eq_true rfl) (Nat.le_of_ble_eq_true rfl) hl.1 rfl (Nat.le_of_ble_eq_true rfl) dX12_staleCount_10 (fun H locs cells slots hw => ?_)
    refine lv_aload_n hx hb dX12_staleCount_13 rfl (lv_at hl 0 rfl) ?_
    obtain ⟨x11, h12, hf⟩ := ob_some hf
    refine rR_fl_X12_56 hC hw h12 dX12_staleCount_14 ?_
    obtain ⟨_, h15, hf⟩ := ob_some hf
    obtain ⟨x13, h14, hf⟩ := ob_some hf
    refine gg_cVV (As := [.ref x11]) hC hw (X1_collectInto_M l E D A h14) h15 rfl g_ml_X12_150 hd_X1_collectInto (Nat.le_of_ble_eq_true rfl) (Nat.le_of_ble_eq_true rfl) hl.1 rfl (Nat.le_of_ble_eq_true rfl) dX12_staleCount_17 (fun H locs cells slots hw => ?_)
    refine lv_aload_n hx hb dX12_staleCount_20 rfl (lv_at hl 0 rfl) ?_
    obtain ⟨x16, h17, hf⟩ := ob_some hf
    refine rR_fl_X12_10 hC hw h17 dX12_staleCount_21 ?_
    refine lv_iload_n hx hb dX12_staleCount_24 rfl (lv_at hl 1 rfl) ?_
    obtain ⟨_, h20, hf⟩ := ob_some hf
    obtain ⟨x18, h19, hf⟩ := ob_some hf
    refine gg_cVR (As := [.int l1]) hC hw (X11_dictionary_M l E D A h19) h20 rfl g_ml_X12_135 hd_X11_dictionary (Nat.le_of_ble_eq_true rfl) (Nat.le_of_ble_eq_true rfl) hl.1 rfl (Nat.le_of_ble_eq_true rfl) dX12_staleCount_25 (fun H locs cells slots hw => ?_)
    obtain ⟨_, h23, hf⟩ := ob_some hf
    obtain ⟨x21, h22, hf⟩ := ob_some hf
    refine gg_cVI (As := []) hC hw (X3_size_M l E D A h22) h23 rfl g_ml_X12_139 hd_X3_size (Nat.le_of_ble_eq_true rfl) (Nat.le_of_ble_eq_true rfl) hl.1 rfl (Nat.le_of_ble_eq_true rfl) dX12_staleCount_28 (fun H locs cells slots hw => ?_)
    refine lv_aload_n hx hb dX12_staleCount_31 rfl (lv_at hl 0 rfl) ?_
    obtain ⟨x24, h25, hf⟩ := ob_some hf
    refine rR_fl_X12_56 hC hw h25 dX12_staleCount_32 ?_
    obtain ⟨_, h28, hf⟩ := ob_some hf
    obtain ⟨x26, h27, hf⟩ := ob_some hf
    refine gg_cVI (As := []) hC hw (X3_size_M l E D A h27) h28 rfl g_ml_X12_139 hd_X3_size (Nat.le_of_ble_eq_true rfl) (Nat.le_of_ble_eq_true rfl) hl.1 rfl (Nat.le_of_ble_eq_true rfl) dX12_staleCount_35 (fun H locs cells slots hw => ?_)
    refine lv_isub hx hb dX12_staleCount_38 ?_
    cases hf
    exact hQ _ _ rfl _ _ _ _ _ _ dX12_staleCount_39 rfl hw

def X12_staleCount_f (E : gE) (l0 : Nat) (l1 : Int32) (σ : gS) : Option ((Nat ⊕ Int32) × gS) := X12_staleCount E l0 l1 σ
set_option maxRecDepth 100000 in
theorem X12_staleCount_M (l : Launch) (hst : l.stackTraces = false) (E : gE) (D : va_G) (A : Nat → Prop) {l0 : Nat} {l1 : Int32} {σ : gS} {res : ((Nat ⊕ Int32) × gS)} (hf : X12_staleCount_f E l0 l1 σ = some res) : gYI l E D A yX12_staleCount (Cond.code yX12_staleCount cX12_staleCount 2 (some FieldType.int)) 7 146 [.ref l0, .int l1] σ res := by
  refine gg_entYI (own := RX12) (nm := "staleCount") (ty := FieldType.int) hst (Nat.le_of_ble_eq_true rfl) (Nat.le_of_ble_eq_true rfl) (by decide +kernel) rfl rfl (Nat.le_of_ble_eq_true rfl) rfl ?_
  intro p e R s m args below meth c Q ls hC hw hQ hT hl
  have hl : lv_has ls 2 [(0, .ref l0), (1, .int l1)] := hl
  exact X12_staleCount_W hC hQ hT hst hf hw hl

def X12_sumSelected (E : gE) (l0 : Nat) (l1 : Int32) (σ : gS) : Option ((Nat ⊕ Int64) × gS) :=
  ob (gcl σ l0 10) fun _ =>
  ob (X12_checkColumn_f E l0 l1 σ) fun x1 =>
  gtry x1 (fun k9 σ9 => some (Sum.inl k9, σ9)) (fun _ σ4 =>
    ob (gcl σ4 l0 10) fun _ =>
    ob (X12_sumOfSelected_f E σ4 l0 l1) fun x6 =>
    some (Sum.inr x6, σ4))
set_option maxHeartbeats 4000000 in
set_option maxRecDepth 100000 in
theorem X12_sumSelected_W {σ : gS} {l0 : Nat} {l1 : Int32} {res : ((Nat ⊕ Int64) × gS)} {ls : Array Slot} (hC : gC E D A p R s m args meth c cX12_sumSelected 2 RX12 "sumSelected" 7 131) (hQ : ∀ (r : Int64) (σ1 : gS), res = (.inr r, σ1) → gQJ E D A p l e R s m args below meth c Q cX12_sumSelected (r, σ1)) (hT : ∀ (k : Nat) (σ1 : gS), res = (.inl k, σ1) → gTN E D A p l e R s m args below meth c Q cX12_sumSelected 2 RX12 k σ1) (hst : l.stackTraces = false) (hf : X12_sumSelected E l0 l1 σ = some res) (hw : gW E D A s σ H locs) (hl : lv_has ls 2 [(0, .ref l0), (1, .int l1)]) : W p l e R s m args below meth c H locs cells slots Q (F0 m 0 ls []) := by
  have hC0 := hC
  obtain ⟨hx, hb, hml, hown, hts, -⟩ := hC0
  unfold X12_sumSelected at hf
  refine lv_aload_n hx hb dX12_sumSelected_0 rfl (lv_at hl 0 rfl) ?_
  refine lv_iload_n hx hb dX12_sumSelected_1 rfl (lv_at hl 1 rfl) ?_
  obtain ⟨_, h3, hf⟩ := ob_some hf
  obtain ⟨x1, h2, hf⟩ := ob_some hf
  refine gg_yVV (As := [.int l1]) hC hw (X12_checkColumn_M l hst E D A h2) h3 rfl g_ml_X12_116 hd_X12_checkColumn (Nat.le_of_ble_eq_true rfl) (Nat.le_of_ble_eq_true rfl) hl.1 rfl (Nat.le_of_ble_eq_true rfl) dX12_sumSelected_2 (fun k9 σ9 he => ?_) (fun σ4 he H locs cells slots hw => ?_)
  · subst he
    replace hf := gtry_inl.symm.trans hf
    cases hf
    exact (hT _ _ rfl).2.2 _ _ _
  · subst he
    replace hf := gtry_inr.symm.trans hf
    refine lv_aload_n hx hb dX12_sumSelected_5 rfl (lv_at hl 0 rfl) ?_
    refine lv_iload_n hx hb dX12_sumSelected_6 rfl (lv_at hl 1 rfl) ?_
    obtain ⟨_, h8, hf⟩ := ob_some hf
    obtain ⟨x6, h7, hf⟩ := ob_some hf
    refine gg_cVJ (As := [.int l1]) hC hw (X12_sumOfSelected_M l E D A h7) h8 rfl g_ml_X12_235 hd_X12_sumOfSelected (Nat.le_of_ble_eq_true rfl) (Nat.le_of_ble_eq_true rfl) hl.1 rfl (Nat.le_of_ble_eq_true rfl) dX12_sumSelected_7 (fun H locs cells slots hw => ?_)
    cases hf
    exact hQ _ _ rfl _ _ _ _ _ _ dX12_sumSelected_10 hw

def X12_sumSelected_f (E : gE) (l0 : Nat) (l1 : Int32) (σ : gS) : Option ((Nat ⊕ Int64) × gS) := X12_sumSelected E l0 l1 σ
set_option maxRecDepth 100000 in
theorem X12_sumSelected_M (l : Launch) (hst : l.stackTraces = false) (E : gE) (D : va_G) (A : Nat → Prop) {l0 : Nat} {l1 : Int32} {σ : gS} {res : ((Nat ⊕ Int64) × gS)} (hf : X12_sumSelected_f E l0 l1 σ = some res) : gYJ l E D A yX12_sumSelected (Cond.code yX12_sumSelected cX12_sumSelected 2 (some FieldType.long)) 7 131 [.ref l0, .int l1] σ res := by
  refine gg_entYJ (own := RX12) (nm := "sumSelected") hst (Nat.le_of_ble_eq_true rfl) (Nat.le_of_ble_eq_true rfl) (by decide +kernel) rfl rfl (Nat.le_of_ble_eq_true rfl) rfl ?_
  intro p e R s m args below meth c Q ls hC hw hQ hT hl
  have hl : lv_has ls 2 [(0, .ref l0), (1, .int l1)] := hl
  exact X12_sumSelected_W hC hQ hT hst hf hw hl

def X12_smallestSelected (E : gE) (l0 : Nat) (l1 : Int32) (σ : gS) : Option ((Nat ⊕ Int32) × gS) :=
  ob (gcl σ l0 10) fun _ =>
  ob (X12_checkColumn_f E l0 l1 σ) fun x1 =>
  gtry x1 (fun k9 σ9 => some (Sum.inl k9, σ9)) (fun _ σ4 =>
    ob (gcl σ4 l0 10) fun _ =>
    ob (X12_collectSelected_f E l0 l1 σ4) fun x6 =>
    ob (gcl x6 l0 10) fun _ =>
    ob (X12_checkAnySeen_f E l0 x6) fun x9 =>
    gtry x9 (fun k9 σ9 => some (Sum.inl k9, σ9)) (fun _ σ12 =>
      ob (gfR σ12 l0 10 9) fun x14 =>
      ob (gcl σ12 x14 2) fun _ =>
      ob (X3_entry_f E σ12 x14 (0 : Int32)) fun x16 =>
      some (Sum.inr x16, σ12)))
set_option maxHeartbeats 4000000 in
set_option maxRecDepth 100000 in
theorem X12_smallestSelected_W {σ : gS} {l0 : Nat} {l1 : Int32} {res : ((Nat ⊕ Int32) × gS)} {ls : Array Slot} (hC : gC E D A p R s m args meth c cX12_smallestSelected 2 RX12 "smallestSelected" 7 146) (hQ : ∀ (r : Int32) (σ1 : gS), res = (.inr r, σ1) → gQI E D A p l e R s m args below meth c Q cX12_smallestSelected FieldType.int (r, σ1)) (hT : ∀ (k : Nat) (σ1 : gS), res = (.inl k, σ1) → gTN E D A p l e R s m args below meth c Q cX12_smallestSelected 2 RX12 k σ1) (hst : l.stackTraces = false) (hf : X12_smallestSelected E l0 l1 σ = some res) (hw : gW E D A s σ H locs) (hl : lv_has ls 2 [(0, .ref l0), (1, .int l1)]) : W p l e R s m args below meth c H locs cells slots Q (F0 m 0 ls []) := by
  have hC0 := hC
  obtain ⟨hx, hb, hml, hown, hts, -⟩ := hC0
  unfold X12_smallestSelected at hf
  refine lv_aload_n hx hb dX12_smallestSelected_0 rfl (lv_at hl 0 rfl) ?_
  refine lv_iload_n hx hb dX12_smallestSelected_1 rfl (lv_at hl 1 rfl) ?_
  obtain ⟨_, h3, hf⟩ := ob_some hf
  obtain ⟨x1, h2, hf⟩ := ob_some hf
  refine gg_yVV (As := [.int l1]) hC hw (X12_checkColumn_M l hst E D A h2) h3 rfl g_ml_X12_116 hd_X12_checkColumn (Nat.le_of_ble_eq_true rfl) (Nat.le_of_ble_eq_true rfl) hl.1 rfl (Nat.le_of_ble_eq_true rfl) dX12_smallestSelected_2 (fun k9 σ9 he => ?_) (fun σ4 he H locs cells slots hw => ?_)
  · subst he
    replace hf := gtry_inl.symm.trans hf
    cases hf
    exact (hT _ _ rfl).2.2 _ _ _
  · subst he
    replace hf := gtry_inr.symm.trans hf
    refine lv_aload_n hx hb dX12_smallestSelected_5 rfl (lv_at hl 0 rfl) ?_
    refine lv_iload_n hx hb dX12_smallestSelected_6 rfl (lv_at hl 1 rfl) ?_
    obtain ⟨_, h8, hf⟩ := ob_some hf
    obtain ⟨x6, h7, hf⟩ := ob_some hf
    refine gg_cVV (As := [.int l1]) hC hw (X12_collectSelected_M l E D A h7) h8 rfl g_ml_X12_238 hd_X12_collectSelected (Nat.le_of_ble_eq_true rfl) (Nat.le_of_ble_eq_true rfl) hl.1 rfl (Nat.le_of_ble_eq_true rfl) dX12_smallestSelected_7 (fun H locs cells slots hw => ?_)
    refine lv_aload_n hx hb dX12_smallestSelected_10 rfl (lv_at hl 0 rfl) ?_
    obtain ⟨_, h11, hf⟩ := ob_some hf
    obtain ⟨x9, h10, hf⟩ := ob_some hf
    refine gg_yVV (As := []) hC hw (X12_checkAnySeen_M l hst E D A h10) h11 rfl g_ml_X12_241 hd_X12_checkAnySeen (Nat.le_of_ble_eq_true rfl) (Nat.le_of_ble_eq_true rfl) hl.1 rfl (Nat.le_of_ble_eq_true rfl) dX12_smallestSelected_11 (fun k9 σ9 he => ?_) (fun σ12 he H locs cells slots hw => ?_)
    · subst he
      replace hf := gtry_inl.symm.trans hf
      cases hf
      exact (hT _ _ rfl).2.2 _ _ _
    · subst he
      replace hf := gtry_inr.symm.trans hf
      refine lv_aload_n hx hb dX12_smallestSelected_14 rfl (lv_at hl 0 rfl) ?_
      obtain ⟨x14, h15, hf⟩ := ob_some hf
      refine rR_fl_X12_56 hC hw h15 dX12_smallestSelected_15 ?_
      refine lv_iconst (v := 0) hx hb dX12_smallestSelected_18 (by decide) ?_
      obtain ⟨_, h18, hf⟩ := ob_some hf
      obtain ⟨x16, h17, hf⟩ := ob_some hf
      refine gg_cVI (As := [.int (0 : Int32)]) hC hw (X3_entry_M l E D A h17) h18 rfl g_ml_X12_144 hd_X3_entry (Nat.le_of_ble_eq_true rfl) (Nat.le_of_ble_eq_true rfl) hl.1 rfl (Nat.le_of_ble_eq_true rfl) dX12_smallestSelected_19 (fun H locs cells slots hw => ?_)
      cases hf
      exact hQ _ _ rfl _ _ _ _ _ _ dX12_smallestSelected_22 rfl hw

def X12_smallestSelected_f (E : gE) (l0 : Nat) (l1 : Int32) (σ : gS) : Option ((Nat ⊕ Int32) × gS) := X12_smallestSelected E l0 l1 σ
set_option maxRecDepth 100000 in
theorem X12_smallestSelected_M (l : Launch) (hst : l.stackTraces = false) (E : gE) (D : va_G) (A : Nat → Prop) {l0 : Nat} {l1 : Int32} {σ : gS} {res : ((Nat ⊕ Int32) × gS)} (hf : X12_smallestSelected_f E l0 l1 σ = some res) : gYI l E D A yX12_smallestSelected (Cond.code yX12_smallestSelected cX12_smallestSelected 2 (some FieldType.int)) 7 146 [.ref l0, .int l1] σ res := by
  refine gg_entYI (own := RX12) (nm := "smallestSelected") (ty := FieldType.int) hst (Nat.le_of_ble_eq_true rfl) (Nat.le_of_ble_eq_true rfl) (by decide +kernel) rfl rfl (Nat.le_of_ble_eq_true rfl) rfl ?_
  intro p e R s m args below meth c Q ls hC hw hQ hT hl
  have hl : lv_has ls 2 [(0, .ref l0), (1, .int l1)] := hl
  exact X12_smallestSelected_W hC hQ hT hst hf hw hl

def X12_greatestSelected (E : gE) (l0 : Nat) (l1 : Int32) (σ : gS) : Option ((Nat ⊕ Int32) × gS) :=
  ob (gcl σ l0 10) fun _ =>
  ob (X12_checkColumn_f E l0 l1 σ) fun x1 =>
  gtry x1 (fun k9 σ9 => some (Sum.inl k9, σ9)) (fun _ σ4 =>
    ob (gcl σ4 l0 10) fun _ =>
    ob (X12_collectSelected_f E l0 l1 σ4) fun x6 =>
    ob (gcl x6 l0 10) fun _ =>
    ob (X12_checkAnySeen_f E l0 x6) fun x9 =>
    gtry x9 (fun k9 σ9 => some (Sum.inl k9, σ9)) (fun _ σ12 =>
      ob (gfR σ12 l0 10 9) fun x14 =>
      ob (gfR σ12 l0 10 9) fun x16 =>
      ob (gcl σ12 x16 2) fun _ =>
      ob (X3_size_f E σ12 x16) fun x18 =>
      ob (gcl σ12 x14 2) fun _ =>
      ob (X3_entry_f E σ12 x14 (x18 - (1 : Int32))) fun x21 =>
      some (Sum.inr x21, σ12)))
set_option maxHeartbeats 4000000 in
set_option maxRecDepth 100000 in
theorem X12_greatestSelected_W {σ : gS} {l0 : Nat} {l1 : Int32} {res : ((Nat ⊕ Int32) × gS)} {ls : Array Slot} (hC : gC E D A p R s m args meth c cX12_greatestSelected 2 RX12 "greatestSelected" 7 146) (hQ : ∀ (r : Int32) (σ1 : gS), res = (.inr r, σ1) → gQI E D A p l e R s m args below meth c Q cX12_greatestSelected FieldType.int (r, σ1)) (hT : ∀ (k : Nat) (σ1 : gS), res = (.inl k, σ1) → gTN E D A p l e R s m args below meth c Q cX12_greatestSelected 2 RX12 k σ1) (hst : l.stackTraces = false) (hf : X12_greatestSelected E l0 l1 σ = some res) (hw : gW E D A s σ H locs) (hl : lv_has ls 2 [(0, .ref l0), (1, .int l1)]) : W p l e R s m args below meth c H locs cells slots Q (F0 m 0 ls []) := by
  have hC0 := hC
  obtain ⟨hx, hb, hml, hown, hts, -⟩ := hC0
  unfold X12_greatestSelected at hf
  refine lv_aload_n hx hb dX12_greatestSelected_0 rfl (lv_at hl 0 rfl) ?_
  refine lv_iload_n hx hb dX12_greatestSelected_1 rfl (lv_at hl 1 rfl) ?_
  obtain ⟨_, h3, hf⟩ := ob_some hf
  obtain ⟨x1, h2, hf⟩ := ob_some hf
  refine gg_yVV (As := [.int l1]) hC hw (X12_checkColumn_M l hst E D A h2) h3 rfl g_ml_X12_116 hd_X12_checkColumn (Nat.le_of_ble_eq_true rfl) (Nat.le_of_ble_eq_true rfl) hl.1 rfl (Nat.le_of_ble_eq_true rfl) dX12_greatestSelected_2 (fun k9 σ9 he => ?_) (fun σ4 he H locs cells slots hw => ?_)
  · subst he
    replace hf := gtry_inl.symm.trans hf
    cases hf
    exact (hT _ _ rfl).2.2 _ _ _
  · subst he
    replace hf := gtry_inr.symm.trans hf
    refine lv_aload_n hx hb dX12_greatestSelected_5 rfl (lv_at hl 0 rfl) ?_
    refine lv_iload_n hx hb dX12_greatestSelected_6 rfl (lv_at hl 1 rfl) ?_
    obtain ⟨_, h8, hf⟩ := ob_some hf
    obtain ⟨x6, h7, hf⟩ := ob_some hf
    refine gg_cVV (As := [.int l1]) hC hw (X12_collectSelected_M l E D A h7) h8 rfl g_ml_X12_238 hd_X12_collectSelected (Nat.le_of_ble_eq_true rfl) (Nat.le_of_ble_eq_true rfl) hl.1 rfl (Nat.le_of_ble_eq_true rfl) dX12_greatestSelected_7 (fun H locs cells slots hw => ?_)
    refine lv_aload_n hx hb dX12_greatestSelected_10 rfl (lv_at hl 0 rfl) ?_
    obtain ⟨_, h11, hf⟩ := ob_some hf
    obtain ⟨x9, h10, hf⟩ := ob_some hf
    refine gg_yVV (As := []) hC hw (X12_checkAnySeen_M l hst E D A h10) h11 rfl g_ml_X12_241 hd_X12_checkAnySeen (Nat.le_of_ble_eq_true rfl) (Nat.le_of_ble_eq_true rfl) hl.1 rfl (Nat.le_of_ble_eq_true rfl) dX12_greatestSelected_11 (fun k9 σ9 he => ?_) (fun σ12 he H locs cells slots hw => ?_)
    · subst he
      replace hf := gtry_inl.symm.trans hf
      cases hf
      exact (hT _ _ rfl).2.2 _ _ _
    · subst he
      replace hf := gtry_inr.symm.trans hf
      refine lv_aload_n hx hb dX12_greatestSelected_14 rfl (lv_at hl 0 rfl) ?_
      obtain ⟨x14, h15, hf⟩ := ob_some hf
      refine rR_fl_X12_56 hC hw h15 dX12_greatestSelected_15 ?_
      refine lv_aload_n hx hb dX12_greatestSelected_18 rfl (lv_at hl 0 rfl) ?_
      obtain ⟨x16, h17, hf⟩ := ob_some hf
      refine rR_fl_X12_56 hC hw h17 dX12_greatestSelected_19 ?_
      obtain ⟨_, h20, hf⟩ := ob_some hf
      obtain ⟨x18, h19, hf⟩ := ob_some hf
      refine gg_cVI (As := []) hC hw (X3_size_M l E D A h19) h20 rfl g_ml_X12_139 hd_X3_size (Nat.le_of_ble_eq_true rfl) (Nat.le_of_ble_eq_true rfl) hl.1 rfl (Nat.le_of_ble_eq_true rfl) dX12_greatestSelected_22 (fun H locs cells slots hw => ?_)
      refine lv_iconst (v := 1) hx hb dX12_greatestSelected_25 (by decide) ?_
      refine lv_isub hx hb dX12_greatestSelected_26 ?_
      obtain ⟨_, h23, hf⟩ := ob_some hf
      obtain ⟨x21, h22, hf⟩ := ob_some hf
      refine gg_cVI (As := [.int (x18 - (1 : Int32))]) hC hw (X3_entry_M l E D A h22) h23 rfl g_ml_X12_144 hd_X3_entry (Nat.le_of_ble_eq_true rfl) (Nat.le_of_ble_eq_true rfl) hl.1 rfl (Nat.le_of_ble_eq_true rfl) dX12_greatestSelected_27 (fun H locs cells slots hw => ?_)
      cases hf
      exact hQ _ _ rfl _ _ _ _ _ _ dX12_greatestSelected_30 rfl hw

def X12_greatestSelected_f (E : gE) (l0 : Nat) (l1 : Int32) (σ : gS) : Option ((Nat ⊕ Int32) × gS) := X12_greatestSelected E l0 l1 σ
set_option maxRecDepth 100000 in
theorem X12_greatestSelected_M (l : Launch) (hst : l.stackTraces = false) (E : gE) (D : va_G) (A : Nat → Prop) {l0 : Nat} {l1 : Int32} {σ : gS} {res : ((Nat ⊕ Int32) × gS)} (hf : X12_greatestSelected_f E l0 l1 σ = some res) : gYI l E D A yX12_greatestSelected (Cond.code yX12_greatestSelected cX12_greatestSelected 2 (some FieldType.int)) 7 146 [.ref l0, .int l1] σ res := by
  refine gg_entYI (own := RX12) (nm := "greatestSelected") (ty := FieldType.int) hst (Nat.le_of_ble_eq_true rfl) (Nat.le_of_ble_eq_true rfl) (by decide +kernel) rfl rfl (Nat.le_of_ble_eq_true rfl) rfl ?_
  intro p e R s m args below meth c Q ls hC hw hQ hT hl
  have hl : lv_has ls 2 [(0, .ref l0), (1, .int l1)] := hl
  exact X12_greatestSelected_W hC hQ hT hst hf hw hl

def X12_distinctSelected (E : gE) (l0 : Nat) (l1 : Int32) (σ : gS) : Option ((Nat ⊕ Int32) × gS) :=
  ob (gcl σ l0 10) fun _ =>
  ob (X12_checkColumn_f E l0 l1 σ) fun x1 =>
  gtry x1 (fun k9 σ9 => some (Sum.inl k9, σ9)) (fun _ σ4 =>
    ob (gcl σ4 l0 10) fun _ =>
    ob (X12_collectSelected_f E l0 l1 σ4) fun x6 =>
    ob (gfR x6 l0 10 9) fun x9 =>
    ob (gcl x6 x9 2) fun _ =>
    ob (X3_size_f E x6 x9) fun x11 =>
    some (Sum.inr x11, x6))
set_option maxHeartbeats 4000000 in
set_option maxRecDepth 100000 in
theorem X12_distinctSelected_W {σ : gS} {l0 : Nat} {l1 : Int32} {res : ((Nat ⊕ Int32) × gS)} {ls : Array Slot} (hC : gC E D A p R s m args meth c cX12_distinctSelected 2 RX12 "distinctSelected" 7 146) (hQ : ∀ (r : Int32) (σ1 : gS), res = (.inr r, σ1) → gQI E D A p l e R s m args below meth c Q cX12_distinctSelected FieldType.int (r, σ1)) (hT : ∀ (k : Nat) (σ1 : gS), res = (.inl k, σ1) → gTN E D A p l e R s m args below meth c Q cX12_distinctSelected 2 RX12 k σ1) (hst : l.stackTraces = false) (hf : X12_distinctSelected E l0 l1 σ = some res) (hw : gW E D A s σ H locs) (hl : lv_has ls 2 [(0, .ref l0), (1, .int l1)]) : W p l e R s m args below meth c H locs cells slots Q (F0 m 0 ls []) := by
  have hC0 := hC
  obtain ⟨hx, hb, hml, hown, hts, -⟩ := hC0
  unfold X12_distinctSelected at hf
  refine lv_aload_n hx hb dX12_distinctSelected_0 rfl (lv_at hl 0 rfl) ?_
  refine lv_iload_n hx hb dX12_distinctSelected_1 rfl (lv_at hl 1 rfl) ?_
  obtain ⟨_, h3, hf⟩ := ob_some hf
  obtain ⟨x1, h2, hf⟩ := ob_some hf
  refine gg_yVV (As := [.int l1]) hC hw (X12_checkColumn_M l hst E D A h2) h3 rfl g_ml_X12_116 hd_X12_checkColumn (Nat.le_of_ble_eq_true rfl) (Nat.le_of_ble_eq_true rfl) hl.1 rfl (Nat.le_of_ble_eq_true rfl) dX12_distinctSelected_2 (fun k9 σ9 he => ?_) (fun σ4 he H locs cells slots hw => ?_)
  · subst he
    replace hf := gtry_inl.symm.trans hf
    cases hf
    exact (hT _ _ rfl).2.2 _ _ _
  · subst he
    replace hf := gtry_inr.symm.trans hf
    refine lv_aload_n hx hb dX12_distinctSelected_5 rfl (lv_at hl 0 rfl) ?_
    refine lv_iload_n hx hb dX12_distinctSelected_6 rfl (lv_at hl 1 rfl) ?_
    obtain ⟨_, h8, hf⟩ := ob_some hf
    obtain ⟨x6, h7, hf⟩ := ob_some hf
    refine gg_cVV (As := [.int l1]) hC hw (X12_collectSelected_M l E D A h7) h8 rfl g_ml_X12_238 hd_X12_collectSelected (Nat.le_of_ble_eq_true rfl) (Nat.le_of_ble_eq_true rfl) hl.1 rfl (Nat.le_of_ble_eq_true rfl) dX12_distinctSelected_7 (fun H locs cells slots hw => ?_)
    refine lv_aload_n hx hb dX12_distinctSelected_10 rfl (lv_at hl 0 rfl) ?_
    obtain ⟨x9, h10, hf⟩ := ob_some hf
    refine rR_fl_X12_56 hC hw h10 dX12_distinctSelected_11 ?_
    obtain ⟨_, h13, hf⟩ := ob_some hf
    obtain ⟨x11, h12, hf⟩ := ob_some hf
    refine gg_cVI (As := []) hC hw (X3_size_M l E D A h12) h13 rfl g_ml_X12_139 hd_X3_size (Nat.le_of_ble_eq_true rfl) (Nat.le_of_ble_eq_true rfl) hl.1 rfl (Nat.le_of_ble_eq_true rfl) dX12_distinctSelected_14 (fun H locs cells slots hw => ?_)
    cases hf
    exact hQ _ _ rfl _ _ _ _ _ _ dX12_distinctSelected_17 rfl hw

def X12_distinctSelected_f (E : gE) (l0 : Nat) (l1 : Int32) (σ : gS) : Option ((Nat ⊕ Int32) × gS) := X12_distinctSelected E l0 l1 σ
set_option maxRecDepth 100000 in
theorem X12_distinctSelected_M (l : Launch) (hst : l.stackTraces = false) (E : gE) (D : va_G) (A : Nat → Prop) {l0 : Nat} {l1 : Int32} {σ : gS} {res : ((Nat ⊕ Int32) × gS)} (hf : X12_distinctSelected_f E l0 l1 σ = some res) : gYI l E D A yX12_distinctSelected (Cond.code yX12_distinctSelected cX12_distinctSelected 2 (some FieldType.int)) 7 146 [.ref l0, .int l1] σ res := by
  refine gg_entYI (own := RX12) (nm := "distinctSelected") (ty := FieldType.int) hst (Nat.le_of_ble_eq_true rfl) (Nat.le_of_ble_eq_true rfl) (by decide +kernel) rfl rfl (Nat.le_of_ble_eq_true rfl) rfl ?_
  intro p e R s m args below meth c Q ls hC hw hQ hT hl
  have hl : lv_has ls 2 [(0, .ref l0), (1, .int l1)] := hl
  exact X12_distinctSelected_W hC hQ hT hst hf hw hl

def X12_meanSelected (E : gE) (l0 : Nat) (l1 : Int32) (σ : gS) : Option ((Nat ⊕ UInt64) × gS) :=
  ob (gcl σ l0 10) fun _ =>
  ob (X12_checkColumn_f E l0 l1 σ) fun x1 =>
  gtry x1 (fun k9 σ9 => some (Sum.inl k9, σ9)) (fun _ σ4 =>
    ob (gfR σ4 l0 10 0) fun x6 =>
    ob (gcl σ4 x6 9) fun _ =>
    ob (X11_selectedRows_f E σ4 x6) fun x8 =>
    if x8 ≤ 0 then
      some (Sum.inr (0 : UInt64), σ4)
    else
      ob (gcl σ4 l0 10) fun _ =>
      ob (X12_sumOfSelected_f E σ4 l0 l1) fun x11 =>
      ob (gddiv (FP.l2d x11) (FP.i2d x8)) fun x14 =>
      some (Sum.inr x14, σ4))
set_option maxHeartbeats 4000000 in
set_option maxRecDepth 100000 in
theorem X12_meanSelected_W {σ : gS} {l0 : Nat} {l1 : Int32} {res : ((Nat ⊕ UInt64) × gS)} {ls : Array Slot} (hC : gC E D A p R s m args meth c cX12_meanSelected 3 RX12 "meanSelected" 7 131) (hQ : ∀ (r : UInt64) (σ1 : gS), res = (.inr r, σ1) → gQD E D A p l e R s m args below meth c Q cX12_meanSelected (r, σ1)) (hT : ∀ (k : Nat) (σ1 : gS), res = (.inl k, σ1) → gTN E D A p l e R s m args below meth c Q cX12_meanSelected 3 RX12 k σ1) (hst : l.stackTraces = false) (hf : X12_meanSelected E l0 l1 σ = some res) (hw : gW E D A s σ H locs) (hl : lv_has ls 3 [(0, .ref l0), (1, .int l1)]) : W p l e R s m args below meth c H locs cells slots Q (F0 m 0 ls []) := by
  have hC0 := hC
  obtain ⟨hx, hb, hml, hown, hts, -⟩ := hC0
  unfold X12_meanSelected at hf
  refine lv_aload_n hx hb dX12_meanSelected_0 rfl (lv_at hl 0 rfl) ?_
  refine lv_iload_n hx hb dX12_meanSelected_1 rfl (lv_at hl 1 rfl) ?_
  obtain ⟨_, h3, hf⟩ := ob_some hf
  obtain ⟨x1, h2, hf⟩ := ob_some hf
  refine gg_yVV (As := [.int l1]) hC hw (X12_checkColumn_M l hst E D A h2) h3 rfl g_ml_X12_116 hd_X12_checkColumn (Nat.le_of_ble_eq_true rfl) (Nat.le_of_ble_eq_true rfl) hl.1 rfl (Nat.le_of_ble_eq_true rfl) dX12_meanSelected_2 (fun k9 σ9 he => ?_) (fun σ4 he H locs cells slots hw => ?_)
  · subst he
    replace hf := gtry_inl.symm.trans hf
    cases hf
    exact (hT _ _ rfl).2.2 _ _ _
  · subst he
    replace hf := gtry_inr.symm.trans hf
    refine lv_aload_n hx hb dX12_meanSelected_5 rfl (lv_at hl 0 rfl) ?_
    obtain ⟨x6, h7, hf⟩ := ob_some hf
    refine rR_fl_X12_10 hC hw h7 dX12_meanSelected_6 ?_
    obtain ⟨_, h10, hf⟩ := ob_some hf
    obtain ⟨x8, h9, hf⟩ := ob_some hf
    refine gg_cVI (As := []) hC hw (X11_selectedRows_M l E D A h9) h10 rfl g_ml_X12_229 hd_X11_selectedRows (Nat.le_of_ble_eq_true rfl) (Nat.le_of_ble_eq_true rfl) hl.1 rfl (Nat.le_of_ble_eq_true rfl) dX12_meanSelected_9 (fun H locs cells slots hw => ?_)
    refine lv_istore_n (lv' := [(2, .int x8), (0, .ref l0), (1, .int l1)]) hx hb dX12_meanSelected_12 rfl hl (by decide) rfl (fun ls hl => ?_)
    refine lv_iload_n hx hb dX12_meanSelected_13 rfl (lv_at hl 0 rfl) ?_
    refine lv_if_le (tgt := 29) hx hb dX12_meanSelected_14 (by decide) (fun c16 => ?_) (fun c16 => ?_)
    · replace hf := (if_pos c16).symm.trans hf
      refine lv_dconst0 hx hb dX12_meanSelected_29 ?_
      cases hf
      exact hQ _ _ rfl _ _ _ _ _ _ dX12_meanSelected_30 hw
    · replace hf := (if_neg c16).symm.trans hf
      refine lv_aload_n hx hb dX12_meanSelected_17 rfl (lv_at hl 1 rfl) ?_
      refine lv_iload_n hx hb dX12_meanSelected_18 rfl (lv_at hl 2 rfl) ?_
      obtain ⟨_, h13, hf⟩ := ob_some hf
      obtain ⟨x11, h12, hf⟩ := ob_some hf
      refine gg_cVJ (As := [.int l1]) hC hw (X12_sumOfSelected_M l E D A h12) h13 rfl g_ml_X12_235 hd_X12_sumOfSelected (Nat.le_of_ble_eq_true rfl) (Nat.le_of_ble_eq_true rfl) hl.1 rfl (Nat.le_of_ble_eq_true rfl) dX12_meanSelected_19 (fun H locs cells slots hw => ?_)
      refine lv_l2d hx hb dX12_meanSelected_22 ?_
      refine lv_iload_n hx hb dX12_meanSelected_23 rfl (lv_at hl 0 rfl) ?_
      refine lv_i2d hx hb dX12_meanSelected_24 ?_
      obtain ⟨x14, h15, hf⟩ := ob_some hf
      obtain ⟨he, hn⟩ := gddiv_some h15
      refine lv_ddiv hx hb dX12_meanSelected_25 hn ?_
      rw [← he]
      refine lv_goto (tgt := 30) hx hb dX12_meanSelected_26 (by decide) ?_
      cases hf
      exact hQ _ _ rfl _ _ _ _ _ _ dX12_meanSelected_30 hw

def X12_meanSelected_f (E : gE) (l0 : Nat) (l1 : Int32) (σ : gS) : Option ((Nat ⊕ UInt64) × gS) := X12_meanSelected E l0 l1 σ
set_option maxRecDepth 100000 in
theorem X12_meanSelected_M (l : Launch) (hst : l.stackTraces = false) (E : gE) (D : va_G) (A : Nat → Prop) {l0 : Nat} {l1 : Int32} {σ : gS} {res : ((Nat ⊕ UInt64) × gS)} (hf : X12_meanSelected_f E l0 l1 σ = some res) : gYD l E D A yX12_meanSelected (Cond.code yX12_meanSelected cX12_meanSelected 3 (some FieldType.double)) 7 131 [.ref l0, .int l1] σ res := by
  refine gg_entYD (own := RX12) (nm := "meanSelected") hst (Nat.le_of_ble_eq_true rfl) (Nat.le_of_ble_eq_true rfl) (by decide +kernel) rfl rfl (Nat.le_of_ble_eq_true rfl) rfl ?_
  intro p e R s m args below meth c Q ls hC hw hQ hT hl
  have hl : lv_has ls 3 [(0, .ref l0), (1, .int l1)] := hl
  exact X12_meanSelected_W hC hQ hT hst hf hw hl

def X12_bitWidthCompacted (E : gE) (l0 : Nat) (l1 : Int32) (σ : gS) : Option ((Nat ⊕ Int32) × gS) :=
  ob (gcl σ l0 10) fun _ =>
  ob (X12_checkColumn_f E l0 l1 σ) fun x1 =>
  gtry x1 (fun k9 σ9 => some (Sum.inl k9, σ9)) (fun _ σ4 =>
    ob (gfR σ4 l0 10 0) fun x6 =>
    ob (gcl σ4 x6 9) fun _ =>
    ob (X11_column_f E σ4 x6 l1) fun x8 =>
    ob (gfR σ4 l0 10 9) fun x11 =>
    ob (gcl σ4 x8 0) fun _ =>
    ob (X1_collectInto_f E x8 x11 σ4) fun x13 =>
    ob (gfR x13 l0 10 9) fun x16 =>
    ob (gcl x13 x16 2) fun _ =>
    ob (X3_width_f E x13 x16) fun x18 =>
    some (Sum.inr x18, x13))
set_option maxHeartbeats 4000000 in
set_option maxRecDepth 100000 in
theorem X12_bitWidthCompacted_W {σ : gS} {l0 : Nat} {l1 : Int32} {res : ((Nat ⊕ Int32) × gS)} {ls : Array Slot} (hC : gC E D A p R s m args meth c cX12_bitWidthCompacted 2 RX12 "bitWidthCompacted" 7 146) (hQ : ∀ (r : Int32) (σ1 : gS), res = (.inr r, σ1) → gQI E D A p l e R s m args below meth c Q cX12_bitWidthCompacted FieldType.int (r, σ1)) (hT : ∀ (k : Nat) (σ1 : gS), res = (.inl k, σ1) → gTN E D A p l e R s m args below meth c Q cX12_bitWidthCompacted 2 RX12 k σ1) (hst : l.stackTraces = false) (hf : X12_bitWidthCompacted E l0 l1 σ = some res) (hw : gW E D A s σ H locs) (hl : lv_has ls 2 [(0, .ref l0), (1, .int l1)]) : W p l e R s m args below meth c H locs cells slots Q (F0 m 0 ls []) := by
  have hC0 := hC
  obtain ⟨hx, hb, hml, hown, hts, -⟩ := hC0
  unfold X12_bitWidthCompacted at hf
  refine lv_aload_n hx hb dX12_bitWidthCompacted_0 rfl (lv_at hl 0 rfl) ?_
  refine lv_iload_n hx hb dX12_bitWidthCompacted_1 rfl (lv_at hl 1 rfl) ?_
  obtain ⟨_, h3, hf⟩ := ob_some hf
  obtain ⟨x1, h2, hf⟩ := ob_some hf
  refine gg_yVV (As := [.int l1]) hC hw (X12_checkColumn_M l hst E D A h2) h3 rfl g_ml_X12_116 hd_X12_checkColumn (Nat.le_of_ble_eq_true rfl) (Nat.le_of_ble_eq_true rfl) hl.1 rfl (Nat.le_of_ble_eq_true rfl) dX12_bitWidthCompacted_2 (fun k9 σ9 he => ?_) (fun σ4 he H locs cells slots hw => ?_)
  · subst he
    replace hf := gtry_inl.symm.trans hf
    cases hf
    exact (hT _ _ rfl).2.2 _ _ _
  · subst he
    replace hf := gtry_inr.symm.trans hf
    refine lv_aload_n hx hb dX12_bitWidthCompacted_5 rfl (lv_at hl 0 rfl) ?_
    obtain ⟨x6, h7, hf⟩ := ob_some hf
    refine rR_fl_X12_10 hC hw h7 dX12_bitWidthCompacted_6 ?_
    refine lv_iload_n hx hb dX12_bitWidthCompacted_9 rfl (lv_at hl 1 rfl) ?_
    obtain ⟨_, h10, hf⟩ := ob_some hf
    obtain ⟨x8, h9, hf⟩ := ob_some hf
    refine gg_cVR (As := [.int l1]) hC hw (X11_column_M l E D A h9) h10 rfl g_ml_X12_122 hd_X11_column (Nat.le_of_ble_eq_true rfl) (Nat.le_of_ble_eq_true rfl) hl.1 rfl (Nat.le_of_ble_eq_true rfl) dX12_bitWidthCompacted_10 (fun H locs cells slots hw => ?_)
    refine lv_aload_n hx hb dX12_bitWidthCompacted_13 rfl (lv_at hl 0 rfl) ?_
    obtain ⟨x11, h12, hf⟩ := ob_some hf
    refine rR_fl_X12_56 hC hw h12 dX12_bitWidthCompacted_14 ?_
    obtain ⟨_, h15, hf⟩ := ob_some hf
    obtain ⟨x13, h14, hf⟩ := ob_some hf
    refine gg_cVV (As := [.ref x11]) hC hw (X1_collectInto_M l E D A h14) h15 rfl g_ml_X12_150 hd_X1_collectInto (Nat.le_of_ble_eq_true rfl) (Nat.le_of_ble_eq_true rfl) hl.1 rfl (Nat.le_of_ble_eq_true rfl) dX12_bitWidthCompacted_17 (fun H locs cells slots hw => ?_)
    refine lv_aload_n hx hb dX12_bitWidthCompacted_20 rfl (lv_at hl 0 rfl) ?_
    obtain ⟨x16, h17, hf⟩ := ob_some hf
    refine rR_fl_X12_56 hC hw h17 dX12_bitWidthCompacted_21 ?_
    obtain ⟨_, h20, hf⟩ := ob_some hf
    obtain ⟨x18, h19, hf⟩ := ob_some hf
    refine gg_cVI (As := []) hC hw (X3_width_M l E D A h19) h20 rfl g_ml_X12_160 hd_X3_width (Nat.le_of_ble_eq_true rfl) (Nat.le_of_ble_eq_true rfl) hl.1 rfl (Nat.le_of_ble_eq_true rfl) dX12_bitWidthCompacted_24 (fun H locs cells slots hw => ?_)
    cases hf
    exact hQ _ _ rfl _ _ _ _ _ _ dX12_bitWidthCompacted_27 rfl hw

def X12_bitWidthCompacted_f (E : gE) (l0 : Nat) (l1 : Int32) (σ : gS) : Option ((Nat ⊕ Int32) × gS) := X12_bitWidthCompacted E l0 l1 σ
set_option maxRecDepth 100000 in
theorem X12_bitWidthCompacted_M (l : Launch) (hst : l.stackTraces = false) (E : gE) (D : va_G) (A : Nat → Prop) {l0 : Nat} {l1 : Int32} {σ : gS} {res : ((Nat ⊕ Int32) × gS)} (hf : X12_bitWidthCompacted_f E l0 l1 σ = some res) : gYI l E D A yX12_bitWidthCompacted (Cond.code yX12_bitWidthCompacted cX12_bitWidthCompacted 2 (some FieldType.int)) 7 146 [.ref l0, .int l1] σ res := by
  refine gg_entYI (own := RX12) (nm := "bitWidthCompacted") (ty := FieldType.int) hst (Nat.le_of_ble_eq_true rfl) (Nat.le_of_ble_eq_true rfl) (by decide +kernel) rfl rfl (Nat.le_of_ble_eq_true rfl) rfl ?_
  intro p e R s m args below meth c Q ls hC hw hQ hT hl
  have hl : lv_has ls 2 [(0, .ref l0), (1, .int l1)] := hl
  exact X12_bitWidthCompacted_W hC hQ hT hst hf hw hl

def X12_runsIfSorted (E : gE) (l0 : Nat) (l1 : Int32) (σ : gS) : Option ((Nat ⊕ Int32) × gS) :=
  ob (gcl σ l0 10) fun _ =>
  ob (X12_checkColumn_f E l0 l1 σ) fun x1 =>
  gtry x1 (fun k9 σ9 => some (Sum.inl k9, σ9)) (fun _ σ4 =>
    ob (gcl σ4 l0 10) fun _ =>
    ob (X12_runsAfterSorting_f E l0 l1 σ4) fun x6 =>
    some (Sum.inr x6.1, x6.2))
set_option maxHeartbeats 4000000 in
set_option maxRecDepth 100000 in
theorem X12_runsIfSorted_W {σ : gS} {l0 : Nat} {l1 : Int32} {res : ((Nat ⊕ Int32) × gS)} {ls : Array Slot} (hC : gC E D A p R s m args meth c cX12_runsIfSorted 2 RX12 "runsIfSorted" 7 111) (hQ : ∀ (r : Int32) (σ1 : gS), res = (.inr r, σ1) → gQI E D A p l e R s m args below meth c Q cX12_runsIfSorted FieldType.int (r, σ1)) (hT : ∀ (k : Nat) (σ1 : gS), res = (.inl k, σ1) → gTN E D A p l e R s m args below meth c Q cX12_runsIfSorted 2 RX12 k σ1) (hst : l.stackTraces = false) (hf : X12_runsIfSorted E l0 l1 σ = some res) (hw : gW E D A s σ H locs) (hl : lv_has ls 2 [(0, .ref l0), (1, .int l1)]) : W p l e R s m args below meth c H locs cells slots Q (F0 m 0 ls []) := by
  have hC0 := hC
  obtain ⟨hx, hb, hml, hown, hts, -⟩ := hC0
  unfold X12_runsIfSorted at hf
  refine lv_aload_n hx hb dX12_runsIfSorted_0 rfl (lv_at hl 0 rfl) ?_
  refine lv_iload_n hx hb dX12_runsIfSorted_1 rfl (lv_at hl 1 rfl) ?_
  obtain ⟨_, h3, hf⟩ := ob_some hf
  obtain ⟨x1, h2, hf⟩ := ob_some hf
  refine gg_yVV (As := [.int l1]) hC hw (X12_checkColumn_M l hst E D A h2) h3 rfl g_ml_X12_116 hd_X12_checkColumn (Nat.le_of_ble_eq_true rfl) (Nat.le_of_ble_eq_true rfl) hl.1 rfl (Nat.le_of_ble_eq_true rfl) dX12_runsIfSorted_2 (fun k9 σ9 he => ?_) (fun σ4 he H locs cells slots hw => ?_)
  · subst he
    replace hf := gtry_inl.symm.trans hf
    cases hf
    exact (hT _ _ rfl).2.2 _ _ _
  · subst he
    replace hf := gtry_inr.symm.trans hf
    refine lv_aload_n hx hb dX12_runsIfSorted_5 rfl (lv_at hl 0 rfl) ?_
    refine lv_iload_n hx hb dX12_runsIfSorted_6 rfl (lv_at hl 1 rfl) ?_
    obtain ⟨_, h8, hf⟩ := ob_some hf
    obtain ⟨x6, h7, hf⟩ := ob_some hf
    refine gg_cVI (As := [.int l1]) hC hw (X12_runsAfterSorting_M l E D A h7) h8 rfl g_ml_X12_253 hd_X12_runsAfterSorting (Nat.le_of_ble_eq_true rfl) (Nat.le_of_ble_eq_true rfl) hl.1 rfl (Nat.le_of_ble_eq_true rfl) dX12_runsIfSorted_7 (fun H locs cells slots hw => ?_)
    cases hf
    exact hQ _ _ rfl _ _ _ _ _ _ dX12_runsIfSorted_10 rfl hw

def X12_runsIfSorted_f (E : gE) (l0 : Nat) (l1 : Int32) (σ : gS) : Option ((Nat ⊕ Int32) × gS) := X12_runsIfSorted E l0 l1 σ
set_option maxRecDepth 100000 in
theorem X12_runsIfSorted_M (l : Launch) (hst : l.stackTraces = false) (E : gE) (D : va_G) (A : Nat → Prop) {l0 : Nat} {l1 : Int32} {σ : gS} {res : ((Nat ⊕ Int32) × gS)} (hf : X12_runsIfSorted_f E l0 l1 σ = some res) : gYI l E D A yX12_runsIfSorted (Cond.code yX12_runsIfSorted cX12_runsIfSorted 2 (some FieldType.int)) 7 111 [.ref l0, .int l1] σ res := by
  refine gg_entYI (own := RX12) (nm := "runsIfSorted") (ty := FieldType.int) hst (Nat.le_of_ble_eq_true rfl) (Nat.le_of_ble_eq_true rfl) (by decide +kernel) rfl rfl (Nat.le_of_ble_eq_true rfl) rfl ?_
  intro p e R s m args below meth c Q ls hC hw hQ hT hl
  have hl : lv_has ls 2 [(0, .ref l0), (1, .int l1)] := hl
  exact X12_runsIfSorted_W hC hQ hT hst hf hw hl

def X12_bestSortColumn_39 (E : gE) (r_10 : Nat → Int32 → Int32 → Int32 → gS → Option (Int32 × gS)) (l0 : Nat) (l1 : Int32) (l2 : Int32) (l3 : Int32) (σ : gS) : Option (Int32 × gS) :=
  r_10 l0 l1 l2 (l3 + 1) σ
set_option maxHeartbeats 4000000 in
set_option maxRecDepth 100000 in
theorem X12_bestSortColumn_39_W {σ : gS} {l0 : Nat} {l1 : Int32} {l2 : Int32} {l3 : Int32} {res : (Int32 × gS)} {ls : Array Slot} (hC : gC E D A p R s m args meth c cX12_bestSortColumn 5 RX12 "bestSortColumn" 3 71) (hQ : gQI E D A p l e R s m args below meth c Q cX12_bestSortColumn FieldType.int res) {r_10 : Nat → Int32 → Int32 → Int32 → gS → Option (Int32 × gS)} (h_10 : ∀ {l0 : Nat} {l1 : Int32} {l2 : Int32} {l3 : Int32} {σ : gS} {H : Heap} {locs : List Loc} {cells slots : Nat} {ls : Array Slot}, r_10 l0 l1 l2 l3 σ = some res → gW E D A s σ H locs → lv_has ls 5 [(0, .ref l0), (1, .int l1), (2, .int l2), (3, .int l3)] → W p l e R s m args below meth c H locs cells slots Q (F0 m 10 ls [])) (hf : X12_bestSortColumn_39 E r_10 l0 l1 l2 l3 σ = some res) (hw : gW E D A s σ H locs) (hl : lv_has ls 5 [(0, .ref l0), (1, .int l1), (2, .int l2), (3, .int l3)]) : W p l e R s m args below meth c H locs cells slots Q (F0 m 39 ls []) := by
  have hC0 := hC
  obtain ⟨hx, hb, hml, hown, hts, -⟩ := hC0
  unfold X12_bestSortColumn_39 at hf
  refine lv_iinc (v := (l3 + 1)) (lv' := [(3, .int (l3 + 1)), (0, .ref l0), (1, .int l1), (2, .int l2)]) hx hb dX12_bestSortColumn_39 hl (k := 3) rfl rfl (by decide) rfl (fun ls hl => ?_)
  refine lv_goto (tgt := 10) hx hb dX12_bestSortColumn_42 (by decide) ?_
  exact h_10 hf hw (lv_sub hl [1, 2, 3, 0] rfl)

def X12_bestSortColumn_10_s (E : gE) (r_10 : Nat → Int32 → Int32 → Int32 → gS → Option (Int32 × gS)) (l0 : Nat) (l1 : Int32) (l2 : Int32) (l3 : Int32) (σ : gS) : Option (Int32 × gS) :=
  ob (gfR σ l0 10 0) fun x1 =>
  ob (gcl σ x1 9) fun _ =>
  ob (X11_columns_f E σ x1) fun x3 =>
  if x3 ≤ l3 then
    some (l1, σ)
  else
    ob (gcl σ l0 10) fun _ =>
    ob (X12_runsAfterSorting_f E l0 l3 σ) fun x6 =>
    if l2 ≤ x6.1 then
      X12_bestSortColumn_39 E r_10 l0 l1 l2 l3 x6.2
    else
      X12_bestSortColumn_39 E r_10 l0 l3 x6.1 l3 x6.2
set_option maxHeartbeats 4000000 in
set_option maxRecDepth 100000 in
theorem X12_bestSortColumn_10_s_W {σ : gS} {l0 : Nat} {l1 : Int32} {l2 : Int32} {l3 : Int32} {res : (Int32 × gS)} {ls : Array Slot} (hC : gC E D A p R s m args meth c cX12_bestSortColumn 5 RX12 "bestSortColumn" 3 71) (hQ : gQI E D A p l e R s m args below meth c Q cX12_bestSortColumn FieldType.int res) {r_10 : Nat → Int32 → Int32 → Int32 → gS → Option (Int32 × gS)} (h_10 : ∀ {l0 : Nat} {l1 : Int32} {l2 : Int32} {l3 : Int32} {σ : gS} {H : Heap} {locs : List Loc} {cells slots : Nat} {ls : Array Slot}, r_10 l0 l1 l2 l3 σ = some res → gW E D A s σ H locs → lv_has ls 5 [(0, .ref l0), (1, .int l1), (2, .int l2), (3, .int l3)] → W p l e R s m args below meth c H locs cells slots Q (F0 m 10 ls [])) (hf : X12_bestSortColumn_10_s E r_10 l0 l1 l2 l3 σ = some res) (hw : gW E D A s σ H locs) (hl : lv_has ls 5 [(0, .ref l0), (1, .int l1), (2, .int l2), (3, .int l3)]) : W p l e R s m args below meth c H locs cells slots Q (F0 m 10 ls []) := by
  have hC0 := hC
  obtain ⟨hx, hb, hml, hown, hts, -⟩ := hC0
  unfold X12_bestSortColumn_10_s at hf
  refine lv_iload_n hx hb dX12_bestSortColumn_10 rfl (lv_at hl 3 rfl) ?_
  refine lv_aload_n hx hb dX12_bestSortColumn_11 rfl (lv_at hl 0 rfl) ?_
  obtain ⟨x1, h2, hf⟩ := ob_some hf
  refine rR_fl_X12_10 hC hw h2 dX12_bestSortColumn_12 ?_
  obtain ⟨_, h5, hf⟩ := ob_some hf
  obtain ⟨x3, h4, hf⟩ := ob_some hf
  refine gg_cVI (As := []) hC hw (X11_columns_M l E D A h4) h5 rfl g_ml_X12_115 hd_X11_columns (Nat.le_of_ble_eq_true rfl) (Nat.le_of_ble_eq_true rfl) hl.1 rfl (Nat.le_of_ble_eq_true rfl) dX12_bestSortColumn_15 (fun H locs cells slots hw => ?_)
  refine lv_icmp_ge (tgt := 45) hx hb dX12_bestSortColumn_18 (by decide) (fun c10 => ?_) (fun c10 => ?_)
  · replace hf := (if_pos c10).symm.trans hf
    refine lv_iload_n hx hb dX12_bestSortColumn_45 rfl (lv_at hl 1 rfl) ?_
    cases hf
    exact hQ _ _ _ _ _ _ dX12_bestSortColumn_46 rfl hw
  · replace hf := (if_neg c10).symm.trans hf
    refine lv_aload_n hx hb dX12_bestSortColumn_21 rfl (lv_at hl 0 rfl) ?_
    refine lv_iload_n hx hb dX12_bestSortColumn_22 rfl (lv_at hl 3 rfl) ?_
    obtain ⟨_, h8, hf⟩ := ob_some hf
    obtain ⟨x6, h7, hf⟩ := ob_some hf
    refine gg_cVI (As := [.int l3]) hC hw (X12_runsAfterSorting_M l E D A h7) h8 rfl g_ml_X12_253 hd_X12_runsAfterSorting (Nat.le_of_ble_eq_true rfl) (Nat.le_of_ble_eq_true rfl) hl.1 rfl (Nat.le_of_ble_eq_true rfl) dX12_bestSortColumn_23 (fun H locs cells slots hw => ?_)
    refine lv_istore (lv' := [(4, .int x6.1), (0, .ref l0), (1, .int l1), (2, .int l2), (3, .int l3)]) hx hb dX12_bestSortColumn_26 hl (by decide) rfl (fun ls hl => ?_)
    refine lv_iload hx hb dX12_bestSortColumn_28 (lv_at hl 0 rfl) ?_
    refine lv_iload_n hx hb dX12_bestSortColumn_30 rfl (lv_at hl 3 rfl) ?_
    refine lv_icmp_ge (tgt := 39) hx hb dX12_bestSortColumn_31 (by decide) (fun c9 => ?_) (fun c9 => ?_)
    · replace hf := (if_pos c9).symm.trans hf
      exact X12_bestSortColumn_39_W hC hQ h_10 hf hw (lv_sub hl [1, 2, 3, 4] rfl)
    · replace hf := (if_neg c9).symm.trans hf
      refine lv_iload_n hx hb dX12_bestSortColumn_34 rfl (lv_at hl 4 rfl) ?_
      refine lv_istore_n (lv' := [(1, .int l3), (4, .int x6.1), (0, .ref l0), (2, .int l2), (3, .int l3)]) hx hb dX12_bestSortColumn_35 rfl hl (by decide) rfl (fun ls hl => ?_)
      refine lv_iload hx hb dX12_bestSortColumn_36 (lv_at hl 1 rfl) ?_
      refine lv_istore_n (lv' := [(2, .int x6.1), (1, .int l3), (4, .int x6.1), (0, .ref l0), (3, .int l3)]) hx hb dX12_bestSortColumn_38 rfl hl (by decide) rfl (fun ls hl => ?_)
      exact X12_bestSortColumn_39_W hC hQ h_10 hf hw (lv_sub hl [3, 1, 0, 4] rfl)
def X12_bestSortColumn_10 (E : gE) : Nat → Nat → Int32 → Int32 → Int32 → gS → Option (Int32 × gS)
  | 0 => fun _ _ _ _ _ => none
  | n + 1 => X12_bestSortColumn_10_s E (X12_bestSortColumn_10 E n)
theorem X12_bestSortColumn_10_W {res : (Int32 × gS)} (hC : gC E D A p R s m args meth c cX12_bestSortColumn 5 RX12 "bestSortColumn" 3 71) (hQ : gQI E D A p l e R s m args below meth c Q cX12_bestSortColumn FieldType.int res) : ∀ (n : Nat), ∀ {l0 : Nat} {l1 : Int32} {l2 : Int32} {l3 : Int32} {σ : gS} {H : Heap} {locs : List Loc} {cells slots : Nat} {ls : Array Slot}, X12_bestSortColumn_10 E n l0 l1 l2 l3 σ = some res → gW E D A s σ H locs → lv_has ls 5 [(0, .ref l0), (1, .int l1), (2, .int l2), (3, .int l3)] → W p l e R s m args below meth c H locs cells slots Q (F0 m 10 ls []) := by
  intro n
  induction n with
  | zero =>
    intros
    rename_i hf _ _
    exact absurd hf (fun h => by cases (show (none : Option (Int32 × gS)) = some res from h))
  | succ n ih =>
    intros
    rename_i hf hw hl
    exact X12_bestSortColumn_10_s_W hC hQ ih hf hw hl

def X12_bestSortColumn (E : gE) (l0 : Nat) (σ : gS) : Option (Int32 × gS) :=
  ob (gcl σ l0 10) fun _ =>
  ob (X12_runsAfterSorting_f E l0 (0 : Int32) σ) fun x11 =>
  X12_bestSortColumn_10 E (gN E) l0 (0 : Int32) x11.1 (1 : Int32) x11.2
set_option maxHeartbeats 4000000 in
set_option maxRecDepth 100000 in
theorem X12_bestSortColumn_W {σ : gS} {l0 : Nat} {res : (Int32 × gS)} {ls : Array Slot} (hC : gC E D A p R s m args meth c cX12_bestSortColumn 5 RX12 "bestSortColumn" 3 71) (hQ : gQI E D A p l e R s m args below meth c Q cX12_bestSortColumn FieldType.int res) (hf : X12_bestSortColumn E l0 σ = some res) (hw : gW E D A s σ H locs) (hl : lv_has ls 5 [(0, .ref l0)]) : W p l e R s m args below meth c H locs cells slots Q (F0 m 0 ls []) := by
  have hC0 := hC
  obtain ⟨hx, hb, hml, hown, hts, -⟩ := hC0
  unfold X12_bestSortColumn at hf
  refine lv_iconst (v := 0) hx hb dX12_bestSortColumn_0 (by decide) ?_
  refine lv_istore_n (lv' := [(1, .int (0 : Int32)), (0, .ref l0)]) hx hb dX12_bestSortColumn_1 rfl hl (by decide) rfl (fun ls hl => ?_)
  refine lv_aload_n hx hb dX12_bestSortColumn_2 rfl (lv_at hl 1 rfl) ?_
  refine lv_iconst (v := 0) hx hb dX12_bestSortColumn_3 (by decide) ?_
  obtain ⟨_, h13, hf⟩ := ob_some hf
  obtain ⟨x11, h12, hf⟩ := ob_some hf
  refine gg_cVI (As := [.int (0 : Int32)]) hC hw (X12_runsAfterSorting_M l E D A h12) h13 rfl g_ml_X12_253 hd_X12_runsAfterSorting (Nat.le_of_ble_eq_true rfl) (Nat.le_of_ble_eq_true rfl) hl.1 rfl (Nat.le_of_ble_eq_true rfl) dX12_bestSortColumn_4 (fun H locs cells slots hw => ?_)
  refine lv_istore_n (lv' := [(2, .int x11.1), (1, .int (0 : Int32)), (0, .ref l0)]) hx hb dX12_bestSortColumn_7 rfl hl (by decide) rfl (fun ls hl => ?_)
  refine lv_iconst (v := 1) hx hb dX12_bestSortColumn_8 (by decide) ?_
  refine lv_istore_n (lv' := [(3, .int (1 : Int32)), (2, .int x11.1), (1, .int (0 : Int32)), (0, .ref l0)]) hx hb dX12_bestSortColumn_9 rfl hl (by decide) rfl (fun ls hl => ?_)
  exact X12_bestSortColumn_10_W hC hQ (gN E) hf hw (lv_sub hl [3, 2, 1, 0] rfl)

def X12_bestSortColumn_f (E : gE) (l0 : Nat) (σ : gS) : Option (Int32 × gS) := X12_bestSortColumn E l0 σ
set_option maxRecDepth 100000 in
theorem X12_bestSortColumn_M (l : Launch) (E : gE) (D : va_G) (A : Nat → Prop) {l0 : Nat} {σ : gS} {res : (Int32 × gS)} (hf : X12_bestSortColumn_f E l0 σ = some res) : gCI l E D A yX12_bestSortColumn cX12_bestSortColumn 5 3 71 (some FieldType.int) [.ref l0] σ res := by
  refine gg_entI (own := RX12) (nm := "bestSortColumn") (ty := FieldType.int) (by decide +kernel) rfl rfl (Nat.le_of_ble_eq_true rfl) rfl ?_
  intro p e R s m args below meth c Q ls hC hw hQ hl
  have hl : lv_has ls 5 [(0, .ref l0)] := hl
  exact X12_bestSortColumn_W hC hQ hf hw hl

def X12_gap_37 (E : gE) (r_4 : Nat → Int32 → Int32 → gS → Option (Int32 × gS)) (l0 : Nat) (l1 : Int32) (l2 : Int32) (σ : gS) : Option (Int32 × gS) :=
  r_4 l0 l1 (l2 + 1) σ
set_option maxHeartbeats 4000000 in
set_option maxRecDepth 100000 in
theorem X12_gap_37_W {σ : gS} {l0 : Nat} {l1 : Int32} {l2 : Int32} {res : (Int32 × gS)} {ls : Array Slot} (hC : gC E D A p R s m args meth c cX12_gap 3 RX12 "gap" 5 113) (hQ : gQI E D A p l e R s m args below meth c Q cX12_gap FieldType.int res) {r_4 : Nat → Int32 → Int32 → gS → Option (Int32 × gS)} (h_4 : ∀ {l0 : Nat} {l1 : Int32} {l2 : Int32} {σ : gS} {H : Heap} {locs : List Loc} {cells slots : Nat} {ls : Array Slot}, r_4 l0 l1 l2 σ = some res → gW E D A s σ H locs → lv_has ls 3 [(0, .ref l0), (1, .int l1), (2, .int l2)] → W p l e R s m args below meth c H locs cells slots Q (F0 m 4 ls [])) (hf : X12_gap_37 E r_4 l0 l1 l2 σ = some res) (hw : gW E D A s σ H locs) (hl : lv_has ls 3 [(0, .ref l0), (1, .int l1), (2, .int l2)]) : W p l e R s m args below meth c H locs cells slots Q (F0 m 37 ls []) := by
  have hC0 := hC
  obtain ⟨hx, hb, hml, hown, hts, -⟩ := hC0
  unfold X12_gap_37 at hf
  refine lv_iinc (v := (l2 + 1)) (lv' := [(2, .int (l2 + 1)), (0, .ref l0), (1, .int l1)]) hx hb dX12_gap_37 hl (k := 2) rfl rfl (by decide) rfl (fun ls hl => ?_)
  refine lv_goto (tgt := 4) hx hb dX12_gap_40 (by decide) ?_
  exact h_4 hf hw (lv_sub hl [1, 2, 0] rfl)

def X12_gap_45_s (E : gE) (r_45 : Nat → Int32 → Int32 → gS → Option (Int32 × gS)) (l0 : Nat) (l1 : Int32) (l2 : Int32) (σ : gS) : Option (Int32 × gS) :=
  ob (gfR σ l0 10 0) fun x1 =>
  ob (gcl σ x1 9) fun _ =>
  ob (X11_columns_f E σ x1) fun x3 =>
  if x3 ≤ l2 then
    some (l1, σ)
  else
    ob (gfR σ l0 10 0) fun x6 =>
    ob (gcl σ x6 9) fun _ =>
    ob (X11_column_f E σ x6 l2) fun x8 =>
    ob (gcl σ l0 10) fun _ =>
    ob (X12_packingDifferences_f E l0 x8 σ) fun x11 =>
    r_45 l0 (l1 + x11.1) (l2 + 1) x11.2
set_option maxHeartbeats 4000000 in
set_option maxRecDepth 100000 in
theorem X12_gap_45_s_W {σ : gS} {l0 : Nat} {l1 : Int32} {l2 : Int32} {res : (Int32 × gS)} {ls : Array Slot} (hC : gC E D A p R s m args meth c cX12_gap 3 RX12 "gap" 5 113) (hQ : gQI E D A p l e R s m args below meth c Q cX12_gap FieldType.int res) {r_45 : Nat → Int32 → Int32 → gS → Option (Int32 × gS)} (h_45 : ∀ {l0 : Nat} {l1 : Int32} {l2 : Int32} {σ : gS} {H : Heap} {locs : List Loc} {cells slots : Nat} {ls : Array Slot}, r_45 l0 l1 l2 σ = some res → gW E D A s σ H locs → lv_has ls 3 [(0, .ref l0), (1, .int l1), (2, .int l2)] → W p l e R s m args below meth c H locs cells slots Q (F0 m 45 ls [])) (hf : X12_gap_45_s E r_45 l0 l1 l2 σ = some res) (hw : gW E D A s σ H locs) (hl : lv_has ls 3 [(0, .ref l0), (1, .int l1), (2, .int l2)]) : W p l e R s m args below meth c H locs cells slots Q (F0 m 45 ls []) := by
  have hC0 := hC
  obtain ⟨hx, hb, hml, hown, hts, -⟩ := hC0
  unfold X12_gap_45_s at hf
  refine lv_iload_n hx hb dX12_gap_45 rfl (lv_at hl 2 rfl) ?_
  refine lv_aload_n hx hb dX12_gap_46 rfl (lv_at hl 0 rfl) ?_
  obtain ⟨x1, h2, hf⟩ := ob_some hf
  refine rR_fl_X12_10 hC hw h2 dX12_gap_47 ?_
  obtain ⟨_, h5, hf⟩ := ob_some hf
  obtain ⟨x3, h4, hf⟩ := ob_some hf
  refine gg_cVI (As := []) hC hw (X11_columns_M l E D A h4) h5 rfl g_ml_X12_115 hd_X11_columns (Nat.le_of_ble_eq_true rfl) (Nat.le_of_ble_eq_true rfl) hl.1 rfl (Nat.le_of_ble_eq_true rfl) dX12_gap_50 (fun H locs cells slots hw => ?_)
  refine lv_icmp_ge (tgt := 77) hx hb dX12_gap_53 (by decide) (fun c14 => ?_) (fun c14 => ?_)
  · replace hf := (if_pos c14).symm.trans hf
    refine lv_iload_n hx hb dX12_gap_77 rfl (lv_at hl 1 rfl) ?_
    cases hf
    exact hQ _ _ _ _ _ _ dX12_gap_78 rfl hw
  · replace hf := (if_neg c14).symm.trans hf
    refine lv_iload_n hx hb dX12_gap_56 rfl (lv_at hl 1 rfl) ?_
    refine lv_aload_n hx hb dX12_gap_57 rfl (lv_at hl 0 rfl) ?_
    refine lv_aload_n hx hb dX12_gap_58 rfl (lv_at hl 0 rfl) ?_
    obtain ⟨x6, h7, hf⟩ := ob_some hf
    refine rR_fl_X12_10 hC hw h7 dX12_gap_59 ?_
    refine lv_iload_n hx hb dX12_gap_62 rfl (lv_at hl 2 rfl) ?_
    obtain ⟨_, h10, hf⟩ := ob_some hf
    obtain ⟨x8, h9, hf⟩ := ob_some hf
    refine gg_cVR (As := [.int l2]) hC hw (X11_column_M l E D A h9) h10 rfl g_ml_X12_122 hd_X11_column (Nat.le_of_ble_eq_true rfl) (Nat.le_of_ble_eq_true rfl) hl.1 rfl (Nat.le_of_ble_eq_true rfl) dX12_gap_63 (fun H locs cells slots hw => ?_)
    obtain ⟨_, h13, hf⟩ := ob_some hf
    obtain ⟨x11, h12, hf⟩ := ob_some hf
    refine gg_cVI (As := [.ref x8]) hC hw (X12_packingDifferences_M l E D A h12) h13 rfl g_ml_X12_259 hd_X12_packingDifferences (Nat.le_of_ble_eq_true rfl) (Nat.le_of_ble_eq_true rfl) hl.1 rfl (Nat.le_of_ble_eq_true rfl) dX12_gap_66 (fun H locs cells slots hw => ?_)
    refine lv_iadd hx hb dX12_gap_69 ?_
    refine lv_istore_n (lv' := [(1, .int (l1 + x11.1)), (0, .ref l0), (2, .int l2)]) hx hb dX12_gap_70 rfl hl (by decide) rfl (fun ls hl => ?_)
    refine lv_iinc (v := (l2 + 1)) (lv' := [(2, .int (l2 + 1)), (1, .int (l1 + x11.1)), (0, .ref l0)]) hx hb dX12_gap_71 hl (k := 2) rfl rfl (by decide) rfl (fun ls hl => ?_)
    refine lv_goto (tgt := 45) hx hb dX12_gap_74 (by decide) ?_
    exact h_45 hf hw (lv_sub hl [2, 1, 0] rfl)
def X12_gap_45 (E : gE) : Nat → Nat → Int32 → Int32 → gS → Option (Int32 × gS)
  | 0 => fun _ _ _ _ => none
  | n + 1 => X12_gap_45_s E (X12_gap_45 E n)
theorem X12_gap_45_W {res : (Int32 × gS)} (hC : gC E D A p R s m args meth c cX12_gap 3 RX12 "gap" 5 113) (hQ : gQI E D A p l e R s m args below meth c Q cX12_gap FieldType.int res) : ∀ (n : Nat), ∀ {l0 : Nat} {l1 : Int32} {l2 : Int32} {σ : gS} {H : Heap} {locs : List Loc} {cells slots : Nat} {ls : Array Slot}, X12_gap_45 E n l0 l1 l2 σ = some res → gW E D A s σ H locs → lv_has ls 3 [(0, .ref l0), (1, .int l1), (2, .int l2)] → W p l e R s m args below meth c H locs cells slots Q (F0 m 45 ls []) := by
  intro n
  induction n with
  | zero =>
    intros
    rename_i hf _ _
    exact absurd hf (fun h => by cases (show (none : Option (Int32 × gS)) = some res from h))
  | succ n ih =>
    intros
    rename_i hf hw hl
    exact X12_gap_45_s_W hC hQ ih hf hw hl

def X12_gap_4_s (E : gE) (r_4 : Nat → Int32 → Int32 → gS → Option (Int32 × gS)) (l0 : Nat) (l1 : Int32) (l2 : Int32) (σ : gS) : Option (Int32 × gS) :=
  ob (gfR σ l0 10 0) fun x15 =>
  ob (gcl σ x15 9) fun _ =>
  ob (X11_rows_f E σ x15) fun x17 =>
  if x17 ≤ l2 then
    X12_gap_45 E (gN E) l0 l1 (0 : Int32) σ
  else
    ob (gfR σ l0 10 0) fun x20 =>
    ob (gcl σ x20 9) fun _ =>
    ob (X11_selects_f E σ x20 l2) fun x22 =>
    ob (gfR σ l0 10 0) fun x25 =>
    ob (gcl σ x25 9) fun _ =>
    ob (X11_selectsByCode_f E σ x25 l2) fun x27 =>
    if x22 = x27 then
      X12_gap_37 E r_4 l0 l1 l2 σ
    else
      X12_gap_37 E r_4 l0 (l1 + 1) l2 σ
set_option maxHeartbeats 4000000 in
set_option maxRecDepth 100000 in
theorem X12_gap_4_s_W {σ : gS} {l0 : Nat} {l1 : Int32} {l2 : Int32} {res : (Int32 × gS)} {ls : Array Slot} (hC : gC E D A p R s m args meth c cX12_gap 3 RX12 "gap" 5 113) (hQ : gQI E D A p l e R s m args below meth c Q cX12_gap FieldType.int res) {r_4 : Nat → Int32 → Int32 → gS → Option (Int32 × gS)} (h_4 : ∀ {l0 : Nat} {l1 : Int32} {l2 : Int32} {σ : gS} {H : Heap} {locs : List Loc} {cells slots : Nat} {ls : Array Slot}, r_4 l0 l1 l2 σ = some res → gW E D A s σ H locs → lv_has ls 3 [(0, .ref l0), (1, .int l1), (2, .int l2)] → W p l e R s m args below meth c H locs cells slots Q (F0 m 4 ls [])) (hf : X12_gap_4_s E r_4 l0 l1 l2 σ = some res) (hw : gW E D A s σ H locs) (hl : lv_has ls 3 [(0, .ref l0), (1, .int l1), (2, .int l2)]) : W p l e R s m args below meth c H locs cells slots Q (F0 m 4 ls []) := by
  have hC0 := hC
  obtain ⟨hx, hb, hml, hown, hts, -⟩ := hC0
  unfold X12_gap_4_s at hf
  refine lv_iload_n hx hb dX12_gap_4 rfl (lv_at hl 2 rfl) ?_
  refine lv_aload_n hx hb dX12_gap_5 rfl (lv_at hl 0 rfl) ?_
  obtain ⟨x15, h16, hf⟩ := ob_some hf
  refine rR_fl_X12_10 hC hw h16 dX12_gap_6 ?_
  obtain ⟨_, h19, hf⟩ := ob_some hf
  obtain ⟨x17, h18, hf⟩ := ob_some hf
  refine gg_cVI (As := []) hC hw (X11_rows_M l E D A h18) h19 rfl g_ml_X12_108 hd_X11_rows (Nat.le_of_ble_eq_true rfl) (Nat.le_of_ble_eq_true rfl) hl.1 rfl (Nat.le_of_ble_eq_true rfl) dX12_gap_9 (fun H locs cells slots hw => ?_)
  refine lv_icmp_ge (tgt := 43) hx hb dX12_gap_12 (by decide) (fun c31 => ?_) (fun c31 => ?_)
  · replace hf := (if_pos c31).symm.trans hf
    refine lv_iconst (v := 0) hx hb dX12_gap_43 (by decide) ?_
    refine lv_istore_n (lv' := [(2, .int (0 : Int32)), (0, .ref l0), (1, .int l1)]) hx hb dX12_gap_44 rfl hl (by decide) rfl (fun ls hl => ?_)
    exact X12_gap_45_W hC hQ (gN E) hf hw (lv_sub hl [1, 2, 0] rfl)
  · replace hf := (if_neg c31).symm.trans hf
    refine lv_aload_n hx hb dX12_gap_15 rfl (lv_at hl 0 rfl) ?_
    obtain ⟨x20, h21, hf⟩ := ob_some hf
    refine rR_fl_X12_10 hC hw h21 dX12_gap_16 ?_
    refine lv_iload_n hx hb dX12_gap_19 rfl (lv_at hl 2 rfl) ?_
    obtain ⟨_, h24, hf⟩ := ob_some hf
    obtain ⟨x22, h23, hf⟩ := ob_some hf
    refine gg_cVI (As := [.int l2]) hC hw (X11_selects_M l E D A h23) h24 rfl g_ml_X12_226 hd_X11_selects (Nat.le_of_ble_eq_true rfl) (Nat.le_of_ble_eq_true rfl) hl.1 rfl (Nat.le_of_ble_eq_true rfl) dX12_gap_20 (fun H locs cells slots hw => ?_)
    refine lv_aload_n hx hb dX12_gap_23 rfl (lv_at hl 0 rfl) ?_
    obtain ⟨x25, h26, hf⟩ := ob_some hf
    refine rR_fl_X12_10 hC hw h26 dX12_gap_24 ?_
    refine lv_iload_n hx hb dX12_gap_27 rfl (lv_at hl 2 rfl) ?_
    obtain ⟨_, h29, hf⟩ := ob_some hf
    obtain ⟨x27, h28, hf⟩ := ob_some hf
    refine gg_cVI (As := [.int l2]) hC hw (X11_selectsByCode_M l E D A h28) h29 rfl g_ml_X12_256 hd_X11_selectsByCode (Nat.le_of_ble_eq_true rfl) (Nat.le_of_ble_eq_true rfl) hl.1 rfl (Nat.le_of_ble_eq_true rfl) dX12_gap_28 (fun H locs cells slots hw => ?_)
    refine lv_icmp_eq (tgt := 37) hx hb dX12_gap_31 (by decide) (fun c30 => ?_) (fun c30 => ?_)
    · replace hf := (if_pos c30).symm.trans hf
      exact X12_gap_37_W hC hQ h_4 hf hw (lv_sub hl [0, 1, 2] rfl)
    · replace hf := (if_neg c30).symm.trans hf
      refine lv_iinc (v := (l1 + 1)) (lv' := [(1, .int (l1 + 1)), (0, .ref l0), (2, .int l2)]) hx hb dX12_gap_34 hl (k := 1) rfl rfl (by decide) rfl (fun ls hl => ?_)
      exact X12_gap_37_W hC hQ h_4 hf hw (lv_sub hl [1, 0, 2] rfl)
def X12_gap_4 (E : gE) : Nat → Nat → Int32 → Int32 → gS → Option (Int32 × gS)
  | 0 => fun _ _ _ _ => none
  | n + 1 => X12_gap_4_s E (X12_gap_4 E n)
theorem X12_gap_4_W {res : (Int32 × gS)} (hC : gC E D A p R s m args meth c cX12_gap 3 RX12 "gap" 5 113) (hQ : gQI E D A p l e R s m args below meth c Q cX12_gap FieldType.int res) : ∀ (n : Nat), ∀ {l0 : Nat} {l1 : Int32} {l2 : Int32} {σ : gS} {H : Heap} {locs : List Loc} {cells slots : Nat} {ls : Array Slot}, X12_gap_4 E n l0 l1 l2 σ = some res → gW E D A s σ H locs → lv_has ls 3 [(0, .ref l0), (1, .int l1), (2, .int l2)] → W p l e R s m args below meth c H locs cells slots Q (F0 m 4 ls []) := by
  intro n
  induction n with
  | zero =>
    intros
    rename_i hf _ _
    exact absurd hf (fun h => by cases (show (none : Option (Int32 × gS)) = some res from h))
  | succ n ih =>
    intros
    rename_i hf hw hl
    exact X12_gap_4_s_W hC hQ ih hf hw hl

def X12_gap (E : gE) (l0 : Nat) (σ : gS) : Option (Int32 × gS) :=
  X12_gap_4 E (gN E) l0 (0 : Int32) (0 : Int32) σ
set_option maxHeartbeats 4000000 in
set_option maxRecDepth 100000 in
theorem X12_gap_W {σ : gS} {l0 : Nat} {res : (Int32 × gS)} {ls : Array Slot} (hC : gC E D A p R s m args meth c cX12_gap 3 RX12 "gap" 5 113) (hQ : gQI E D A p l e R s m args below meth c Q cX12_gap FieldType.int res) (hf : X12_gap E l0 σ = some res) (hw : gW E D A s σ H locs) (hl : lv_has ls 3 [(0, .ref l0)]) : W p l e R s m args below meth c H locs cells slots Q (F0 m 0 ls []) := by
  have hC0 := hC
  obtain ⟨hx, hb, hml, hown, hts, -⟩ := hC0
  unfold X12_gap at hf
  refine lv_iconst (v := 0) hx hb dX12_gap_0 (by decide) ?_
  refine lv_istore_n (lv' := [(1, .int (0 : Int32)), (0, .ref l0)]) hx hb dX12_gap_1 rfl hl (by decide) rfl (fun ls hl => ?_)
  refine lv_iconst (v := 0) hx hb dX12_gap_2 (by decide) ?_
  refine lv_istore_n (lv' := [(2, .int (0 : Int32)), (1, .int (0 : Int32)), (0, .ref l0)]) hx hb dX12_gap_3 rfl hl (by decide) rfl (fun ls hl => ?_)
  exact X12_gap_4_W hC hQ (gN E) hf hw (lv_sub hl [2, 1, 0] rfl)

def X12_gap_f (E : gE) (l0 : Nat) (σ : gS) : Option (Int32 × gS) := X12_gap E l0 σ
set_option maxRecDepth 100000 in
theorem X12_gap_M (l : Launch) (E : gE) (D : va_G) (A : Nat → Prop) {l0 : Nat} {σ : gS} {res : (Int32 × gS)} (hf : X12_gap_f E l0 σ = some res) : gCI l E D A yX12_gap cX12_gap 3 5 113 (some FieldType.int) [.ref l0] σ res := by
  refine gg_entI (own := RX12) (nm := "gap") (ty := FieldType.int) (by decide +kernel) rfl rfl (Nat.le_of_ble_eq_true rfl) rfl ?_
  intro p e R s m args below meth c Q ls hC hw hQ hl
  have hl : lv_has ls 3 [(0, .ref l0)] := hl
  exact X12_gap_W hC hQ hf hw hl

def X12_removeRow (E : gE) (l0 : Nat) (l1 : Int32) (σ : gS) : Option ((Nat ⊕ Int32) × gS) :=
  ob (gcl σ l0 10) fun _ =>
  ob (X12_checkRow_f E l0 l1 σ) fun x1 =>
  gtry x1 (fun k9 σ9 => some (Sum.inl k9, σ9)) (fun _ σ4 =>
    ob (gfR σ4 l0 10 3) fun x6 =>
    ob (gfR σ4 l0 10 0) fun x8 =>
    ob (gcl σ4 x6 4) fun _ =>
    ob (X5_record_f E x6 x8 σ4) fun x10 =>
    ob (gfR x10 l0 10 0) fun x13 =>
    ob (gcl x10 x13 9) fun _ =>
    ob (X11_deleteRow_f E x13 l1 x10) fun x15 =>
    ob (gfR x15 l0 10 0) fun x18 =>
    ob (gcl x15 x18 9) fun _ =>
    ob (X11_rows_f E x15 x18) fun x20 =>
    some (Sum.inr x20, x15))
set_option maxHeartbeats 4000000 in
set_option maxRecDepth 100000 in
theorem X12_removeRow_W {σ : gS} {l0 : Nat} {l1 : Int32} {res : ((Nat ⊕ Int32) × gS)} {ls : Array Slot} (hC : gC E D A p R s m args meth c cX12_removeRow 2 RX12 "removeRow" 7 165) (hQ : ∀ (r : Int32) (σ1 : gS), res = (.inr r, σ1) → gQI E D A p l e R s m args below meth c Q cX12_removeRow FieldType.int (r, σ1)) (hT : ∀ (k : Nat) (σ1 : gS), res = (.inl k, σ1) → gTN E D A p l e R s m args below meth c Q cX12_removeRow 2 RX12 k σ1) (hst : l.stackTraces = false) (hf : X12_removeRow E l0 l1 σ = some res) (hw : gW E D A s σ H locs) (hl : lv_has ls 2 [(0, .ref l0), (1, .int l1)]) : W p l e R s m args below meth c H locs cells slots Q (F0 m 0 ls []) := by
  have hC0 := hC
  obtain ⟨hx, hb, hml, hown, hts, -⟩ := hC0
  unfold X12_removeRow at hf
  refine lv_aload_n hx hb dX12_removeRow_0 rfl (lv_at hl 0 rfl) ?_
  refine lv_iload_n hx hb dX12_removeRow_1 rfl (lv_at hl 1 rfl) ?_
  obtain ⟨_, h3, hf⟩ := ob_some hf
  obtain ⟨x1, h2, hf⟩ := ob_some hf
  refine gg_yVV (As := [.int l1]) hC hw (X12_checkRow_M l hst E D A h2) h3 rfl g_ml_X12_119 hd_X12_checkRow (Nat.le_of_ble_eq_true rfl) (Nat.le_of_ble_eq_true rfl) hl.1 rfl (Nat.le_of_ble_eq_true rfl) dX12_removeRow_2 (fun k9 σ9 he => ?_) (fun σ4 he H locs cells slots hw => ?_)
  · subst he
    replace hf := gtry_inl.symm.trans hf
    cases hf
    exact (hT _ _ rfl).2.2 _ _ _
  · subst he
    replace hf := gtry_inr.symm.trans hf
    refine lv_aload_n hx hb dX12_removeRow_5 rfl (lv_at hl 0 rfl) ?_
    obtain ⟨x6, h7, hf⟩ := ob_some hf
    refine rR_fl_X12_22 hC hw h7 dX12_removeRow_6 ?_
    refine lv_aload_n hx hb dX12_removeRow_9 rfl (lv_at hl 0 rfl) ?_
    obtain ⟨x8, h9, hf⟩ := ob_some hf
    refine rR_fl_X12_10 hC hw h9 dX12_removeRow_10 ?_
    obtain ⟨_, h12, hf⟩ := ob_some hf
    obtain ⟨x10, h11, hf⟩ := ob_some hf
    refine gg_cVV (As := [.ref x8]) hC hw (X5_record_M l E D A h11) h12 rfl g_ml_X12_275 hd_X5_record (Nat.le_of_ble_eq_true rfl) (Nat.le_of_ble_eq_true rfl) hl.1 rfl (Nat.le_of_ble_eq_true rfl) dX12_removeRow_13 (fun H locs cells slots hw => ?_)
    refine lv_aload_n hx hb dX12_removeRow_16 rfl (lv_at hl 0 rfl) ?_
    obtain ⟨x13, h14, hf⟩ := ob_some hf
    refine rR_fl_X12_10 hC hw h14 dX12_removeRow_17 ?_
    refine lv_iload_n hx hb dX12_removeRow_20 rfl (lv_at hl 1 rfl) ?_
    obtain ⟨_, h17, hf⟩ := ob_some hf
    obtain ⟨x15, h16, hf⟩ := ob_some hf
    refine gg_cVV (As := [.int l1]) hC hw (X11_deleteRow_M l E D A h16) h17 rfl g_ml_X12_283 hd_X11_deleteRow (Nat.le_of_ble_eq_true rfl) (Nat.le_of_ble_eq_true rfl) hl.1 rfl (Nat.le_of_ble_eq_true rfl) dX12_removeRow_21 (fun H locs cells slots hw => ?_)
    refine lv_aload_n hx hb dX12_removeRow_24 rfl (lv_at hl 0 rfl) ?_
    obtain ⟨x18, h19, hf⟩ := ob_some hf
    refine rR_fl_X12_10 hC hw h19 dX12_removeRow_25 ?_
    obtain ⟨_, h22, hf⟩ := ob_some hf
    obtain ⟨x20, h21, hf⟩ := ob_some hf
    refine gg_cVI (As := []) hC hw (X11_rows_M l E D A h21) h22 rfl g_ml_X12_108 hd_X11_rows (Nat.le_of_ble_eq_true rfl) (Nat.le_of_ble_eq_true rfl) hl.1 rfl (Nat.le_of_ble_eq_true rfl) dX12_removeRow_28 (fun H locs cells slots hw => ?_)
    cases hf
    exact hQ _ _ rfl _ _ _ _ _ _ dX12_removeRow_31 rfl hw

def X12_removeRow_f (E : gE) (l0 : Nat) (l1 : Int32) (σ : gS) : Option ((Nat ⊕ Int32) × gS) := X12_removeRow E l0 l1 σ
set_option maxRecDepth 100000 in
theorem X12_removeRow_M (l : Launch) (hst : l.stackTraces = false) (E : gE) (D : va_G) (A : Nat → Prop) {l0 : Nat} {l1 : Int32} {σ : gS} {res : ((Nat ⊕ Int32) × gS)} (hf : X12_removeRow_f E l0 l1 σ = some res) : gYI l E D A yX12_removeRow (Cond.code yX12_removeRow cX12_removeRow 2 (some FieldType.int)) 7 165 [.ref l0, .int l1] σ res := by
  refine gg_entYI (own := RX12) (nm := "removeRow") (ty := FieldType.int) hst (Nat.le_of_ble_eq_true rfl) (Nat.le_of_ble_eq_true rfl) (by decide +kernel) rfl rfl (Nat.le_of_ble_eq_true rfl) rfl ?_
  intro p e R s m args below meth c Q ls hC hw hQ hT hl
  have hl : lv_has ls 2 [(0, .ref l0), (1, .int l1)] := hl
  exact X12_removeRow_W hC hQ hT hst hf hw hl

def X12_setValue (E : gE) (l0 : Nat) (l1 : Int32) (l2 : Int32) (l3 : Int32) (σ : gS) : Option ((Nat ⊕ Int32) × gS) :=
  ob (gcl σ l0 10) fun _ =>
  ob (X12_checkColumn_f E l0 l1 σ) fun x1 =>
  gtry x1 (fun k9 σ9 => some (Sum.inl k9, σ9)) (fun _ σ4 =>
    ob (gcl σ4 l0 10) fun _ =>
    ob (X12_checkRow_f E l0 l2 σ4) fun x6 =>
    gtry x6 (fun k9 σ9 => some (Sum.inl k9, σ9)) (fun _ σ9 =>
      ob (gcl σ9 l0 10) fun _ =>
      ob (X12_checkValue_f E l0 l3 σ9) fun x11 =>
      gtry x11 (fun k9 σ9 => some (Sum.inl k9, σ9)) (fun _ σ14 =>
        ob (gfR σ14 l0 10 0) fun x16 =>
        ob (gcl σ14 x16 9) fun _ =>
        ob (X11_column_f E σ14 x16 l1) fun x18 =>
        ob (gcl σ14 x18 0) fun _ =>
        ob (X1_valueAt_f E σ14 x18 l2) fun x21 =>
        ob (gfR σ14 l0 10 3) fun x24 =>
        ob (gfR σ14 l0 10 0) fun x26 =>
        ob (gcl σ14 x24 4) fun _ =>
        ob (X5_record_f E x24 x26 σ14) fun x28 =>
        ob (gfR x28 l0 10 0) fun x31 =>
        ob (gcl x28 x31 9) fun _ =>
        ob (X11_column_f E x28 x31 l1) fun x33 =>
        ob (gcl x28 x33 0) fun _ =>
        ob (X1_put_f E x33 l2 l3 x28) fun x36 =>
        some (Sum.inr x21, x36))))
set_option maxHeartbeats 4000000 in
set_option maxRecDepth 100000 in
theorem X12_setValue_W {σ : gS} {l0 : Nat} {l1 : Int32} {l2 : Int32} {l3 : Int32} {res : ((Nat ⊕ Int32) × gS)} {ls : Array Slot} (hC : gC E D A p R s m args meth c cX12_setValue 5 RX12 "setValue" 7 165) (hQ : ∀ (r : Int32) (σ1 : gS), res = (.inr r, σ1) → gQI E D A p l e R s m args below meth c Q cX12_setValue FieldType.int (r, σ1)) (hT : ∀ (k : Nat) (σ1 : gS), res = (.inl k, σ1) → gTN E D A p l e R s m args below meth c Q cX12_setValue 5 RX12 k σ1) (hst : l.stackTraces = false) (hf : X12_setValue E l0 l1 l2 l3 σ = some res) (hw : gW E D A s σ H locs) (hl : lv_has ls 5 [(0, .ref l0), (1, .int l1), (2, .int l2), (3, .int l3)]) : W p l e R s m args below meth c H locs cells slots Q (F0 m 0 ls []) := by
  have hC0 := hC
  obtain ⟨hx, hb, hml, hown, hts, -⟩ := hC0
  unfold X12_setValue at hf
  refine lv_aload_n hx hb dX12_setValue_0 rfl (lv_at hl 0 rfl) ?_
  refine lv_iload_n hx hb dX12_setValue_1 rfl (lv_at hl 1 rfl) ?_
  obtain ⟨_, h3, hf⟩ := ob_some hf
  obtain ⟨x1, h2, hf⟩ := ob_some hf
  refine gg_yVV (As := [.int l1]) hC hw (X12_checkColumn_M l hst E D A h2) h3 rfl g_ml_X12_116 hd_X12_checkColumn (Nat.le_of_ble_eq_true rfl) (Nat.le_of_ble_eq_true rfl) hl.1 rfl (Nat.le_of_ble_eq_true rfl) dX12_setValue_2 (fun k9 σ9 he => ?_) (fun σ4 he H locs cells slots hw => ?_)
  · subst he
    replace hf := gtry_inl.symm.trans hf
    cases hf
    exact (hT _ _ rfl).2.2 _ _ _
  · subst he
    replace hf := gtry_inr.symm.trans hf
    refine lv_aload_n hx hb dX12_setValue_5 rfl (lv_at hl 0 rfl) ?_
    refine lv_iload_n hx hb dX12_setValue_6 rfl (lv_at hl 2 rfl) ?_
    obtain ⟨_, h8, hf⟩ := ob_some hf
    obtain ⟨x6, h7, hf⟩ := ob_some hf
    refine gg_yVV (As := [.int l2]) hC hw (X12_checkRow_M l hst E D A h7) h8 rfl g_ml_X12_119 hd_X12_checkRow (Nat.le_of_ble_eq_true rfl) (Nat.le_of_ble_eq_true rfl) hl.1 rfl (Nat.le_of_ble_eq_true rfl) dX12_setValue_7 (fun k9 σ9 he => ?_) (fun σ9 he H locs cells slots hw => ?_)
    · subst he
      replace hf := gtry_inl.symm.trans hf
      cases hf
      exact (hT _ _ rfl).2.2 _ _ _
    · subst he
      replace hf := gtry_inr.symm.trans hf
      refine lv_aload_n hx hb dX12_setValue_10 rfl (lv_at hl 0 rfl) ?_
      refine lv_iload_n hx hb dX12_setValue_11 rfl (lv_at hl 3 rfl) ?_
      obtain ⟨_, h13, hf⟩ := ob_some hf
      obtain ⟨x11, h12, hf⟩ := ob_some hf
      refine gg_yVV (As := [.int l3]) hC hw (X12_checkValue_M l hst E D A h12) h13 rfl g_ml_X12_244 hd_X12_checkValue (Nat.le_of_ble_eq_true rfl) (Nat.le_of_ble_eq_true rfl) hl.1 rfl (Nat.le_of_ble_eq_true rfl) dX12_setValue_12 (fun k9 σ9 he => ?_) (fun σ14 he H locs cells slots hw => ?_)
      · subst he
        replace hf := gtry_inl.symm.trans hf
        cases hf
        exact (hT _ _ rfl).2.2 _ _ _
      · subst he
        replace hf := gtry_inr.symm.trans hf
        refine lv_aload_n hx hb dX12_setValue_15 rfl (lv_at hl 0 rfl) ?_
        obtain ⟨x16, h17, hf⟩ := ob_some hf
        refine rR_fl_X12_10 hC hw h17 dX12_setValue_16 ?_
        refine lv_iload_n hx hb dX12_setValue_19 rfl (lv_at hl 1 rfl) ?_
        obtain ⟨_, h20, hf⟩ := ob_some hf
        obtain ⟨x18, h19, hf⟩ := ob_some hf
        refine gg_cVR (As := [.int l1]) hC hw (X11_column_M l E D A h19) h20 rfl g_ml_X12_122 hd_X11_column (Nat.le_of_ble_eq_true rfl) (Nat.le_of_ble_eq_true rfl) hl.1 rfl (Nat.le_of_ble_eq_true rfl) dX12_setValue_20 (fun H locs cells slots hw => ?_)
        refine lv_iload_n hx hb dX12_setValue_23 rfl (lv_at hl 2 rfl) ?_
        obtain ⟨_, h23, hf⟩ := ob_some hf
        obtain ⟨x21, h22, hf⟩ := ob_some hf
        refine gg_cVI (As := [.int l2]) hC hw (X1_valueAt_M l E D A h22) h23 rfl g_ml_X12_126 hd_X1_valueAt (Nat.le_of_ble_eq_true rfl) (Nat.le_of_ble_eq_true rfl) hl.1 rfl (Nat.le_of_ble_eq_true rfl) dX12_setValue_24 (fun H locs cells slots hw => ?_)
        refine lv_istore (lv' := [(4, .int x21), (0, .ref l0), (1, .int l1), (2, .int l2), (3, .int l3)]) hx hb dX12_setValue_27 hl (by decide) rfl (fun ls hl => ?_)
        refine lv_aload_n hx hb dX12_setValue_29 rfl (lv_at hl 1 rfl) ?_
        obtain ⟨x24, h25, hf⟩ := ob_some hf
        refine rR_fl_X12_22 hC hw h25 dX12_setValue_30 ?_
        refine lv_aload_n hx hb dX12_setValue_33 rfl (lv_at hl 1 rfl) ?_
        obtain ⟨x26, h27, hf⟩ := ob_some hf
        refine rR_fl_X12_10 hC hw h27 dX12_setValue_34 ?_
        obtain ⟨_, h30, hf⟩ := ob_some hf
        obtain ⟨x28, h29, hf⟩ := ob_some hf
        refine gg_cVV (As := [.ref x26]) hC hw (X5_record_M l E D A h29) h30 rfl g_ml_X12_275 hd_X5_record (Nat.le_of_ble_eq_true rfl) (Nat.le_of_ble_eq_true rfl) hl.1 rfl (Nat.le_of_ble_eq_true rfl) dX12_setValue_37 (fun H locs cells slots hw => ?_)
        refine lv_aload_n hx hb dX12_setValue_40 rfl (lv_at hl 1 rfl) ?_
        obtain ⟨x31, h32, hf⟩ := ob_some hf
        refine rR_fl_X12_10 hC hw h32 dX12_setValue_41 ?_
        refine lv_iload_n hx hb dX12_setValue_44 rfl (lv_at hl 2 rfl) ?_
        obtain ⟨_, h35, hf⟩ := ob_some hf
        obtain ⟨x33, h34, hf⟩ := ob_some hf
        refine gg_cVR (As := [.int l1]) hC hw (X11_column_M l E D A h34) h35 rfl g_ml_X12_122 hd_X11_column (Nat.le_of_ble_eq_true rfl) (Nat.le_of_ble_eq_true rfl) hl.1 rfl (Nat.le_of_ble_eq_true rfl) dX12_setValue_45 (fun H locs cells slots hw => ?_)
        refine lv_iload_n hx hb dX12_setValue_48 rfl (lv_at hl 3 rfl) ?_
        refine lv_iload_n hx hb dX12_setValue_49 rfl (lv_at hl 4 rfl) ?_
        obtain ⟨_, h38, hf⟩ := ob_some hf
        obtain ⟨x36, h37, hf⟩ := ob_some hf
        refine gg_cVV (As := [.int l2, .int l3]) hC hw (X1_put_M l E D A h37) h38 rfl g_ml_X12_286 hd_X1_put (Nat.le_of_ble_eq_true rfl) (Nat.le_of_ble_eq_true rfl) hl.1 rfl (Nat.le_of_ble_eq_true rfl) dX12_setValue_50 (fun H locs cells slots hw => ?_)
        refine lv_iload hx hb dX12_setValue_53 (lv_at hl 0 rfl) ?_
        cases hf
        exact hQ _ _ rfl _ _ _ _ _ _ dX12_setValue_55 rfl hw

def X12_setValue_f (E : gE) (l0 : Nat) (l1 : Int32) (l2 : Int32) (l3 : Int32) (σ : gS) : Option ((Nat ⊕ Int32) × gS) := X12_setValue E l0 l1 l2 l3 σ
set_option maxRecDepth 100000 in
theorem X12_setValue_M (l : Launch) (hst : l.stackTraces = false) (E : gE) (D : va_G) (A : Nat → Prop) {l0 : Nat} {l1 : Int32} {l2 : Int32} {l3 : Int32} {σ : gS} {res : ((Nat ⊕ Int32) × gS)} (hf : X12_setValue_f E l0 l1 l2 l3 σ = some res) : gYI l E D A yX12_setValue (Cond.code yX12_setValue cX12_setValue 5 (some FieldType.int)) 7 165 [.ref l0, .int l1, .int l2, .int l3] σ res := by
  refine gg_entYI (own := RX12) (nm := "setValue") (ty := FieldType.int) hst (Nat.le_of_ble_eq_true rfl) (Nat.le_of_ble_eq_true rfl) (by decide +kernel) rfl rfl (Nat.le_of_ble_eq_true rfl) rfl ?_
  intro p e R s m args below meth c Q ls hC hw hQ hT hl
  have hl : lv_has ls 5 [(0, .ref l0), (1, .int l1), (2, .int l2), (3, .int l3)] := hl
  exact X12_setValue_W hC hQ hT hst hf hw hl

end MC2
