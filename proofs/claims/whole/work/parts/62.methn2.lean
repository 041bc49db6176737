/-! decompiled: L_addGreater, L_addRow, L_loadTable, L_runScript -/
section MN2
variable {p : Program} {l : Launch} {e : Env} {R : Room} {s : State} {m : MethodId} {args : Array Value} {below : List Frame} {meth : Method} {c : Code} {H : Heap} {locs : List Loc} {cells slots : Nat} {Q : State → Prop} {E : gE} {D : va_G} {A : Nat → Prop}
def L_addGreater (E : gE) (l0 : Nat) (l1 : Int32) (l2 : Int32) (l3 : Nat) (σ : gS) : Option (Int32 × gS) :=
  ob (gcl σ l0 10) fun _ =>
  ob (X12_addGreater_f E l0 l1 l2 σ) fun x1 =>
  gtry x1 (fun k9 σ9 =>
    if k9 = 0 then
      some ((1 : Int32), σ9)
    else
    if k9 = 1 then
      some ((2 : Int32), σ9)
    else
    if k9 = 2 then
      some ((3 : Int32), σ9)
    else
    none) (fun x5 σ4 =>
    ob (gwaJ E σ4 l3 (0 : Int32) x5.toInt64) fun σ6 =>
    some ((0 : Int32), σ6))
set_option maxHeartbeats 4000000 in
set_option maxRecDepth 100000 in
theorem L_addGreater_W {σ : gS} {l0 : Nat} {l1 : Int32} {l2 : Int32} {l3 : Nat} {res : (Int32 × gS)} {ls : Array Slot} (hC : gC E D A p R s m args meth c cL_addGreater 5 RL "addGreater" 9 210) (hQ : gQI E D A p l e R s m args below meth c Q cL_addGreater FieldType.int res) (hTab : c.exceptionTable.toList = tableOf [((0 : Nat), (10 : Nat), (13 : Nat), (19 : Nat)), ((0 : Nat), (10 : Nat), (17 : Nat), (13 : Nat)), ((0 : Nat), (10 : Nat), (21 : Nat), (93 : Nat))]) (hst : l.stackTraces = false) (hf : L_addGreater E l0 l1 l2 l3 σ = some res) (hw : gW E D A s σ H locs) (hl : lv_has ls 5 [(0, .ref l0), (1, .int l1), (2, .int l2), (3, .ref l3)]) : W p l e R s m args below meth c H locs cells slots Q (F0 m 0 ls []) := by
  have hC0 := hC
  obtain ⟨hx, hb, hml, hown, hts, -⟩ := hC0
  unfold L_addGreater at hf
  refine lv_aload_n hx hb dL_addGreater_0 rfl (lv_at hl 3 rfl) ?_
  refine lv_iconst (v := 0) hx hb dL_addGreater_1 (by decide) ?_
  refine lv_aload_n hx hb dL_addGreater_2 rfl (lv_at hl 0 rfl) ?_
  refine lv_iload_n hx hb dL_addGreater_3 rfl (lv_at hl 1 rfl) ?_
  refine lv_iload_n hx hb dL_addGreater_4 rfl (lv_at hl 2 rfl) ?_
  obtain ⟨_, h3, hf⟩ := ob_some hf
  obtain ⟨x1, h2, hf⟩ := ob_some hf
  refine gg_yVI (As := [.int l1, .int l2]) hC hw (X12_addGreater_M l hst E D A h2) h3 rfl g_ml_L_134 hd_X12_addGreater (Nat.le_of_ble_eq_true rfl) (Nat.le_of_ble_eq_true rfl) hl.1 rfl (Nat.le_of_ble_eq_true rfl) dL_addGreater_5 (fun k9 σ9 he => ?_) (fun x5 σ4 he H locs cells slots hw => ?_)
  · subst he
    replace hf := gtry_inl.symm.trans hf
    by_cases c8 : k9 = 0
    · replace hf := (if_pos c8).symm.trans hf
      subst c8
      intro H locs cells slots q9 ce hw hce hv hcl
      refine gg_catch (k := 0) hC hTab [] (⟨0, 10, 13, 19⟩ : ExceptionTableEntry) [⟨0, 10, 17, 13⟩, ⟨0, 10, 21, 93⟩] rfl (fun z hz => nomatch hz) (by decide) (by decide) cl_L_19 (by decide) hce hv hcl ?_
      refine lv_astore (lv' := [(4, .ref q9), (0, .ref l0), (1, .int l1), (2, .int l2), (3, .ref l3)]) hx hb dL_addGreater_13 hl (by decide) rfl (fun ls hl => ?_)
      refine lv_iconst (v := 1) hx hb dL_addGreater_15 (by decide) ?_
      cases hf
      exact hQ _ _ _ _ _ _ dL_addGreater_16 rfl hw
    · replace hf := (if_neg c8).symm.trans hf
      by_cases c9 : k9 = 1
      · replace hf := (if_pos c9).symm.trans hf
        subst c9
        intro H locs cells slots q9 ce hw hce hv hcl
        refine gg_catch (k := 1) hC hTab [⟨0, 10, 13, 19⟩] (⟨0, 10, 17, 13⟩ : ExceptionTableEntry) [⟨0, 10, 21, 93⟩] rfl (by intro z hz; simp only [List.mem_cons, List.not_mem_nil, or_false] at hz; rcases hz with rfl <;> first | exact Or.inr ⟨by decide, _, cl_L_19, by decide⟩) (by decide) (by decide) cl_L_13 (by decide) hce hv hcl ?_
        refine lv_astore (lv' := [(4, .ref q9), (0, .ref l0), (1, .int l1), (2, .int l2), (3, .ref l3)]) hx hb dL_addGreater_17 hl (by decide) rfl (fun ls hl => ?_)
        refine lv_iconst (v := 2) hx hb dL_addGreater_19 (by decide) ?_
        cases hf
        exact hQ _ _ _ _ _ _ dL_addGreater_20 rfl hw
      · replace hf := (if_neg c9).symm.trans hf
        by_cases c10 : k9 = 2
        · replace hf := (if_pos c10).symm.trans hf
          subst c10
          intro H locs cells slots q9 ce hw hce hv hcl
          refine gg_catch (k := 2) hC hTab [⟨0, 10, 13, 19⟩, ⟨0, 10, 17, 13⟩] (⟨0, 10, 21, 93⟩ : ExceptionTableEntry) [] rfl (by intro z hz; simp only [List.mem_cons, List.not_mem_nil, or_false] at hz; rcases hz with rfl | rfl <;> first | exact Or.inr ⟨by decide, _, cl_L_19, by decide⟩ | exact Or.inr ⟨by decide, _, cl_L_13, by decide⟩) (by decide) (by decide) cl_L_93 (by decide) hce hv hcl ?_
          refine lv_astore (lv' := [(4, .ref q9), (0, .ref l0), (1, .int l1), (2, .int l2), (3, .ref l3)]) hx hb dL_addGreater_21 hl (by decide) rfl (fun ls hl => ?_)
          refine lv_iconst (v := 3) hx hb dL_addGreater_23 (by decide) ?_
          cases hf
          exact hQ _ _ _ _ _ _ dL_addGreater_24 rfl hw
        · replace hf := (if_neg c10).symm.trans hf
          cases hf
  · subst he
    replace hf := gtry_inr.symm.trans hf
    refine lv_i2l (v := x5.toInt64) hx hb dL_addGreater_8 rfl ?_
    obtain ⟨σ6, h7, hf⟩ := ob_some hf
    refine gg_astJ hC hw h7 dL_addGreater_9 (fun H locs hw => ?_)
    refine lv_goto (tgt := 25) hx hb dL_addGreater_10 (by decide) ?_
    refine lv_iconst (v := 0) hx hb dL_addGreater_25 (by decide) ?_
    cases hf
    exact hQ _ _ _ _ _ _ dL_addGreater_26 rfl hw

def L_addGreater_f (E : gE) (l0 : Nat) (l1 : Int32) (l2 : Int32) (l3 : Nat) (σ : gS) : Option (Int32 × gS) := L_addGreater E l0 l1 l2 l3 σ
set_option maxRecDepth 100000 in
theorem L_addGreater_M (l : Launch) (hst : l.stackTraces = false) (E : gE) (D : va_G) (A : Nat → Prop) {l0 : Nat} {l1 : Int32} {l2 : Int32} {l3 : Nat} {σ : gS} {res : (Int32 × gS)} (hf : L_addGreater_f E l0 l1 l2 l3 σ = some res) : gYI l E D A yL_addGreater (Cond.codeWith yL_addGreater cL_addGreater 5 (some FieldType.int) [((0 : Nat), (10 : Nat), (13 : Nat), (19 : Nat)), ((0 : Nat), (10 : Nat), (17 : Nat), (13 : Nat)), ((0 : Nat), (10 : Nat), (21 : Nat), (93 : Nat))]) 9 210 [.ref l0, .int l1, .int l2, .ref l3] σ (.inr res.1, res.2) := by
  refine gg_entHI (own := RL) (nm := "addGreater") (ty := FieldType.int) (by decide +kernel) rfl rfl (Nat.le_of_ble_eq_true rfl) rfl ?_
  intro p e R s m args below meth c Q ls hC hw hQ hTab hl
  replace hQ := hQ _ _ rfl
  have hl : lv_has ls 5 [(0, .ref l0), (1, .int l1), (2, .int l2), (3, .ref l3)] := hl
  exact L_addGreater_W hC hQ hTab hst hf hw hl

def L_addRow (E : gE) (l0 : Nat) (l1 : Int32) (l2 : Nat) (σ : gS) : Option (Int32 × gS) :=
  ob (gcl σ l0 10) fun _ =>
  ob (X12_addRow_f E l0 l1 σ) fun x1 =>
  gtry x1 (fun k9 σ9 =>
    if k9 = 1 then
      some ((1 : Int32), σ9)
    else
    if k9 = 2 then
      some ((2 : Int32), σ9)
    else
    none) (fun x5 σ4 =>
    ob (gwaJ E σ4 l2 (0 : Int32) x5.toInt64) fun σ6 =>
    some ((0 : Int32), σ6))
set_option maxHeartbeats 4000000 in
set_option maxRecDepth 100000 in
theorem L_addRow_W {σ : gS} {l0 : Nat} {l1 : Int32} {l2 : Nat} {res : (Int32 × gS)} {ls : Array Slot} (hC : gC E D A p R s m args meth c cL_addRow 4 RL "addRow" 9 213) (hQ : gQI E D A p l e R s m args below meth c Q cL_addRow FieldType.int res) (hTab : c.exceptionTable.toList = tableOf [((0 : Nat), (9 : Nat), (12 : Nat), (13 : Nat)), ((0 : Nat), (9 : Nat), (15 : Nat), (93 : Nat))]) (hst : l.stackTraces = false) (hf : L_addRow E l0 l1 l2 σ = some res) (hw : gW E D A s σ H locs) (hl : lv_has ls 4 [(0, .ref l0), (1, .int l1), (2, .ref l2)]) : W p l e R s m args below meth c H locs cells slots Q (F0 m 0 ls []) := by
  have hC0 := hC
  obtain ⟨hx, hb, hml, hown, hts, -⟩ := hC0
  unfold L_addRow at hf
  refine lv_aload_n hx hb dL_addRow_0 rfl (lv_at hl 2 rfl) ?_
  refine lv_iconst (v := 0) hx hb dL_addRow_1 (by decide) ?_
  refine lv_aload_n hx hb dL_addRow_2 rfl (lv_at hl 0 rfl) ?_
  refine lv_iload_n hx hb dL_addRow_3 rfl (lv_at hl 1 rfl) ?_
  obtain ⟨_, h3, hf⟩ := ob_some hf
  obtain ⟨x1, h2, hf⟩ := ob_some hf
  refine gg_yVI (As := [.int l1]) hC hw (X12_addRow_M l hst E D A h2) h3 rfl g_ml_L_114 hd_X12_addRow (Nat.le_of_ble_eq_true rfl) (Nat.le_of_ble_eq_true rfl) hl.1 rfl (Nat.le_of_ble_eq_true rfl) dL_addRow_4 (fun k9 σ9 he => ?_) (fun x5 σ4 he H locs cells slots hw => ?_)
  · subst he
    replace hf := gtry_inl.symm.trans hf
    by_cases c8 : k9 = 1
    · replace hf := (if_pos c8).symm.trans hf
      subst c8
      intro H locs cells slots q9 ce hw hce hv hcl
      refine gg_catch (k := 1) hC hTab [] (⟨0, 9, 12, 13⟩ : ExceptionTableEntry) [⟨0, 9, 15, 93⟩] rfl (fun z hz => nomatch hz) (by decide) (by decide) cl_L_13 (by decide) hce hv hcl ?_
      refine lv_astore_n (lv' := [(3, .ref q9), (0, .ref l0), (1, .int l1), (2, .ref l2)]) hx hb dL_addRow_12 rfl hl (by decide) rfl (fun ls hl => ?_)
      refine lv_iconst (v := 1) hx hb dL_addRow_13 (by decide) ?_
      cases hf
      exact hQ _ _ _ _ _ _ dL_addRow_14 rfl hw
    · replace hf := (if_neg c8).symm.trans hf
      by_cases c9 : k9 = 2
      · replace hf := (if_pos c9).symm.trans hf
        subst c9
        intro H locs cells slots q9 ce hw hce hv hcl
        refine gg_catch (k := 2) hC hTab [⟨0, 9, 12, 13⟩] (⟨0, 9, 15, 93⟩ : ExceptionTableEntry) [] rfl (by intro z hz; simp only [List.mem_cons, List.not_mem_nil, or_false] at hz; rcases hz with rfl <;> first | exact Or.inr ⟨by decide, _, cl_L_13, by decide⟩) (by decide) (by decide) cl_L_93 (by decide) hce hv hcl ?_
        refine lv_astore_n (lv' := [(3, .ref q9), (0, .ref l0), (1, .int l1), (2, .ref l2)]) hx hb dL_addRow_15 rfl hl (by decide) rfl (fun ls hl => ?_)
        refine lv_iconst (v := 2) hx hb dL_addRow_16 (by decide) ?_
        cases hf
        exact hQ _ _ _ _ _ _ dL_addRow_17 rfl hw
      · replace hf := (if_neg c9).symm.trans hf
        cases hf
  · subst he
    replace hf := gtry_inr.symm.trans hf
    refine lv_i2l (v := x5.toInt64) hx hb dL_addRow_7 rfl ?_
    obtain ⟨σ6, h7, hf⟩ := ob_some hf
    refine gg_astJ hC hw h7 dL_addRow_8 (fun H locs hw => ?_)
    refine lv_goto (tgt := 18) hx hb dL_addRow_9 (by decide) ?_
    refine lv_iconst (v := 0) hx hb dL_addRow_18 (by decide) ?_
    cases hf
    exact hQ _ _ _ _ _ _ dL_addRow_19 rfl hw

def L_addRow_f (E : gE) (l0 : Nat) (l1 : Int32) (l2 : Nat) (σ : gS) : Option (Int32 × gS) := L_addRow E l0 l1 l2 σ
set_option maxRecDepth 100000 in
theorem L_addRow_M (l : Launch) (hst : l.stackTraces = false) (E : gE) (D : va_G) (A : Nat → Prop) {l0 : Nat} {l1 : Int32} {l2 : Nat} {σ : gS} {res : (Int32 × gS)} (hf : L_addRow_f E l0 l1 l2 σ = some res) : gYI l E D A yL_addRow (Cond.codeWith yL_addRow cL_addRow 4 (some FieldType.int) [((0 : Nat), (9 : Nat), (12 : Nat), (13 : Nat)), ((0 : Nat), (9 : Nat), (15 : Nat), (93 : Nat))]) 9 213 [.ref l0, .int l1, .ref l2] σ (.inr res.1, res.2) := by
  refine gg_entHI (own := RL) (nm := "addRow") (ty := FieldType.int) (by decide +kernel) rfl rfl (Nat.le_of_ble_eq_true rfl) rfl ?_
  intro p e R s m args below meth c Q ls hC hw hQ hTab hl
  replace hQ := hQ _ _ rfl
  have hl : lv_has ls 4 [(0, .ref l0), (1, .int l1), (2, .ref l2)] := hl
  exact L_addRow_W hC hQ hTab hst hf hw hl

def L_loadTable (E : gE) (l0 : Nat) (l1 : Int32) (l2 : Nat) (σ : gS) : Option (Int32 × gS) :=
  ob (gcl σ l0 10) fun _ =>
  ob (X12_loadTable_f E l0 l1 σ) fun x1 =>
  gtry x1 (fun k9 σ9 =>
    if k9 = 1 then
      some ((1 : Int32), σ9)
    else
    none) (fun x5 σ4 =>
    ob (gwaJ E σ4 l2 (0 : Int32) x5.toInt64) fun σ6 =>
    some ((0 : Int32), σ6))
set_option maxHeartbeats 4000000 in
set_option maxRecDepth 100000 in
theorem L_loadTable_W {σ : gS} {l0 : Nat} {l1 : Int32} {l2 : Nat} {res : (Int32 × gS)} {ls : Array Slot} (hC : gC E D A p R s m args meth c cL_loadTable 4 RL "loadTable" 10 233) (hQ : gQI E D A p l e R s m args below meth c Q cL_loadTable FieldType.int res) (hTab : c.exceptionTable.toList = tableOf [((0 : Nat), (9 : Nat), (12 : Nat), (13 : Nat))]) (hst : l.stackTraces = false) (hf : L_loadTable E l0 l1 l2 σ = some res) (hw : gW E D A s σ H locs) (hl : lv_has ls 4 [(0, .ref l0), (1, .int l1), (2, .ref l2)]) : W p l e R s m args below meth c H locs cells slots Q (F0 m 0 ls []) := by
  have hC0 := hC
  obtain ⟨hx, hb, hml, hown, hts, -⟩ := hC0
  unfold L_loadTable at hf
  refine lv_aload_n hx hb dL_loadTable_0 rfl (lv_at hl 2 rfl) ?_
  refine lv_iconst (v := 0) hx hb dL_loadTable_1 (by decide) ?_
  refine lv_aload_n hx hb dL_loadTable_2 rfl (lv_at hl 0 rfl) ?_
  refine lv_iload_n hx hb dL_loadTable_3 rfl (lv_at hl 1 rfl) ?_
  obtain ⟨_, h3, hf⟩ := ob_some hf
  obtain ⟨x1, h2, hf⟩ := ob_some hf
  refine gg_yVI (As := [.int l1]) hC hw (X12_loadTable_M l hst E D A h2) h3 rfl g_ml_L_7 hd_X12_loadTable (Nat.le_of_ble_eq_true rfl) (Nat.le_of_ble_eq_true rfl) hl.1 rfl (Nat.le_of_ble_eq_true rfl) dL_loadTable_4 (fun k9 σ9 he => ?_) (fun x5 σ4 he H locs cells slots hw => ?_)
  · subst he
    replace hf := gtry_inl.symm.trans hf
    by_cases c8 : k9 = 1
    · replace hf := (if_pos c8).symm.trans hf
      subst c8
      intro H locs cells slots q9 ce hw hce hv hcl
      refine gg_catch (k := 1) hC hTab [] (⟨0, 9, 12, 13⟩ : ExceptionTableEntry) [] rfl (fun z hz => nomatch hz) (by decide) (by decide) cl_L_13 (by decide) hce hv hcl ?_
      refine lv_astore_n (lv' := [(3, .ref q9), (0, .ref l0), (1, .int l1), (2, .ref l2)]) hx hb dL_loadTable_12 rfl hl (by decide) rfl (fun ls hl => ?_)
      refine lv_iconst (v := 1) hx hb dL_loadTable_13 (by decide) ?_
      cases hf
      exact hQ _ _ _ _ _ _ dL_loadTable_14 rfl hw
    · replace hf := (if_neg c8).symm.trans hf
      cases hf
  · subst he
    replace hf := gtry_inr.symm.trans hf
    refine lv_i2l (v := x5.toInt64) hx hb dL_loadTable_7 rfl ?_
    obtain ⟨σ6, h7, hf⟩ := ob_some hf
    refine gg_astJ hC hw h7 dL_loadTable_8 (fun H locs hw => ?_)
    refine lv_goto (tgt := 15) hx hb dL_loadTable_9 (by decide) ?_
    refine lv_iconst (v := 0) hx hb dL_loadTable_15 (by decide) ?_
    cases hf
    exact hQ _ _ _ _ _ _ dL_loadTable_16 rfl hw

def L_loadTable_f (E : gE) (l0 : Nat) (l1 : Int32) (l2 : Nat) (σ : gS) : Option (Int32 × gS) := L_loadTable E l0 l1 l2 σ
set_option maxRecDepth 100000 in
theorem L_loadTable_M (l : Launch) (hst : l.stackTraces = false) (E : gE) (D : va_G) (A : Nat → Prop) {l0 : Nat} {l1 : Int32} {l2 : Nat} {σ : gS} {res : (Int32 × gS)} (hf : L_loadTable_f E l0 l1 l2 σ = some res) : gYI l E D A yL_loadTable (Cond.codeWith yL_loadTable cL_loadTable 4 (some FieldType.int) [((0 : Nat), (9 : Nat), (12 : Nat), (13 : Nat))]) 10 233 [.ref l0, .int l1, .ref l2] σ (.inr res.1, res.2) := by
  refine gg_entHI (own := RL) (nm := "loadTable") (ty := FieldType.int) (by decide +kernel) rfl rfl (Nat.le_of_ble_eq_true rfl) rfl ?_
  intro p e R s m args below meth c Q ls hC hw hQ hTab hl
  replace hQ := hQ _ _ rfl
  have hl : lv_has ls 4 [(0, .ref l0), (1, .int l1), (2, .ref l2)] := hl
  exact L_loadTable_W hC hQ hTab hst hf hw hl

def L_runScript (E : gE) (l0 : Nat) (l1 : Int32) (l2 : Nat) (σ : gS) : Option (Int32 × gS) :=
  ob (gcl σ l0 10) fun _ =>
  ob (X12_runScript_f E l0 l1 σ) fun x1 =>
  gtry x1 (fun k9 σ9 =>
    if k9 = 1 then
      some ((1 : Int32), σ9)
    else
    none) (fun x5 σ4 =>
    ob (gwaJ E σ4 l2 (0 : Int32) x5.toInt64) fun σ6 =>
    some ((0 : Int32), σ6))
set_option maxHeartbeats 4000000 in
set_option maxRecDepth 100000 in
theorem L_runScript_W {σ : gS} {l0 : Nat} {l1 : Int32} {l2 : Nat} {res : (Int32 × gS)} {ls : Array Slot} (hC : gC E D A p R s m args meth c cL_runScript 4 RL "runScript" 10 236) (hQ : gQI E D A p l e R s m args below meth c Q cL_runScript FieldType.int res) (hTab : c.exceptionTable.toList = tableOf [((0 : Nat), (9 : Nat), (12 : Nat), (13 : Nat))]) (hst : l.stackTraces = false) (hf : L_runScript E l0 l1 l2 σ = some res) (hw : gW E D A s σ H locs) (hl : lv_has ls 4 [(0, .ref l0), (1, .int l1), (2, .ref l2)]) : W p l e R s m args below meth c H locs cells slots Q (F0 m 0 ls []) := by
  have hC0 := hC
  obtain ⟨hx, hb, hml, hown, hts, -⟩ := hC0
  unfold L_runScript at hf
  refine lv_aload_n hx hb dL_runScript_0 rfl (lv_at hl 2 rfl) ?_
  refine lv_iconst (v := 0) hx hb dL_runScript_1 (by decide) ?_
  refine lv_aload_n hx hb dL_runScript_2 rfl (lv_at hl 0 rfl) ?_
  refine lv_iload_n hx hb dL_runScript_3 rfl (lv_at hl 1 rfl) ?_
  obtain ⟨_, h3, hf⟩ := ob_some hf
  obtain ⟨x1, h2, hf⟩ := ob_some hf
  refine gg_yVI (As := [.int l1]) hC hw (X12_runScript_M l hst E D A h2) h3 rfl g_ml_L_143 hd_X12_runScript (Nat.le_of_ble_eq_true rfl) (Nat.le_of_ble_eq_true rfl) hl.1 rfl (Nat.le_of_ble_eq_true rfl) dL_runScript_4 (fun k9 σ9 he => ?_) (fun x5 σ4 he H locs cells slots hw => ?_)
  · subst he
    replace hf := gtry_inl.symm.trans hf
    by_cases c8 : k9 = 1
    · replace hf := (if_pos c8).symm.trans hf
      subst c8
      intro H locs cells slots q9 ce hw hce hv hcl
      refine gg_catch (k := 1) hC hTab [] (⟨0, 9, 12, 13⟩ : ExceptionTableEntry) [] rfl (fun z hz => nomatch hz) (by decide) (by decide) cl_L_13 (by decide) hce hv hcl ?_
      refine lv_astore_n (lv' := [(3, .ref q9), (0, .ref l0), (1, .int l1), (2, .ref l2)]) hx hb dL_runScript_12 rfl hl (by decide) rfl (fun ls hl => ?_)
      refine lv_iconst (v := 1) hx hb dL_runScript_13 (by decide) ?_
      cases hf
      exact hQ _ _ _ _ _ _ dL_runScript_14 rfl hw
    · replace hf := (if_neg c8).symm.trans hf
      cases hf
  · subst he
    replace hf := gtry_inr.symm.trans hf
    refine lv_i2l (v := x5.toInt64) hx hb dL_runScript_7 rfl ?_
    obtain ⟨σ6, h7, hf⟩ := ob_some hf
    refine gg_astJ hC hw h7 dL_runScript_8 (fun H locs hw => ?_)
    refine lv_goto (tgt := 15) hx hb dL_runScript_9 (by decide) ?_
    refine lv_iconst (v := 0) hx hb dL_runScript_15 (by decide) ?_
    cases hf
    exact hQ _ _ _ _ _ _ dL_runScript_16 rfl hw

def L_runScript_f (E : gE) (l0 : Nat) (l1 : Int32) (l2 : Nat) (σ : gS) : Option (Int32 × gS) := L_runScript E l0 l1 l2 σ
set_option maxRecDepth 100000 in
theorem L_runScript_M (l : Launch) (hst : l.stackTraces = false) (E : gE) (D : va_G) (A : Nat → Prop) {l0 : Nat} {l1 : Int32} {l2 : Nat} {σ : gS} {res : (Int32 × gS)} (hf : L_runScript_f E l0 l1 l2 σ = some res) : gYI l E D A yL_runScript (Cond.codeWith yL_runScript cL_runScript 4 (some FieldType.int) [((0 : Nat), (9 : Nat), (12 : Nat), (13 : Nat))]) 10 236 [.ref l0, .int l1, .ref l2] σ (.inr res.1, res.2) := by
  refine gg_entHI (own := RL) (nm := "runScript") (ty := FieldType.int) (by decide +kernel) rfl rfl (Nat.le_of_ble_eq_true rfl) rfl ?_
  intro p e R s m args below meth c Q ls hC hw hQ hTab hl
  replace hQ := hQ _ _ rfl
  have hl : lv_has ls 4 [(0, .ref l0), (1, .int l1), (2, .ref l2)] := hl
  exact L_runScript_W hC hQ hTab hst hf hw hl

end MN2
