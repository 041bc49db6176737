/-! decompiled: X13_does, X13_init, X13_isWord, X13_accept, X13_readTable, X13_loadTable, X13_orderHere, X13_readNumbers, X13_readOrder, X13_runScript -/
section MM6
variable {p : Program} {l : Launch} {e : Env} {R : Room} {s : State} {m : MethodId} {args : Array Value} {below : List Frame} {meth : Method} {c : Code} {H : Heap} {locs : List Loc} {cells slots : Nat} {Q : State → Prop} {E : gE} {D : va_G} {A : Nat → Prop}
def X13_does (E : gE) (l0 : Nat) (l1 : Int32) (σ : gS) : Option (Int32 × gS) :=
  ob (gfR σ l0 11 26) fun x1 =>
  ob (graI E 0 σ x1 (l1 + (1 : Int32))) fun x3 =>
  ob (gfR σ l0 11 26) fun x5 =>
  ob (graI E 0 σ x5 (l1 + (2 : Int32))) fun x7 =>
  ob (gfR σ l0 11 26) fun x9 =>
  ob (graI E 0 σ x9 l1) fun x11 =>
  if x11 = (0 : Int32) then
    ob (gfR σ l0 11 26) fun x14 =>
    ob (gfR σ l0 11 6) fun x16 =>
    ob (gcopy E σ x14 (l1 + (1 : Int32)) x16 (0 : Int32) (6 : Int32)) fun x18 =>
    ob (gcl x18 l0 11) fun _ =>
    ob (X13_doRow_f E l0 x18) fun x20 =>
    some (x20.1, x20.2)
  else
    if x11 = (1 : Int32) then
      ob (gfR σ l0 11 26) fun x24 =>
      ob (graI E 0 σ x24 (l1 + (3 : Int32))) fun x26 =>
      ob (gcl σ l0 11) fun _ =>
      ob (X13_doSet_f E l0 x3 x7 x26 σ) fun x28 =>
      some (x28.1, x28.2)
    else
      if x11 = (2 : Int32) then
        ob (gcl σ l0 11) fun _ =>
        ob (X13_doSort_f E l0 x3 x7 σ) fun x32 =>
        some (x32.1, x32.2)
      else
        if x11 = (3 : Int32) then
          ob (gcl σ l0 11) fun _ =>
          ob (X13_doCondition_f E l0 x3 x7 (-1 : Int32) σ) fun x36 =>
          some (x36.1, x36.2)
        else
          if x11 = (4 : Int32) then
            ob (gcl σ l0 11) fun _ =>
            ob (X13_doCondition_f E l0 x3 x7 (0 : Int32) σ) fun x40 =>
            some (x40.1, x40.2)
          else
            if x11 = (5 : Int32) then
              ob (gcl σ l0 11) fun _ =>
              ob (X13_doCondition_f E l0 x3 x7 (1 : Int32) σ) fun x44 =>
              some (x44.1, x44.2)
            else
              if x11 = (6 : Int32) then
                ob (gcl σ l0 11) fun _ =>
                ob (X13_doDrop_f E l0 x3 σ) fun x48 =>
                some (x48.1, x48.2)
              else
                if x11 = (7 : Int32) then
                  ob (gcl σ l0 11) fun _ =>
                  ob (X13_doDelete_f E l0 σ) fun x52 =>
                  some (x52.1, x52.2)
                else
                  ob (gcl σ l0 11) fun _ =>
                  ob (X13_doCompact_f E l0 x3 σ) fun x55 =>
                  some (x55.1, x55.2)
set_option maxHeartbeats 4000000 in
set_option maxRecDepth 100000 in
theorem X13_does_W {σ : gS} {l0 : Nat} {l1 : Int32} {res : (Int32 × gS)} {ls : Array Slot} (hC : gC E D A p R s m args meth c cX13_does 4 RX13 "does" 7 157) (hQ : gQI E D A p l e R s m args below meth c Q cX13_does FieldType.int res) (hf : X13_does E l0 l1 σ = some res) (hw : gW E D A s σ H locs) (hl : lv_has ls 4 [(0, .ref l0), (1, .int l1)]) : W p l e R s m args below meth c H locs cells slots Q (F0 m 0 ls []) := by
  have hC0 := hC
  obtain ⟨hx, hb, hml, hown, hts, -⟩ := hC0
  unfold X13_does at hf
  refine lv_aload_n hx hb dX13_does_0 rfl (lv_at hl 0 rfl) ?_
  obtain ⟨x1, h2, hf⟩ := ob_some hf
  refine rR_fl_X13_48 hC hw h2 dX13_does_1 ?_
  refine lv_iload_n hx hb dX13_does_4 rfl (lv_at hl 1 rfl) ?_
  refine lv_iconst (v := 1) hx hb dX13_does_5 (by decide) ?_
  refine lv_iadd hx hb dX13_does_6 ?_
  obtain ⟨x3, h4, hf⟩ := ob_some hf
  refine gg_aldI hC hw h4 dX13_does_7 ?_
  refine lv_istore_n (lv' := [(2, .int x3), (0, .ref l0), (1, .int l1)]) hx hb dX13_does_8 rfl hl (by decide) rfl (fun ls hl => ?_)
  refine lv_aload_n hx hb dX13_does_9 rfl (lv_at hl 1 rfl) ?_
  obtain ⟨x5, h6, hf⟩ := ob_some hf
  refine rR_fl_X13_48 hC hw h6 dX13_does_10 ?_
  refine lv_iload_n hx hb dX13_does_13 rfl (lv_at hl 2 rfl) ?_
  refine lv_iconst (v := 2) hx hb dX13_does_14 (by decide) ?_
  refine lv_iadd hx hb dX13_does_15 ?_
  obtain ⟨x7, h8, hf⟩ := ob_some hf
  refine gg_aldI hC hw h8 dX13_does_16 ?_
  refine lv_istore_n (lv' := [(3, .int x7), (2, .int x3), (0, .ref l0), (1, .int l1)]) hx hb dX13_does_17 rfl hl (by decide) rfl (fun ls hl => ?_)
  refine lv_aload_n hx hb dX13_does_18 rfl (lv_at hl 2 rfl) ?_
  obtain ⟨x9, h10, hf⟩ := ob_some hf
  refine rR_fl_X13_48 hC hw h10 dX13_does_19 ?_
  refine lv_iload_n hx hb dX13_does_22 rfl (lv_at hl 3 rfl) ?_
  obtain ⟨x11, h12, hf⟩ := ob_some hf
  refine gg_aldI hC hw h12 dX13_does_23 ?_
  by_cases c13 : x11 = (0 : Int32)
  · replace hf := (if_pos c13).symm.trans hf
    refine lv_tableIn (off := 48) (tgt := 72) hx hb dX13_does_24 (by rw [c13]; decide) (by rw [c13]; decide) (by rw [c13]; rfl) (by decide) ?_
    refine lv_aload_n hx hb dX13_does_72 rfl (lv_at hl 2 rfl) ?_
    obtain ⟨x14, h15, hf⟩ := ob_some hf
    refine rR_fl_X13_48 hC hw h15 dX13_does_73 ?_
    refine lv_iload_n hx hb dX13_does_76 rfl (lv_at hl 3 rfl) ?_
    refine lv_iconst (v := 1) hx hb dX13_does_77 (by decide) ?_
    refine lv_iadd hx hb dX13_does_78 ?_
    refine lv_aload_n hx hb dX13_does_79 rfl (lv_at hl 2 rfl) ?_
    obtain ⟨x16, h17, hf⟩ := ob_some hf
    refine rR_fl_X13_29 hC hw h17 dX13_does_80 ?_
    refine lv_iconst (v := 0) hx hb dX13_does_83 (by decide) ?_
    refine lv_bipush (v := 6) hx hb dX13_does_84 (by decide) ?_
    obtain ⟨x18, h19, hf⟩ := ob_some hf
    refine gg_copy hC hw h19 ml_X13_237 hl.1 rfl (Nat.le_of_ble_eq_true rfl) (Nat.le_of_ble_eq_true rfl) (Nat.le_of_ble_eq_true rfl) dX13_does_86 (fun H locs hw => ?_)
    refine lv_aload_n hx hb dX13_does_89 rfl (lv_at hl 2 rfl) ?_
    obtain ⟨_, h22, hf⟩ := ob_some hf
    obtain ⟨x20, h21, hf⟩ := ob_some hf
    refine gg_cVI (As := []) hC hw (X13_doRow_M l E D A h21) h22 rfl g_ml_X13_397 hd_X13_doRow (Nat.le_of_ble_eq_true rfl) (Nat.le_of_ble_eq_true rfl) hl.1 rfl (Nat.le_of_ble_eq_true rfl) dX13_does_90 (fun H locs cells slots hw => ?_)
    cases hf
    exact hQ _ _ _ _ _ _ dX13_does_93 rfl hw
  · replace hf := (if_neg c13).symm.trans hf
    by_cases c23 : x11 = (1 : Int32)
    · replace hf := (if_pos c23).symm.trans hf
      refine lv_tableIn (off := 70) (tgt := 94) hx hb dX13_does_24 (by rw [c23]; decide) (by rw [c23]; decide) (by rw [c23]; rfl) (by decide) ?_
      refine lv_aload_n hx hb dX13_does_94 rfl (lv_at hl 2 rfl) ?_
      refine lv_iload_n hx hb dX13_does_95 rfl (lv_at hl 1 rfl) ?_
      refine lv_iload_n hx hb dX13_does_96 rfl (lv_at hl 0 rfl) ?_
      refine lv_aload_n hx hb dX13_does_97 rfl (lv_at hl 2 rfl) ?_
      obtain ⟨x24, h25, hf⟩ := ob_some hf
      refine rR_fl_X13_48 hC hw h25 dX13_does_98 ?_
      refine lv_iload_n hx hb dX13_does_101 rfl (lv_at hl 3 rfl) ?_
      refine lv_iconst (v := 3) hx hb dX13_does_102 (by decide) ?_
      refine lv_iadd hx hb dX13_does_103 ?_
      obtain ⟨x26, h27, hf⟩ := ob_some hf
      refine gg_aldI hC hw h27 dX13_does_104 ?_
      obtain ⟨_, h30, hf⟩ := ob_some hf
      obtain ⟨x28, h29, hf⟩ := ob_some hf
      refine gg_cVI (As := [.int x3, .int x7, .int x26]) hC hw (X13_doSet_M l E D A h29) h30 rfl g_ml_X13_259 hd_X13_doSet (Nat.le_of_ble_eq_true rfl) (Nat.le_of_ble_eq_true rfl) hl.1 rfl (Nat.le_of_ble_eq_true rfl) dX13_does_105 (fun H locs cells slots hw => ?_)
      cases hf
      exact hQ _ _ _ _ _ _ dX13_does_108 rfl hw
    · replace hf := (if_neg c23).symm.trans hf
      by_cases c31 : x11 = (2 : Int32)
      · replace hf := (if_pos c31).symm.trans hf
        refine lv_tableIn (off := 85) (tgt := 109) hx hb dX13_does_24 (by rw [c31]; decide) (by rw [c31]; decide) (by rw [c31]; rfl) (by decide) ?_
        refine lv_aload_n hx hb dX13_does_109 rfl (lv_at hl 2 rfl) ?_
        refine lv_iload_n hx hb dX13_does_110 rfl (lv_at hl 1 rfl) ?_
        refine lv_iload_n hx hb dX13_does_111 rfl (lv_at hl 0 rfl) ?_
        obtain ⟨_, h34, hf⟩ := ob_some hf
        obtain ⟨x32, h33, hf⟩ := ob_some hf
        refine gg_cVI (As := [.int x3, .int x7]) hC hw (X13_doSort_M l E D A h33) h34 rfl g_ml_X13_263 hd_X13_doSort (Nat.le_of_ble_eq_true rfl) (Nat.le_of_ble_eq_true rfl) hl.1 rfl (Nat.le_of_ble_eq_true rfl) dX13_does_112 (fun H locs cells slots hw => ?_)
        cases hf
        exact hQ _ _ _ _ _ _ dX13_does_115 rfl hw
      · replace hf := (if_neg c31).symm.trans hf
        by_cases c35 : x11 = (3 : Int32)
        · replace hf := (if_pos c35).symm.trans hf
          refine lv_tableIn (off := 92) (tgt := 116) hx hb dX13_does_24 (by rw [c35]; decide) (by rw [c35]; decide) (by rw [c35]; rfl) (by decide) ?_
          refine lv_aload_n hx hb dX13_does_116 rfl (lv_at hl 2 rfl) ?_
          refine lv_iload_n hx hb dX13_does_117 rfl (lv_at hl 1 rfl) ?_
          refine lv_iload_n hx hb dX13_does_118 rfl (lv_at hl 0 rfl) ?_
          refine lv_iconst (v := -1) hx hb dX13_does_119 (by decide) ?_
          obtain ⟨_, h38, hf⟩ := ob_some hf
          obtain ⟨x36, h37, hf⟩ := ob_some hf
          refine gg_cVI (As := [.int x3, .int x7, .int (-1 : Int32)]) hC hw (X13_doCondition_M l E D A h37) h38 rfl g_ml_X13_266 hd_X13_doCondition (Nat.le_of_ble_eq_true rfl) (Nat.le_of_ble_eq_true rfl) hl.1 rfl (Nat.le_of_ble_eq_true rfl) dX13_does_120 (fun H locs cells slots hw => ?_)
          cases hf
          exact hQ _ _ _ _ _ _ dX13_does_123 rfl hw
        · replace hf := (if_neg c35).symm.trans hf
          by_cases c39 : x11 = (4 : Int32)
          · replace hf := (if_pos c39).symm.trans hf
            refine lv_tableIn (off := 100) (tgt := 124) hx hb dX13_does_24 (by rw [c39]; decide) (by rw [c39]; decide) (by rw [c39]; rfl) (by decide) ?_
            refine lv_aload_n hx hb dX13_does_124 rfl (lv_at hl 2 rfl) ?_
            refine lv_iload_n hx hb dX13_does_125 rfl (lv_at hl 1 rfl) ?_
            refine lv_iload_n hx hb dX13_does_126 rfl (lv_at hl 0 rfl) ?_
            refine lv_iconst (v := 0) hx hb dX13_does_127 (by decide) ?_
            obtain ⟨_, h42, hf⟩ := ob_some hf
            obtain ⟨x40, h41, hf⟩ := ob_some hf
            refine gg_cVI (As := [.int x3, .int x7, .int (0 : Int32)]) hC hw (X13_doCondition_M l E D A h41) h42 rfl g_ml_X13_266 hd_X13_doCondition (Nat.le_of_ble_eq_true rfl) (Nat.le_of_ble_eq_true rfl) hl.1 rfl (Nat.le_of_ble_eq_true rfl) dX13_does_128 (fun H locs cells slots hw => ?_)
            cases hf
            exact hQ _ _ _ _ _ _ dX13_does_131 rfl hw
          · replace hf := (if_neg c39).symm.trans hf
            by_cases c43 : x11 = (5 : Int32)
            · replace hf := (if_pos c43).symm.trans hf
              refine lv_tableIn (off := 108) (tgt := 132) hx hb dX13_does_24 (by rw [c43]; decide) (by rw [c43]; decide) (by rw [c43]; rfl) (by decide) ?_
              refine lv_aload_n hx hb dX13_does_132 rfl (lv_at hl 2 rfl) ?_
              refine lv_iload_n hx hb dX13_does_133 rfl (lv_at hl 1 rfl) ?_
              refine lv_iload_n hx hb dX13_does_134 rfl (lv_at hl 0 rfl) ?_
              refine lv_iconst (v := 1) hx hb dX13_does_135 (by decide) ?_
              obtain ⟨_, h46, hf⟩ := ob_some hf
              obtain ⟨x44, h45, hf⟩ := ob_some hf
              refine gg_cVI (As := [.int x3, .int x7, .int (1 : Int32)]) hC hw (X13_doCondition_M l E D A h45) h46 rfl g_ml_X13_266 hd_X13_doCondition (Nat.le_of_ble_eq_true rfl) (Nat.le_of_ble_eq_true rfl) hl.1 rfl (Nat.le_of_ble_eq_true rfl) dX13_does_136 (fun H locs cells slots hw => ?_)
              cases hf
              exact hQ _ _ _ _ _ _ dX13_does_139 rfl hw
            · replace hf := (if_neg c43).symm.trans hf
              by_cases c47 : x11 = (6 : Int32)
              · replace hf := (if_pos c47).symm.trans hf
                refine lv_tableIn (off := 116) (tgt := 140) hx hb dX13_does_24 (by rw [c47]; decide) (by rw [c47]; decide) (by rw [c47]; rfl) (by decide) ?_
                refine lv_aload_n hx hb dX13_does_140 rfl (lv_at hl 2 rfl) ?_
                refine lv_iload_n hx hb dX13_does_141 rfl (lv_at hl 1 rfl) ?_
                obtain ⟨_, h50, hf⟩ := ob_some hf
                obtain ⟨x48, h49, hf⟩ := ob_some hf
                refine gg_cVI (As := [.int x3]) hC hw (X13_doDrop_M l E D A h49) h50 rfl g_ml_X13_272 hd_X13_doDrop (Nat.le_of_ble_eq_true rfl) (Nat.le_of_ble_eq_true rfl) hl.1 rfl (Nat.le_of_ble_eq_true rfl) dX13_does_142 (fun H locs cells slots hw => ?_)
                cases hf
                exact hQ _ _ _ _ _ _ dX13_does_145 rfl hw
              · replace hf := (if_neg c47).symm.trans hf
                by_cases c51 : x11 = (7 : Int32)
                · replace hf := (if_pos c51).symm.trans hf
                  refine lv_tableIn (off := 122) (tgt := 146) hx hb dX13_does_24 (by rw [c51]; decide) (by rw [c51]; decide) (by rw [c51]; rfl) (by decide) ?_
                  refine lv_aload_n hx hb dX13_does_146 rfl (lv_at hl 2 rfl) ?_
                  obtain ⟨_, h54, hf⟩ := ob_some hf
                  obtain ⟨x52, h53, hf⟩ := ob_some hf
                  refine gg_cVI (As := []) hC hw (X13_doDelete_M l E D A h53) h54 rfl g_ml_X13_275 hd_X13_doDelete (Nat.le_of_ble_eq_true rfl) (Nat.le_of_ble_eq_true rfl) hl.1 rfl (Nat.le_of_ble_eq_true rfl) dX13_does_147 (fun H locs cells slots hw => ?_)
                  cases hf
                  exact hQ _ _ _ _ _ _ dX13_does_150 rfl hw
                · replace hf := (if_neg c51).symm.trans hf
                  refine lv_tableOut (tgt := 151) hx hb dX13_does_24 (gtab [0, 1, 2, 3, 4, 5, 6, 7] (by decide) (by decide) (gvc c13 (gvc c23 (gvc c31 (gvc c35 (gvc c39 (gvc c43 (gvc c47 (gvc c51 gvn))))))))) (by decide) ?_
                  refine lv_aload_n hx hb dX13_does_151 rfl (lv_at hl 2 rfl) ?_
                  refine lv_iload_n hx hb dX13_does_152 rfl (lv_at hl 1 rfl) ?_
                  obtain ⟨_, h57, hf⟩ := ob_some hf
                  obtain ⟨x55, h56, hf⟩ := ob_some hf
                  refine gg_cVI (As := [.int x3]) hC hw (X13_doCompact_M l E D A h56) h57 rfl g_ml_X13_278 hd_X13_doCompact (Nat.le_of_ble_eq_true rfl) (Nat.le_of_ble_eq_true rfl) hl.1 rfl (Nat.le_of_ble_eq_true rfl) dX13_does_153 (fun H locs cells slots hw => ?_)
                  cases hf
                  exact hQ _ _ _ _ _ _ dX13_does_156 rfl hw

def X13_does_f (E : gE) (l0 : Nat) (l1 : Int32) (σ : gS) : Option (Int32 × gS) := X13_does E l0 l1 σ
set_option maxRecDepth 100000 in
theorem X13_does_M (l : Launch) (E : gE) (D : va_G) (A : Nat → Prop) {l0 : Nat} {l1 : Int32} {σ : gS} {res : (Int32 × gS)} (hf : X13_does_f E l0 l1 σ = some res) : gCI l E D A yX13_does cX13_does 4 7 157 (some FieldType.int) [.ref l0, .int l1] σ res := by
  refine gg_entI (own := RX13) (nm := "does") (ty := FieldType.int) (by decide +kernel) rfl rfl (Nat.le_of_ble_eq_true rfl) rfl ?_
  intro p e R s m args below meth c Q ls hC hw hQ hl
  have hl : lv_has ls 4 [(0, .ref l0), (1, .int l1)] := hl
  exact X13_does_W hC hQ hf hw hl

def X13_init (E : gE) (l0 : Nat) (σ : gS) : Option gS :=
  ob (gnaI E σ (4137 : Int32)) fun q1 =>
  ob (gpf E q1.2 l0 11 0 (.ref q1.1)) fun σ3 =>
  ob (gnaI E σ3 (4137 : Int32)) fun q5 =>
  ob (gpf E q5.2 l0 11 1 (.ref q5.1)) fun σ7 =>
  ob (gnaI E σ7 (4137 : Int32)) fun q9 =>
  ob (gpf E q9.2 l0 11 2 (.ref q9.1)) fun σ11 =>
  ob (gnaI E σ11 (4137 : Int32)) fun q13 =>
  ob (gpf E q13.2 l0 11 3 (.ref q13.1)) fun σ15 =>
  ob (gnaI E σ15 (33096 : Int32)) fun q17 =>
  ob (gpf E q17.2 l0 11 4 (.ref q17.1)) fun σ19 =>
  ob (gnaI E σ19 (60 : Int32)) fun q21 =>
  ob (gpf E q21.2 l0 11 5 (.ref q21.1)) fun σ23 =>
  ob (gnaI E σ23 (6 : Int32)) fun q25 =>
  ob (gpf E q25.2 l0 11 6 (.ref q25.1)) fun σ27 =>
  ob (gnaI E σ27 (60 : Int32)) fun q29 =>
  ob (gpf E q29.2 l0 11 7 (.ref q29.1)) fun σ31 =>
  ob (gfR σ31 l0 11 0) fun x33 =>
  ob (gpf E σ31 l0 11 8 (.ref x33)) fun σ35 =>
  ob (gnaI E σ35 (60 : Int32)) fun q37 =>
  ob (gpf E q37.2 l0 11 14 (.ref q37.1)) fun σ39 =>
  ob (gnaI E σ39 (700 : Int32)) fun q41 =>
  ob (gpf E q41.2 l0 11 16 (.ref q41.1)) fun σ43 =>
  ob (gpf E σ43 l0 11 24 (.int (-1 : Int32))) fun σ45 =>
  ob (gnaI E σ45 (140 : Int32)) fun q47 =>
  ob (gpf E q47.2 l0 11 26 (.ref q47.1)) fun σ49 =>
  ob (gnaR E 7 σ49 (9 : Int32)) fun q51 =>
  ob (gwaS E q51.2 q51.1 (0 : Int32) (gst E 2)) fun σ53 =>
  ob (gwaS E σ53 q51.1 (1 : Int32) (gst E 3)) fun σ55 =>
  ob (gwaS E σ55 q51.1 (2 : Int32) (gst E 4)) fun σ57 =>
  ob (gwaS E σ57 q51.1 (3 : Int32) (gst E 5)) fun σ59 =>
  ob (gwaS E σ59 q51.1 (4 : Int32) (gst E 6)) fun σ61 =>
  ob (gwaS E σ61 q51.1 (5 : Int32) (gst E 7)) fun σ63 =>
  ob (gwaS E σ63 q51.1 (6 : Int32) (gst E 8)) fun σ65 =>
  ob (gwaS E σ65 q51.1 (7 : Int32) (gst E 9)) fun σ67 =>
  ob (gwaS E σ67 q51.1 (8 : Int32) (gst E 10)) fun σ69 =>
  ob (gpf E σ69 l0 11 27 (.ref q51.1)) fun σ71 =>
  ob (gcl σ71 l0 11) fun _ =>
  ob (X13_begin_f E l0 (3 : Int32) σ71) fun x73 =>
  ob (gcl x73 l0 11) fun _ =>
  ob (X13_addFirst_f E l0 (5 : Int32) (-2 : Int32) (7 : Int32) x73) fun x76 =>
  ob (gcl x76 l0 11) fun _ =>
  ob (X13_addFirst_f E l0 (1 : Int32) (-2 : Int32) (7 : Int32) x76) fun x79 =>
  ob (gcl x79 l0 11) fun _ =>
  ob (X13_addFirst_f E l0 (5 : Int32) (0 : Int32) (3 : Int32) x79) fun x82 =>
  ob (gcl x82 l0 11) fun _ =>
  ob (X13_addFirst_f E l0 (9 : Int32) (-2 : Int32) (7 : Int32) x82) fun x85 =>
  ob (gcl x85 l0 11) fun _ =>
  ob (X13_addFirst_f E l0 (1 : Int32) (4 : Int32) (3 : Int32) x85) fun x88 =>
  ob (gcl x88 l0 11) fun _ =>
  ob (X13_addFirst_f E l0 (5 : Int32) (0 : Int32) (7 : Int32) x88) fun x91 =>
  some x91
set_option maxHeartbeats 4000000 in
set_option maxRecDepth 100000 in
theorem X13_init_W {σ : gS} {l0 : Nat} {σz : gS} {ls : Array Slot} (hC : gC E D A p R s m args meth c cX13_init 1 RX13 "<init>" 3 80) (hQ : gQV E D A p l e R s m args below meth c Q cX13_init σz) (hf : X13_init E l0 σ = some σz) (hw : gW E D A s σ H locs) (hl : lv_has ls 1 [(0, .ref l0)]) : W p l e R s m args below meth c H locs cells slots Q (F0 m 0 ls []) := by
  have hC0 := hC
  obtain ⟨hx, hb, hml, hown, hts, -⟩ := hC0
  unfold X13_init at hf
  refine lv_aload_n hx hb dX13_init_0 rfl (lv_at hl 0 rfl) ?_
  refine gg_obj hC rfl (hts _ ml_X13_1) hl.1 (Nat.le_of_ble_eq_true rfl) dX13_init_1 (Nat.le_of_ble_eq_true rfl) (Nat.le_of_ble_eq_true rfl) ?_
  refine lv_aload_n hx hb dX13_init_4 rfl (lv_at hl 0 rfl) ?_
  refine lv_sipush (v := 4137) hx hb dX13_init_5 (by decide) ?_
  obtain ⟨q1, h2, hf⟩ := ob_some hf
  refine gg_naI hC hw h2 dX13_init_8 (fun H locs cells slots hw => ?_)
  obtain ⟨σ3, h4, hf⟩ := ob_some hf
  refine pF_fl_X13_9 hC hw h4 rfl rfl dX13_init_10 (fun H locs hw => ?_)
  refine lv_aload_n hx hb dX13_init_13 rfl (lv_at hl 0 rfl) ?_
  refine lv_sipush (v := 4137) hx hb dX13_init_14 (by decide) ?_
  obtain ⟨q5, h6, hf⟩ := ob_some hf
  refine gg_naI hC hw h6 dX13_init_17 (fun H locs cells slots hw => ?_)
  obtain ⟨σ7, h8, hf⟩ := ob_some hf
  refine pF_fl_X13_13 hC hw h8 rfl rfl dX13_init_19 (fun H locs hw => ?_)
  refine lv_aload_n hx hb dX13_init_22 rfl (lv_at hl 0 rfl) ?_
  refine lv_sipush (v := 4137) hx hb dX13_init_23 (by decide) ?_
  obtain ⟨q9, h10, hf⟩ := ob_some hf
  refine gg_naI hC hw h10 dX13_init_26 (fun H locs cells slots hw => ?_)
  obtain ⟨σ11, h12, hf⟩ := ob_some hf
  refine pF_fl_X13_16 hC hw h12 rfl rfl dX13_init_28 (fun H locs hw => ?_)
  refine lv_aload_n hx hb dX13_init_31 rfl (lv_at hl 0 rfl) ?_
  refine lv_sipush (v := 4137) hx hb dX13_init_32 (by decide) ?_
  obtain ⟨q13, h14, hf⟩ := ob_some hf
  refine gg_naI hC hw h14 dX13_init_35 (fun H locs cells slots hw => ?_)
  obtain ⟨σ15, h16, hf⟩ := ob_some hf
  refine pF_fl_X13_19 hC hw h16 rfl rfl dX13_init_37 (fun H locs hw => ?_)
  refine lv_aload_n hx hb dX13_init_40 rfl (lv_at hl 0 rfl) ?_
  refine lv_ldc (v := 33096) hx hb hown (hts _ kc_X13_22) dX13_init_41 ?_
  obtain ⟨q17, h18, hf⟩ := ob_some hf
  refine gg_naI hC hw h18 dX13_init_43 (fun H locs cells slots hw => ?_)
  obtain ⟨σ19, h20, hf⟩ := ob_some hf
  refine pF_fl_X13_23 hC hw h20 rfl rfl dX13_init_45 (fun H locs hw => ?_)
  refine lv_aload_n hx hb dX13_init_48 rfl (lv_at hl 0 rfl) ?_
  refine lv_bipush (v := 60) hx hb dX13_init_49 (by decide) ?_
  obtain ⟨q21, h22, hf⟩ := ob_some hf
  refine gg_naI hC hw h22 dX13_init_51 (fun H locs cells slots hw => ?_)
  obtain ⟨σ23, h24, hf⟩ := ob_some hf
  refine pF_fl_X13_26 hC hw h24 rfl rfl dX13_init_53 (fun H locs hw => ?_)
  refine lv_aload_n hx hb dX13_init_56 rfl (lv_at hl 0 rfl) ?_
  refine lv_bipush (v := 6) hx hb dX13_init_57 (by decide) ?_
  obtain ⟨q25, h26, hf⟩ := ob_some hf
  refine gg_naI hC hw h26 dX13_init_59 (fun H locs cells slots hw => ?_)
  obtain ⟨σ27, h28, hf⟩ := ob_some hf
  refine pF_fl_X13_29 hC hw h28 rfl rfl dX13_init_61 (fun H locs hw => ?_)
  refine lv_aload_n hx hb dX13_init_64 rfl (lv_at hl 0 rfl) ?_
  refine lv_bipush (v := 60) hx hb dX13_init_65 (by decide) ?_
  obtain ⟨q29, h30, hf⟩ := ob_some hf
  refine gg_naI hC hw h30 dX13_init_67 (fun H locs cells slots hw => ?_)
  obtain ⟨σ31, h32, hf⟩ := ob_some hf
  refine pF_fl_X13_32 hC hw h32 rfl rfl dX13_init_69 (fun H locs hw => ?_)
  refine lv_aload_n hx hb dX13_init_72 rfl (lv_at hl 0 rfl) ?_
  refine lv_aload_n hx hb dX13_init_73 rfl (lv_at hl 0 rfl) ?_
  obtain ⟨x33, h34, hf⟩ := ob_some hf
  refine rR_fl_X13_9 hC hw h34 dX13_init_74 ?_
  obtain ⟨σ35, h36, hf⟩ := ob_some hf
  refine p_fl_X13_35 hC hw h36 rfl rfl dX13_init_77 (fun H locs hw => ?_)
  refine lv_aload_n hx hb dX13_init_80 rfl (lv_at hl 0 rfl) ?_
  refine lv_bipush (v := 60) hx hb dX13_init_81 (by decide) ?_
  obtain ⟨q37, h38, hf⟩ := ob_some hf
  refine gg_naI hC hw h38 dX13_init_83 (fun H locs cells slots hw => ?_)
  obtain ⟨σ39, h40, hf⟩ := ob_some hf
  refine pF_fl_X13_38 hC hw h40 rfl rfl dX13_init_85 (fun H locs hw => ?_)
  refine lv_aload_n hx hb dX13_init_88 rfl (lv_at hl 0 rfl) ?_
  refine lv_sipush (v := 700) hx hb dX13_init_89 (by decide) ?_
  obtain ⟨q41, h42, hf⟩ := ob_some hf
  refine gg_naI hC hw h42 dX13_init_92 (fun H locs cells slots hw => ?_)
  obtain ⟨σ43, h44, hf⟩ := ob_some hf
  refine pF_fl_X13_41 hC hw h44 rfl rfl dX13_init_94 (fun H locs hw => ?_)
  refine lv_aload_n hx hb dX13_init_97 rfl (lv_at hl 0 rfl) ?_
  refine lv_iconst (v := -1) hx hb dX13_init_98 (by decide) ?_
  obtain ⟨σ45, h46, hf⟩ := ob_some hf
  refine p_fl_X13_44 hC hw h46 rfl rfl dX13_init_99 (fun H locs hw => ?_)
  refine lv_aload_n hx hb dX13_init_102 rfl (lv_at hl 0 rfl) ?_
  refine lv_sipush (v := 140) hx hb dX13_init_103 (by decide) ?_
  obtain ⟨q47, h48, hf⟩ := ob_some hf
  refine gg_naI hC hw h48 dX13_init_106 (fun H locs cells slots hw => ?_)
  obtain ⟨σ49, h50, hf⟩ := ob_some hf
  refine pF_fl_X13_48 hC hw h50 rfl rfl dX13_init_108 (fun H locs hw => ?_)
  refine lv_aload_n hx hb dX13_init_111 rfl (lv_at hl 0 rfl) ?_
  refine lv_bipush (v := 9) hx hb dX13_init_112 (by decide) ?_
  obtain ⟨q51, h52, hf⟩ := ob_some hf
  refine na_cl_X13_51 hC hw h52 dX13_init_114 (fun H locs cells slots hw => ?_)
  refine lv_dup hx hb dX13_init_117 rfl ?_
  refine lv_iconst (v := 0) hx hb dX13_init_118 (by decide) ?_
  refine gg_ldcS hC (k := 2) rfl rfl rfl dX13_init_119 ?_
  obtain ⟨σ53, h54, hf⟩ := ob_some hf
  refine gg_astS hC hw h54 dX13_init_121 (fun H locs hw => ?_)
  refine lv_dup hx hb dX13_init_122 rfl ?_
  refine lv_iconst (v := 1) hx hb dX13_init_123 (by decide) ?_
  refine gg_ldcS hC (k := 3) rfl rfl rfl dX13_init_124 ?_
  obtain ⟨σ55, h56, hf⟩ := ob_some hf
  refine gg_astS hC hw h56 dX13_init_126 (fun H locs hw => ?_)
  refine lv_dup hx hb dX13_init_127 rfl ?_
  refine lv_iconst (v := 2) hx hb dX13_init_128 (by decide) ?_
  refine gg_ldcS hC (k := 4) rfl rfl rfl dX13_init_129 ?_
  obtain ⟨σ57, h58, hf⟩ := ob_some hf
  refine gg_astS hC hw h58 dX13_init_131 (fun H locs hw => ?_)
  refine lv_dup hx hb dX13_init_132 rfl ?_
  refine lv_iconst (v := 3) hx hb dX13_init_133 (by decide) ?_
  refine gg_ldcS hC (k := 5) rfl rfl rfl dX13_init_134 ?_
  obtain ⟨σ59, h60, hf⟩ := ob_some hf
  refine gg_astS hC hw h60 dX13_init_136 (fun H locs hw => ?_)
  refine lv_dup hx hb dX13_init_137 rfl ?_
  refine lv_iconst (v := 4) hx hb dX13_init_138 (by decide) ?_
  refine gg_ldcS hC (k := 6) rfl rfl rfl dX13_init_139 ?_
  obtain ⟨σ61, h62, hf⟩ := ob_some hf
  refine gg_astS hC hw h62 dX13_init_141 (fun H locs hw => ?_)
  refine lv_dup hx hb dX13_init_142 rfl ?_
  refine lv_iconst (v := 5) hx hb dX13_init_143 (by decide) ?_
  refine gg_ldcS hC (k := 7) rfl rfl rfl dX13_init_144 ?_
  obtain ⟨σ63, h64, hf⟩ := ob_some hf
  refine gg_astS hC hw h64 dX13_init_146 (fun H locs hw => ?_)
  refine lv_dup hx hb dX13_init_147 rfl ?_
  refine lv_bipush (v := 6) hx hb dX13_init_148 (by decide) ?_
  refine gg_ldcS hC (k := 8) rfl rfl rfl dX13_init_150 ?_
  obtain ⟨σ65, h66, hf⟩ := ob_some hf
  refine gg_astS hC hw h66 dX13_init_152 (fun H locs hw => ?_)
  refine lv_dup hx hb dX13_init_153 rfl ?_
  refine lv_bipush (v := 7) hx hb dX13_init_154 (by decide) ?_
  refine gg_ldcS hC (k := 9) rfl rfl rfl dX13_init_156 ?_
  obtain ⟨σ67, h68, hf⟩ := ob_some hf
  refine gg_astS hC hw h68 dX13_init_158 (fun H locs hw => ?_)
  refine lv_dup hx hb dX13_init_159 rfl ?_
  refine lv_bipush (v := 8) hx hb dX13_init_160 (by decide) ?_
  refine gg_ldcS hC (k := 10) rfl rfl rfl dX13_init_162 ?_
  obtain ⟨σ69, h70, hf⟩ := ob_some hf
  refine gg_astS hC hw h70 dX13_init_164 (fun H locs hw => ?_)
  obtain ⟨σ71, h72, hf⟩ := ob_some hf
  refine pF_fl_X13_70 hC hw h72 rfl rfl dX13_init_165 (fun H locs hw => ?_)
  refine lv_aload_n hx hb dX13_init_168 rfl (lv_at hl 0 rfl) ?_
  refine lv_iconst (v := 3) hx hb dX13_init_169 (by decide) ?_
  obtain ⟨_, h75, hf⟩ := ob_some hf
  obtain ⟨x73, h74, hf⟩ := ob_some hf
  refine gg_cVV (As := [.int (3 : Int32)]) hC hw (X13_begin_M l E D A h74) h75 rfl g_ml_X13_74 hd_X13_begin (Nat.le_of_ble_eq_true rfl) (Nat.le_of_ble_eq_true rfl) hl.1 rfl (Nat.le_of_ble_eq_true rfl) dX13_init_170 (fun H locs cells slots hw => ?_)
  refine lv_aload_n hx hb dX13_init_173 rfl (lv_at hl 0 rfl) ?_
  refine lv_iconst (v := 5) hx hb dX13_init_174 (by decide) ?_
  refine lv_bipush (v := -2) hx hb dX13_init_175 (by decide) ?_
  refine lv_bipush (v := 7) hx hb dX13_init_177 (by decide) ?_
  obtain ⟨_, h78, hf⟩ := ob_some hf
  obtain ⟨x76, h77, hf⟩ := ob_some hf
  refine gg_cVV (As := [.int (5 : Int32), .int (-2 : Int32), .int (7 : Int32)]) hC hw (X13_addFirst_M l E D A h77) h78 rfl g_ml_X13_78 hd_X13_addFirst (Nat.le_of_ble_eq_true rfl) (Nat.le_of_ble_eq_true rfl) hl.1 rfl (Nat.le_of_ble_eq_true rfl) dX13_init_179 (fun H locs cells slots hw => ?_)
  refine lv_aload_n hx hb dX13_init_182 rfl (lv_at hl 0 rfl) ?_
  refine lv_iconst (v := 1) hx hb dX13_init_183 (by decide) ?_
  refine lv_bipush (v := -2) hx hb dX13_init_184 (by decide) ?_
  refine lv_bipush (v := 7) hx hb dX13_init_186 (by decide) ?_
  obtain ⟨_, h81, hf⟩ := ob_some hf
  obtain ⟨x79, h80, hf⟩ := ob_some hf
  refine gg_cVV (As := [.int (1 : Int32), .int (-2 : Int32), .int (7 : Int32)]) hC hw (X13_addFirst_M l E D A h80) h81 rfl g_ml_X13_78 hd_X13_addFirst (Nat.le_of_ble_eq_true rfl) (Nat.le_of_ble_eq_true rfl) hl.1 rfl (Nat.le_of_ble_eq_true rfl) dX13_init_188 (fun H locs cells slots hw => ?_)
  refine lv_aload_n hx hb dX13_init_191 rfl (lv_at hl 0 rfl) ?_
  refine lv_iconst (v := 5) hx hb dX13_init_192 (by decide) ?_
  refine lv_iconst (v := 0) hx hb dX13_init_193 (by decide) ?_
  refine lv_iconst (v := 3) hx hb dX13_init_194 (by decide) ?_
  obtain ⟨_, h84, hf⟩ := ob_some hf
  obtain ⟨x82, h83, hf⟩ := ob_some hf
  refine gg_cVV (As := [.int (5 : Int32), .int (0 : Int32), .int (3 : Int32)]) hC hw (X13_addFirst_M l E D A h83) h84 rfl g_ml_X13_78 hd_X13_addFirst (Nat.le_of_ble_eq_true rfl) (Nat.le_of_ble_eq_true rfl) hl.1 rfl (Nat.le_of_ble_eq_true rfl) dX13_init_195 (fun H locs cells slots hw => ?_)
  refine lv_aload_n hx hb dX13_init_198 rfl (lv_at hl 0 rfl) ?_
  refine lv_bipush (v := 9) hx hb dX13_init_199 (by decide) ?_
  refine lv_bipush (v := -2) hx hb dX13_init_201 (by decide) ?_
  refine lv_bipush (v := 7) hx hb dX13_init_203 (by decide) ?_
  obtain ⟨_, h87, hf⟩ := ob_some hf
  obtain ⟨x85, h86, hf⟩ := ob_some hf
  refine gg_cVV (As := [.int (9 : Int32), .int (-2 : Int32), .int (7 : Int32)]) hC hw (X13_addFirst_M l E D A h86) h87 rfl g_ml_X13_78 hd_X13_addFirst (Nat.le_of_ble_eq_true rfl) (Nat.le_of_ble_eq_true rfl) hl.1 rfl (Nat.le_of_ble_eq_true rfl) dX13_init_205 (fun H locs cells slots hw => ?_)
  refine lv_aload_n hx hb dX13_init_208 rfl (lv_at hl 0 rfl) ?_
  refine lv_iconst (v := 1) hx hb dX13_init_209 (by decide) ?_
  refine lv_iconst (v := 4) hx hb dX13_init_210 (by decide) ?_
  refine lv_iconst (v := 3) hx hb dX13_init_211 (by decide) ?_
  obtain ⟨_, h90, hf⟩ := ob_some hf
  obtain ⟨x88, h89, hf⟩ := ob_some hf
  refine gg_cVV (As := [.int (1 : Int32), .int (4 : Int32), .int (3 : Int32)]) hC hw (X13_addFirst_M l E D A h89) h90 rfl g_ml_X13_78 hd_X13_addFirst (Nat.le_of_ble_eq_true rfl) (Nat.le_of_ble_eq_true rfl) hl.1 rfl (Nat.le_of_ble_eq_true rfl) dX13_init_212 (fun H locs cells slots hw => ?_)
  refine lv_aload_n hx hb dX13_init_215 rfl (lv_at hl 0 rfl) ?_
  refine lv_iconst (v := 5) hx hb dX13_init_216 (by decide) ?_
  refine lv_iconst (v := 0) hx hb dX13_init_217 (by decide) ?_
  refine lv_bipush (v := 7) hx hb dX13_init_218 (by decide) ?_
  obtain ⟨_, h93, hf⟩ := ob_some hf
  obtain ⟨x91, h92, hf⟩ := ob_some hf
  refine gg_cVV (As := [.int (5 : Int32), .int (0 : Int32), .int (7 : Int32)]) hC hw (X13_addFirst_M l E D A h92) h93 rfl g_ml_X13_78 hd_X13_addFirst (Nat.le_of_ble_eq_true rfl) (Nat.le_of_ble_eq_true rfl) hl.1 rfl (Nat.le_of_ble_eq_true rfl) dX13_init_220 (fun H locs cells slots hw => ?_)
  cases hf
  exact hQ _ _ _ _ _ _ dX13_init_223 hw

def X13_init_f (E : gE) (l0 : Nat) (σ : gS) : Option gS := X13_init E l0 σ
set_option maxRecDepth 100000 in
theorem X13_init_M (l : Launch) (E : gE) (D : va_G) (A : Nat → Prop) {l0 : Nat} {σ : gS} {σz : gS} (hf : X13_init_f E l0 σ = some σz) : gCV l E D A yX13_init cX13_init 1 3 80 none [.ref l0] σ σz := by
  refine gg_entV (own := RX13) (nm := "<init>") (by decide +kernel) rfl rfl (Nat.le_of_ble_eq_true rfl) rfl ?_
  intro p e R s m args below meth c Q ls hC hw hQ hl
  have hl : lv_has ls 1 [(0, .ref l0)] := hl
  exact X13_init_W hC hQ hf hw hl

def X13_isWord_75 (E : gE) (σ : gS) (r_39 : Nat → Nat → Int32 → Int32 → Option Int32) (l0 : Nat) (l1 : Nat) (l3 : Int32) (s0 : Int32) : Option Int32 :=
  r_39 l0 l1 s0 (l3 + 1)
set_option maxHeartbeats 4000000 in
set_option maxRecDepth 100000 in
theorem X13_isWord_75_W {σ : gS} {l0 : Nat} {l1 : Nat} {l3 : Int32} {s0 : Int32} {res : Int32} {ls : Array Slot} (hC : gC E D A p R s m args meth c cX13_isWord 4 RX13 "isWord" 5 106) (hQ : gQI E D A p l e R s m args below meth c Q cX13_isWord FieldType.boolean (res, σ)) {r_39 : Nat → Nat → Int32 → Int32 → Option Int32} (h_39 : ∀ {l0 : Nat} {l1 : Nat} {l2 : Int32} {l3 : Int32} {H : Heap} {locs : List Loc} {cells slots : Nat} {ls : Array Slot}, r_39 l0 l1 l2 l3 = some res → gW E D A s σ H locs → lv_has ls 4 [(0, .ref l0), (1, .ref l1), (2, .int l2), (3, .int l3)] → W p l e R s m args below meth c H locs cells slots Q (F0 m 39 ls [])) (hf : X13_isWord_75 E σ r_39 l0 l1 l3 s0 = some res) (hw : gW E D A s σ H locs) (hl : lv_has ls 4 [(0, .ref l0), (1, .ref l1), (3, .int l3)]) : W p l e R s m args below meth c H locs cells slots Q (F0 m 75 ls [.int s0]) := by
  have hC0 := hC
  obtain ⟨hx, hb, hml, hown, hts, -⟩ := hC0
  unfold X13_isWord_75 at hf
  refine lv_istore_n (lv' := [(2, .int s0), (0, .ref l0), (1, .ref l1), (3, .int l3)]) hx hb dX13_isWord_75 rfl hl (by decide) rfl (fun ls hl => ?_)
  refine lv_iinc (v := (l3 + 1)) (lv' := [(3, .int (l3 + 1)), (2, .int s0), (0, .ref l0), (1, .ref l1)]) hx hb dX13_isWord_76 hl (k := 3) rfl rfl (by decide) rfl (fun ls hl => ?_)
  refine lv_goto (tgt := 39) hx hb dX13_isWord_79 (by decide) ?_
  exact h_39 hf hw (lv_sub hl [2, 3, 1, 0] rfl)

def X13_isWord_82 (E : gE) (σ : gS) (l2 : Int32) : Option Int32 :=
  ob (gz l2) fun _ =>
  some l2
set_option maxHeartbeats 4000000 in
set_option maxRecDepth 100000 in
theorem X13_isWord_82_W {σ : gS} {l2 : Int32} {res : Int32} {ls : Array Slot} (hC : gC E D A p R s m args meth c cX13_isWord 4 RX13 "isWord" 5 106) (hQ : gQI E D A p l e R s m args below meth c Q cX13_isWord FieldType.boolean (res, σ)) (hf : X13_isWord_82 E σ l2 = some res) (hw : gW E D A s σ H locs) (hl : lv_has ls 4 [(2, .int l2)]) : W p l e R s m args below meth c H locs cells slots Q (F0 m 82 ls []) := by
  have hC0 := hC
  obtain ⟨hx, hb, hml, hown, hts, -⟩ := hC0
  unfold X13_isWord_82 at hf
  refine lv_iload_n hx hb dX13_isWord_82 rfl (lv_at hl 0 rfl) ?_
  obtain ⟨_, h1, hf⟩ := ob_some hf
  cases hf
  exact hQ _ _ _ _ _ _ dX13_isWord_83 (gz_some h1) hw

def X13_isWord_39_s (E : gE) (σ : gS) (r_39 : Nat → Nat → Int32 → Int32 → Option Int32) (l0 : Nat) (l1 : Nat) (l2 : Int32) (l3 : Int32) : Option Int32 :=
  if l2 = 0 then
    X13_isWord_82 E σ l2
  else
    ob (gxc E l1 100) fun _ =>
    ob (J0_length_8abf5_f E σ l1) fun x2 =>
    if x2 ≤ l3 then
      X13_isWord_82 E σ l2
    else
      ob (gxc E l1 100) fun _ =>
      ob (J0_charAt_5068e_f E σ l1 l3) fun x5 =>
      ob (gfR σ l0 11 16) fun x8 =>
      ob (gfI σ l0 11 20) fun x10 =>
      ob (graI E 0 σ x8 (x10 + l3)) fun x12 =>
      if x5 = x12 then
        X13_isWord_75 E σ r_39 l0 l1 l3 (1 : Int32)
      else
        X13_isWord_75 E σ r_39 l0 l1 l3 (0 : Int32)
set_option maxHeartbeats 4000000 in
set_option maxRecDepth 100000 in
theorem X13_isWord_39_s_W {σ : gS} {l0 : Nat} {l1 : Nat} {l2 : Int32} {l3 : Int32} {res : Int32} {ls : Array Slot} (hC : gC E D A p R s m args meth c cX13_isWord 4 RX13 "isWord" 5 106) (hQ : gQI E D A p l e R s m args below meth c Q cX13_isWord FieldType.boolean (res, σ)) {r_39 : Nat → Nat → Int32 → Int32 → Option Int32} (h_39 : ∀ {l0 : Nat} {l1 : Nat} {l2 : Int32} {l3 : Int32} {H : Heap} {locs : List Loc} {cells slots : Nat} {ls : Array Slot}, r_39 l0 l1 l2 l3 = some res → gW E D A s σ H locs → lv_has ls 4 [(0, .ref l0), (1, .ref l1), (2, .int l2), (3, .int l3)] → W p l e R s m args below meth c H locs cells slots Q (F0 m 39 ls [])) (hf : X13_isWord_39_s E σ r_39 l0 l1 l2 l3 = some res) (hw : gW E D A s σ H locs) (hl : lv_has ls 4 [(0, .ref l0), (1, .ref l1), (2, .int l2), (3, .int l3)]) : W p l e R s m args below meth c H locs cells slots Q (F0 m 39 ls []) := by
  have hC0 := hC
  obtain ⟨hx, hb, hml, hown, hts, -⟩ := hC0
  unfold X13_isWord_39_s at hf
  refine lv_iload_n hx hb dX13_isWord_39 rfl (lv_at hl 2 rfl) ?_
  refine lv_if_eq (tgt := 82) hx hb dX13_isWord_40 (by decide) (fun c16 => ?_) (fun c16 => ?_)
  · replace hf := (if_pos c16).symm.trans hf
    exact X13_isWord_82_W hC hQ hf hw (lv_sub hl [2] rfl)
  · replace hf := (if_neg c16).symm.trans hf
    refine lv_iload_n hx hb dX13_isWord_43 rfl (lv_at hl 3 rfl) ?_
    refine lv_aload_n hx hb dX13_isWord_44 rfl (lv_at hl 1 rfl) ?_
    obtain ⟨_, h4, hf⟩ := ob_some hf
    obtain ⟨x2, h3, hf⟩ := ob_some hf
    refine gg_cXI (As := []) hC hw (J0_length_8abf5_M l E D A h3) h4 rfl g_ml_X13_330 hd_J0_length_8abf5 (Nat.le_of_ble_eq_true rfl) (Nat.le_of_ble_eq_true rfl) hl.1 rfl (Nat.le_of_ble_eq_true rfl) dX13_isWord_45 (fun H locs cells slots hw => ?_)
    refine lv_icmp_ge (tgt := 82) hx hb dX13_isWord_48 (by decide) (fun c15 => ?_) (fun c15 => ?_)
    · replace hf := (if_pos c15).symm.trans hf
      exact X13_isWord_82_W hC hQ hf hw (lv_sub hl [2] rfl)
    · replace hf := (if_neg c15).symm.trans hf
      refine lv_aload_n hx hb dX13_isWord_51 rfl (lv_at hl 1 rfl) ?_
      refine lv_iload_n hx hb dX13_isWord_52 rfl (lv_at hl 3 rfl) ?_
      obtain ⟨_, h7, hf⟩ := ob_some hf
      obtain ⟨x5, h6, hf⟩ := ob_some hf
      refine gg_cXI (As := [.int l3]) hC hw (J0_charAt_5068e_M l E D A h6) h7 rfl g_ml_X13_333 hd_J0_charAt_5068e (Nat.le_of_ble_eq_true rfl) (Nat.le_of_ble_eq_true rfl) hl.1 rfl (Nat.le_of_ble_eq_true rfl) dX13_isWord_53 (fun H locs cells slots hw => ?_)
      refine lv_aload_n hx hb dX13_isWord_56 rfl (lv_at hl 0 rfl) ?_
      obtain ⟨x8, h9, hf⟩ := ob_some hf
      refine rR_fl_X13_41 hC hw h9 dX13_isWord_57 ?_
      refine lv_aload_n hx hb dX13_isWord_60 rfl (lv_at hl 0 rfl) ?_
      obtain ⟨x10, h11, hf⟩ := ob_some hf
      refine rI_fl_X13_306 hC hw h11 dX13_isWord_61 ?_
      refine lv_iload_n hx hb dX13_isWord_64 rfl (lv_at hl 3 rfl) ?_
      refine lv_iadd hx hb dX13_isWord_65 ?_
      obtain ⟨x12, h13, hf⟩ := ob_some hf
      refine gg_aldI hC hw h13 dX13_isWord_66 ?_
      refine lv_icmp_ne (tgt := 74) hx hb dX13_isWord_67 (by decide) (fun c14 => ?_) (fun c14 => ?_)
      · replace hf := (if_neg c14).symm.trans hf
        refine lv_iconst (v := 0) hx hb dX13_isWord_74 (by decide) ?_
        exact X13_isWord_75_W hC hQ h_39 hf hw (lv_sub hl [0, 1, 3] rfl)
      · replace hf := (if_pos c14).symm.trans hf
        refine lv_iconst (v := 1) hx hb dX13_isWord_70 (by decide) ?_
        refine lv_goto (tgt := 75) hx hb dX13_isWord_71 (by decide) ?_
        exact X13_isWord_75_W hC hQ h_39 hf hw (lv_sub hl [0, 1, 3] rfl)
def X13_isWord_39 (E : gE) (σ : gS) : Nat → Nat → Nat → Int32 → Int32 → Option Int32
  | 0 => fun _ _ _ _ => none
  | n + 1 => X13_isWord_39_s E σ (X13_isWord_39 E σ n)
theorem X13_isWord_39_W {σ : gS} {res : Int32} (hC : gC E D A p R s m args meth c cX13_isWord 4 RX13 "isWord" 5 106) (hQ : gQI E D A p l e R s m args below meth c Q cX13_isWord FieldType.boolean (res, σ)) : ∀ (n : Nat), ∀ {l0 : Nat} {l1 : Nat} {l2 : Int32} {l3 : Int32} {H : Heap} {locs : List Loc} {cells slots : Nat} {ls : Array Slot}, X13_isWord_39 E σ n l0 l1 l2 l3 = some res → gW E D A s σ H locs → lv_has ls 4 [(0, .ref l0), (1, .ref l1), (2, .int l2), (3, .int l3)] → W p l e R s m args below meth c H locs cells slots Q (F0 m 39 ls []) := by
  intro n
  induction n with
  | zero =>
    intros
    rename_i hf _ _
    exact absurd hf (fun h => by cases (show (none : Option Int32) = some res from h))
  | succ n ih =>
    intros
    rename_i hf hw hl
    exact X13_isWord_39_s_W hC hQ ih hf hw hl

def X13_isWord_36 (E : gE) (σ : gS) (l0 : Nat) (l1 : Nat) (s0 : Int32) : Option Int32 :=
  X13_isWord_39 E σ (gN E) l0 l1 s0 (0 : Int32)
set_option maxHeartbeats 4000000 in
set_option maxRecDepth 100000 in
theorem X13_isWord_36_W {σ : gS} {l0 : Nat} {l1 : Nat} {s0 : Int32} {res : Int32} {ls : Array Slot} (hC : gC E D A p R s m args meth c cX13_isWord 4 RX13 "isWord" 5 106) (hQ : gQI E D A p l e R s m args below meth c Q cX13_isWord FieldType.boolean (res, σ)) (hf : X13_isWord_36 E σ l0 l1 s0 = some res) (hw : gW E D A s σ H locs) (hl : lv_has ls 4 [(0, .ref l0), (1, .ref l1)]) : W p l e R s m args below meth c H locs cells slots Q (F0 m 36 ls [.int s0]) := by
  have hC0 := hC
  obtain ⟨hx, hb, hml, hown, hts, -⟩ := hC0
  unfold X13_isWord_36 at hf
  refine lv_istore_n (lv' := [(2, .int s0), (0, .ref l0), (1, .ref l1)]) hx hb dX13_isWord_36 rfl hl (by decide) rfl (fun ls hl => ?_)
  refine lv_iconst (v := 0) hx hb dX13_isWord_37 (by decide) ?_
  refine lv_istore_n (lv' := [(3, .int (0 : Int32)), (2, .int s0), (0, .ref l0), (1, .ref l1)]) hx hb dX13_isWord_38 rfl hl (by decide) rfl (fun ls hl => ?_)
  exact X13_isWord_39_W hC hQ (gN E) hf hw (lv_sub hl [2, 3, 1, 0] rfl)

def X13_isWord_35 (E : gE) (σ : gS) (l0 : Nat) (l1 : Nat) : Option Int32 :=
  X13_isWord_36 E σ l0 l1 (0 : Int32)
set_option maxHeartbeats 4000000 in
set_option maxRecDepth 100000 in
theorem X13_isWord_35_W {σ : gS} {l0 : Nat} {l1 : Nat} {res : Int32} {ls : Array Slot} (hC : gC E D A p R s m args meth c cX13_isWord 4 RX13 "isWord" 5 106) (hQ : gQI E D A p l e R s m args below meth c Q cX13_isWord FieldType.boolean (res, σ)) (hf : X13_isWord_35 E σ l0 l1 = some res) (hw : gW E D A s σ H locs) (hl : lv_has ls 4 [(0, .ref l0), (1, .ref l1)]) : W p l e R s m args below meth c H locs cells slots Q (F0 m 35 ls []) := by
  have hC0 := hC
  obtain ⟨hx, hb, hml, hown, hts, -⟩ := hC0
  unfold X13_isWord_35 at hf
  refine lv_iconst (v := 0) hx hb dX13_isWord_35 (by decide) ?_
  exact X13_isWord_36_W hC hQ hf hw (lv_sub hl [0, 1] rfl)

def X13_isWord (E : gE) (σ : gS) (l0 : Nat) (l1 : Nat) : Option Int32 :=
  ob (gfI σ l0 11 22) fun x17 =>
  if x17 = 0 then
    ob (gfI σ l0 11 21) fun x19 =>
    if x19 = (1 : Int32) then
      ob (gxc E l1 100) fun _ =>
      ob (J0_length_8abf5_f E σ l1) fun x21 =>
      ob (gfI σ l0 11 19) fun x24 =>
      ob (gfI σ l0 11 20) fun x26 =>
      if x21 = (x24 - x26) then
        X13_isWord_36 E σ l0 l1 (1 : Int32)
      else
        X13_isWord_35 E σ l0 l1
    else
      X13_isWord_35 E σ l0 l1
  else
    X13_isWord_35 E σ l0 l1
set_option maxHeartbeats 4000000 in
set_option maxRecDepth 100000 in
theorem X13_isWord_W {σ : gS} {l0 : Nat} {l1 : Nat} {res : Int32} {ls : Array Slot} (hC : gC E D A p R s m args meth c cX13_isWord 4 RX13 "isWord" 5 106) (hQ : gQI E D A p l e R s m args below meth c Q cX13_isWord FieldType.boolean (res, σ)) (hf : X13_isWord E σ l0 l1 = some res) (hw : gW E D A s σ H locs) (hl : lv_has ls 4 [(0, .ref l0), (1, .ref l1)]) : W p l e R s m args below meth c H locs cells slots Q (F0 m 0 ls []) := by
  have hC0 := hC
  obtain ⟨hx, hb, hml, hown, hts, -⟩ := hC0
  unfold X13_isWord at hf
  refine lv_aload_n hx hb dX13_isWord_0 rfl (lv_at hl 0 rfl) ?_
  obtain ⟨x17, h18, hf⟩ := ob_some hf
  refine rI_fl_X13_318 hC hw h18 dX13_isWord_1 ?_
  refine lv_if_ne (tgt := 35) hx hb dX13_isWord_4 (by decide) (fun c30 => ?_) (fun c30 => ?_)
  · replace hf := (if_neg c30).symm.trans hf
    exact X13_isWord_35_W hC hQ hf hw (lv_sub hl [0, 1] rfl)
  · replace hf := (if_pos c30).symm.trans hf
    refine lv_aload_n hx hb dX13_isWord_7 rfl (lv_at hl 0 rfl) ?_
    obtain ⟨x19, h20, hf⟩ := ob_some hf
    refine rI_fl_X13_309 hC hw h20 dX13_isWord_8 ?_
    refine lv_iconst (v := 1) hx hb dX13_isWord_11 (by decide) ?_
    refine lv_icmp_ne (tgt := 35) hx hb dX13_isWord_12 (by decide) (fun c29 => ?_) (fun c29 => ?_)
    · replace hf := (if_neg c29).symm.trans hf
      exact X13_isWord_35_W hC hQ hf hw (lv_sub hl [0, 1] rfl)
    · replace hf := (if_pos c29).symm.trans hf
      refine lv_aload_n hx hb dX13_isWord_15 rfl (lv_at hl 1 rfl) ?_
      obtain ⟨_, h23, hf⟩ := ob_some hf
      obtain ⟨x21, h22, hf⟩ := ob_some hf
      refine gg_cXI (As := []) hC hw (J0_length_8abf5_M l E D A h22) h23 rfl g_ml_X13_330 hd_J0_length_8abf5 (Nat.le_of_ble_eq_true rfl) (Nat.le_of_ble_eq_true rfl) hl.1 rfl (Nat.le_of_ble_eq_true rfl) dX13_isWord_16 (fun H locs cells slots hw => ?_)
      refine lv_aload_n hx hb dX13_isWord_19 rfl (lv_at hl 0 rfl) ?_
      obtain ⟨x24, h25, hf⟩ := ob_some hf
      refine rI_fl_X13_303 hC hw h25 dX13_isWord_20 ?_
      refine lv_aload_n hx hb dX13_isWord_23 rfl (lv_at hl 0 rfl) ?_
      obtain ⟨x26, h27, hf⟩ := ob_some hf
      refine rI_fl_X13_306 hC hw h27 dX13_isWord_24 ?_
      refine lv_isub hx hb dX13_isWord_27 ?_
      refine lv_icmp_ne (tgt := 35) hx hb dX13_isWord_28 (by decide) (fun c28 => ?_) (fun c28 => ?_)
      · replace hf := (if_neg c28).symm.trans hf
        exact X13_isWord_35_W hC hQ hf hw (lv_sub hl [0, 1] rfl)
      · replace hf := (if_pos c28).symm.trans hf
        refine lv_iconst (v := 1) hx hb dX13_isWord_31 (by decide) ?_
        refine lv_goto (tgt := 36) hx hb dX13_isWord_32 (by decide) ?_
        exact X13_isWord_36_W hC hQ hf hw (lv_sub hl [0, 1] rfl)

def X13_isWord_f (E : gE) (σ : gS) (l0 : Nat) (l1 : Nat) : Option Int32 := X13_isWord E σ l0 l1
set_option maxRecDepth 100000 in
theorem X13_isWord_M (l : Launch) (E : gE) (D : va_G) (A : Nat → Prop) {l0 : Nat} {l1 : Nat} {σ : gS} {res : Int32} (hf : X13_isWord_f E σ l0 l1 = some res) : gCI l E D A yX13_isWord cX13_isWord 4 5 106 (some FieldType.boolean) [.ref l0, .ref l1] σ (res, σ) := by
  refine gg_entI (own := RX13) (nm := "isWord") (ty := FieldType.boolean) (by decide +kernel) rfl rfl (Nat.le_of_ble_eq_true rfl) rfl ?_
  intro p e R s m args below meth c Q ls hC hw hQ hl
  have hl : lv_has ls 4 [(0, .ref l0), (1, .ref l1)] := hl
  exact X13_isWord_W hC hQ hf hw hl

def X13_accept_14 (E : gE) (l2 : Int32) (σ : gS) : Option (Int32 × gS) :=
  ob (gz l2) fun _ =>
  some (l2, σ)
set_option maxHeartbeats 4000000 in
set_option maxRecDepth 100000 in
theorem X13_accept_14_W {σ : gS} {l2 : Int32} {res : (Int32 × gS)} {ls : Array Slot} (hC : gC E D A p R s m args meth c cX13_accept 3 RX13 "accept" 6 129) (hQ : gQI E D A p l e R s m args below meth c Q cX13_accept FieldType.boolean res) (hf : X13_accept_14 E l2 σ = some res) (hw : gW E D A s σ H locs) (hl : lv_has ls 3 [(2, .int l2)]) : W p l e R s m args below meth c H locs cells slots Q (F0 m 14 ls []) := by
  have hC0 := hC
  obtain ⟨hx, hb, hml, hown, hts, -⟩ := hC0
  unfold X13_accept_14 at hf
  refine lv_iload_n hx hb dX13_accept_14 rfl (lv_at hl 0 rfl) ?_
  obtain ⟨_, h1, hf⟩ := ob_some hf
  cases hf
  exact hQ _ _ _ _ _ _ dX13_accept_15 (gz_some h1) hw

def X13_accept (E : gE) (l0 : Nat) (l1 : Nat) (σ : gS) : Option (Int32 × gS) :=
  ob (gcl σ l0 11) fun _ =>
  ob (X13_isWord_f E σ l0 l1) fun x2 =>
  if x2 = 0 then
    X13_accept_14 E x2 σ
  else
    ob (gcl σ l0 11) fun _ =>
    ob (X13_scan_f E l0 σ) fun x5 =>
    X13_accept_14 E x2 x5
set_option maxHeartbeats 4000000 in
set_option maxRecDepth 100000 in
theorem X13_accept_W {σ : gS} {l0 : Nat} {l1 : Nat} {res : (Int32 × gS)} {ls : Array Slot} (hC : gC E D A p R s m args meth c cX13_accept 3 RX13 "accept" 6 129) (hQ : gQI E D A p l e R s m args below meth c Q cX13_accept FieldType.boolean res) (hf : X13_accept E l0 l1 σ = some res) (hw : gW E D A s σ H locs) (hl : lv_has ls 3 [(0, .ref l0), (1, .ref l1)]) : W p l e R s m args below meth c H locs cells slots Q (F0 m 0 ls []) := by
  have hC0 := hC
  obtain ⟨hx, hb, hml, hown, hts, -⟩ := hC0
  unfold X13_accept at hf
  refine lv_aload_n hx hb dX13_accept_0 rfl (lv_at hl 0 rfl) ?_
  refine lv_aload_n hx hb dX13_accept_1 rfl (lv_at hl 1 rfl) ?_
  obtain ⟨_, h4, hf⟩ := ob_some hf
  obtain ⟨x2, h3, hf⟩ := ob_some hf
  refine gg_cVI (As := [.ref l1]) hC hw (X13_isWord_M l E D A h3) h4 rfl g_ml_X13_337 hd_X13_isWord (Nat.le_of_ble_eq_true rfl) (Nat.le_of_ble_eq_true rfl) hl.1 rfl (Nat.le_of_ble_eq_true rfl) dX13_accept_2 (fun H locs cells slots hw => ?_)
  refine lv_istore_n (lv' := [(2, .int x2), (0, .ref l0), (1, .ref l1)]) hx hb dX13_accept_5 rfl hl (by decide) rfl (fun ls hl => ?_)
  refine lv_iload_n hx hb dX13_accept_6 rfl (lv_at hl 0 rfl) ?_
  refine lv_if_eq (tgt := 14) hx hb dX13_accept_7 (by decide) (fun c8 => ?_) (fun c8 => ?_)
  · replace hf := (if_pos c8).symm.trans hf
    exact X13_accept_14_W hC hQ hf hw (lv_sub hl [0] rfl)
  · replace hf := (if_neg c8).symm.trans hf
    refine lv_aload_n hx hb dX13_accept_10 rfl (lv_at hl 1 rfl) ?_
    obtain ⟨_, h7, hf⟩ := ob_some hf
    obtain ⟨x5, h6, hf⟩ := ob_some hf
    refine gg_cVV (As := []) hC hw (X13_scan_M l E D A h6) h7 rfl g_ml_X13_324 hd_X13_scan (Nat.le_of_ble_eq_true rfl) (Nat.le_of_ble_eq_true rfl) hl.1 rfl (Nat.le_of_ble_eq_true rfl) dX13_accept_11 (fun H locs cells slots hw => ?_)
    exact X13_accept_14_W hC hQ hf hw (lv_sub hl [0] rfl)

def X13_accept_f (E : gE) (l0 : Nat) (l1 : Nat) (σ : gS) : Option (Int32 × gS) := X13_accept E l0 l1 σ
set_option maxRecDepth 100000 in
theorem X13_accept_M (l : Launch) (E : gE) (D : va_G) (A : Nat → Prop) {l0 : Nat} {l1 : Nat} {σ : gS} {res : (Int32 × gS)} (hf : X13_accept_f E l0 l1 σ = some res) : gCI l E D A yX13_accept cX13_accept 3 6 129 (some FieldType.boolean) [.ref l0, .ref l1] σ res := by
  refine gg_entI (own := RX13) (nm := "accept") (ty := FieldType.boolean) (by decide +kernel) rfl rfl (Nat.le_of_ble_eq_true rfl) rfl ?_
  intro p e R s m args below meth c Q ls hC hw hQ hl
  have hl : lv_has ls 3 [(0, .ref l0), (1, .ref l1)] := hl
  exact X13_accept_W hC hQ hf hw hl

def X13_readTable_62 (E : gE) (r_33 : Nat → gS → Option gS) (l0 : Nat) (σ : gS) : Option gS :=
  ob (gcl σ l0 11) fun _ =>
  ob (X13_readRow_f E l0 σ) fun x1 =>
  ob (gcl x1 l0 11) fun _ =>
  ob (X13_expect_f E l0 (59 : Int32) x1) fun x4 =>
  ob (gfI x4 l0 11 22) fun x7 =>
  if x7 = 0 then
    ob (gcl x4 l0 11) fun _ =>
    ob (X13_putRow_f E l0 x4) fun x9 =>
    r_33 l0 x9
  else
    r_33 l0 x4
set_option maxHeartbeats 4000000 in
set_option maxRecDepth 100000 in
theorem X13_readTable_62_W {σ : gS} {l0 : Nat} {σz : gS} {ls : Array Slot} (hC : gC E D A p R s m args meth c cX13_readTable 1 RX13 "readTable" 7 148) (hQ : gQV E D A p l e R s m args below meth c Q cX13_readTable σz) {r_33 : Nat → gS → Option gS} (h_33 : ∀ {l0 : Nat} {σ : gS} {H : Heap} {locs : List Loc} {cells slots : Nat} {ls : Array Slot}, r_33 l0 σ = some σz → gW E D A s σ H locs → lv_has ls 1 [(0, .ref l0)] → W p l e R s m args below meth c H locs cells slots Q (F0 m 33 ls [])) (hf : X13_readTable_62 E r_33 l0 σ = some σz) (hw : gW E D A s σ H locs) (hl : lv_has ls 1 [(0, .ref l0)]) : W p l e R s m args below meth c H locs cells slots Q (F0 m 62 ls []) := by
  have hC0 := hC
  obtain ⟨hx, hb, hml, hown, hts, -⟩ := hC0
  unfold X13_readTable_62 at hf
  refine lv_aload_n hx hb dX13_readTable_62 rfl (lv_at hl 0 rfl) ?_
  obtain ⟨_, h3, hf⟩ := ob_some hf
  obtain ⟨x1, h2, hf⟩ := ob_some hf
  refine gg_cVV (As := []) hC hw (X13_readRow_M l E D A h2) h3 rfl g_ml_X13_382 hd_X13_readRow (Nat.le_of_ble_eq_true rfl) (Nat.le_of_ble_eq_true rfl) hl.1 rfl (Nat.le_of_ble_eq_true rfl) dX13_readTable_63 (fun H locs cells slots hw => ?_)
  refine lv_aload_n hx hb dX13_readTable_66 rfl (lv_at hl 0 rfl) ?_
  refine lv_bipush (v := 59) hx hb dX13_readTable_67 (by decide) ?_
  obtain ⟨_, h6, hf⟩ := ob_some hf
  obtain ⟨x4, h5, hf⟩ := ob_some hf
  refine gg_cVV (As := [.int (59 : Int32)]) hC hw (X13_expect_M l E D A h5) h6 rfl g_ml_X13_376 hd_X13_expect (Nat.le_of_ble_eq_true rfl) (Nat.le_of_ble_eq_true rfl) hl.1 rfl (Nat.le_of_ble_eq_true rfl) dX13_readTable_69 (fun H locs cells slots hw => ?_)
  refine lv_aload_n hx hb dX13_readTable_72 rfl (lv_at hl 0 rfl) ?_
  obtain ⟨x7, h8, hf⟩ := ob_some hf
  refine rI_fl_X13_318 hC hw h8 dX13_readTable_73 ?_
  refine lv_if_ne (tgt := 33) hx hb dX13_readTable_76 (by decide) (fun c12 => ?_) (fun c12 => ?_)
  · replace hf := (if_neg c12).symm.trans hf
    exact h_33 hf hw (lv_sub hl [0] rfl)
  · replace hf := (if_pos c12).symm.trans hf
    refine lv_aload_n hx hb dX13_readTable_79 rfl (lv_at hl 0 rfl) ?_
    obtain ⟨_, h11, hf⟩ := ob_some hf
    obtain ⟨x9, h10, hf⟩ := ob_some hf
    refine gg_cVV (As := []) hC hw (X13_putRow_M l E D A h10) h11 rfl g_ml_X13_82 hd_X13_putRow (Nat.le_of_ble_eq_true rfl) (Nat.le_of_ble_eq_true rfl) hl.1 rfl (Nat.le_of_ble_eq_true rfl) dX13_readTable_80 (fun H locs cells slots hw => ?_)
    refine lv_goto (tgt := 33) hx hb dX13_readTable_83 (by decide) ?_
    exact h_33 hf hw (lv_sub hl [0] rfl)

def X13_readTable_33_s (E : gE) (r_33 : Nat → gS → Option gS) (l0 : Nat) (σ : gS) : Option gS :=
  ob (gfI σ l0 11 22) fun x13 =>
  if x13 = 0 then
    ob (gfI σ l0 11 21) fun x15 =>
    if x15 = 0 then
      some σ
    else
      ob (gfR σ l0 11 8) fun x17 =>
      ob (graI E 0 σ x17 (1 : Int32)) fun x19 =>
      if x19 = (60 : Int32) then
        ob (gcl σ l0 11) fun _ =>
        ob (X13_refuseRow_f E l0 σ) fun x21 =>
        X13_readTable_62 E r_33 l0 x21
      else
        X13_readTable_62 E r_33 l0 σ
  else
    some σ
set_option maxHeartbeats 4000000 in
set_option maxRecDepth 100000 in
theorem X13_readTable_33_s_W {σ : gS} {l0 : Nat} {σz : gS} {ls : Array Slot} (hC : gC E D A p R s m args meth c cX13_readTable 1 RX13 "readTable" 7 148) (hQ : gQV E D A p l e R s m args below meth c Q cX13_readTable σz) {r_33 : Nat → gS → Option gS} (h_33 : ∀ {l0 : Nat} {σ : gS} {H : Heap} {locs : List Loc} {cells slots : Nat} {ls : Array Slot}, r_33 l0 σ = some σz → gW E D A s σ H locs → lv_has ls 1 [(0, .ref l0)] → W p l e R s m args below meth c H locs cells slots Q (F0 m 33 ls [])) (hf : X13_readTable_33_s E r_33 l0 σ = some σz) (hw : gW E D A s σ H locs) (hl : lv_has ls 1 [(0, .ref l0)]) : W p l e R s m args below meth c H locs cells slots Q (F0 m 33 ls []) := by
  have hC0 := hC
  obtain ⟨hx, hb, hml, hown, hts, -⟩ := hC0
  unfold X13_readTable_33_s at hf
  refine lv_aload_n hx hb dX13_readTable_33 rfl (lv_at hl 0 rfl) ?_
  obtain ⟨x13, h14, hf⟩ := ob_some hf
  refine rI_fl_X13_318 hC hw h14 dX13_readTable_34 ?_
  refine lv_if_ne (tgt := 86) hx hb dX13_readTable_37 (by decide) (fun c26 => ?_) (fun c26 => ?_)
  · replace hf := (if_neg c26).symm.trans hf
    cases hf
    exact hQ _ _ _ _ _ _ dX13_readTable_86 hw
  · replace hf := (if_pos c26).symm.trans hf
    refine lv_aload_n hx hb dX13_readTable_40 rfl (lv_at hl 0 rfl) ?_
    obtain ⟨x15, h16, hf⟩ := ob_some hf
    refine rI_fl_X13_309 hC hw h16 dX13_readTable_41 ?_
    refine lv_if_eq (tgt := 86) hx hb dX13_readTable_44 (by decide) (fun c25 => ?_) (fun c25 => ?_)
    · replace hf := (if_pos c25).symm.trans hf
      cases hf
      exact hQ _ _ _ _ _ _ dX13_readTable_86 hw
    · replace hf := (if_neg c25).symm.trans hf
      refine lv_aload_n hx hb dX13_readTable_47 rfl (lv_at hl 0 rfl) ?_
      obtain ⟨x17, h18, hf⟩ := ob_some hf
      refine rR_fl_X13_35 hC hw h18 dX13_readTable_48 ?_
      refine lv_iconst (v := 1) hx hb dX13_readTable_51 (by decide) ?_
      obtain ⟨x19, h20, hf⟩ := ob_some hf
      refine gg_aldI hC hw h20 dX13_readTable_52 ?_
      refine lv_bipush (v := 60) hx hb dX13_readTable_53 (by decide) ?_
      refine lv_icmp_ne (tgt := 62) hx hb dX13_readTable_55 (by decide) (fun c24 => ?_) (fun c24 => ?_)
      · replace hf := (if_neg c24).symm.trans hf
        exact X13_readTable_62_W hC hQ h_33 hf hw (lv_sub hl [0] rfl)
      · replace hf := (if_pos c24).symm.trans hf
        refine lv_aload_n hx hb dX13_readTable_58 rfl (lv_at hl 0 rfl) ?_
        obtain ⟨_, h23, hf⟩ := ob_some hf
        obtain ⟨x21, h22, hf⟩ := ob_some hf
        refine gg_cVV (As := []) hC hw (X13_refuseRow_M l E D A h22) h23 rfl g_ml_X13_379 hd_X13_refuseRow (Nat.le_of_ble_eq_true rfl) (Nat.le_of_ble_eq_true rfl) hl.1 rfl (Nat.le_of_ble_eq_true rfl) dX13_readTable_59 (fun H locs cells slots hw => ?_)
        exact X13_readTable_62_W hC hQ h_33 hf hw (lv_sub hl [0] rfl)
def X13_readTable_33 (E : gE) : Nat → Nat → gS → Option gS
  | 0 => fun _ _ => none
  | n + 1 => X13_readTable_33_s E (X13_readTable_33 E n)
theorem X13_readTable_33_W {σz : gS} (hC : gC E D A p R s m args meth c cX13_readTable 1 RX13 "readTable" 7 148) (hQ : gQV E D A p l e R s m args below meth c Q cX13_readTable σz) : ∀ (n : Nat), ∀ {l0 : Nat} {σ : gS} {H : Heap} {locs : List Loc} {cells slots : Nat} {ls : Array Slot}, X13_readTable_33 E n l0 σ = some σz → gW E D A s σ H locs → lv_has ls 1 [(0, .ref l0)] → W p l e R s m args below meth c H locs cells slots Q (F0 m 33 ls []) := by
  intro n
  induction n with
  | zero =>
    intros
    rename_i hf _ _
    exact absurd hf (fun h => by cases (show (none : Option gS) = some σz from h))
  | succ n ih =>
    intros
    rename_i hf hw hl
    exact X13_readTable_33_s_W hC hQ ih hf hw hl

def X13_readTable (E : gE) (l0 : Nat) (σ : gS) : Option gS :=
  ob (gcl σ l0 11) fun _ =>
  ob (X13_isWord_f E σ l0 (gst E 11)) fun x27 =>
  ob (gcl σ l0 11) fun _ =>
  ob (X13_check_f E l0 x27 (1 : Int32) σ) fun x30 =>
  ob (gcl x30 l0 11) fun _ =>
  ob (X13_advance_f E l0 x30) fun x33 =>
  ob (gcl x33 l0 11) fun _ =>
  ob (X13_readNumber_f E l0 (1 : Int32) (6 : Int32) x33) fun x36 =>
  ob (gcl x36.2 l0 11) fun _ =>
  ob (X13_begin_f E l0 x36.1 x36.2) fun x39 =>
  ob (gcl x39 l0 11) fun _ =>
  ob (X13_expect_f E l0 (59 : Int32) x39) fun x42 =>
  X13_readTable_33 E (gN E) l0 x42
set_option maxHeartbeats 4000000 in
set_option maxRecDepth 100000 in
theorem X13_readTable_W {σ : gS} {l0 : Nat} {σz : gS} {ls : Array Slot} (hC : gC E D A p R s m args meth c cX13_readTable 1 RX13 "readTable" 7 148) (hQ : gQV E D A p l e R s m args below meth c Q cX13_readTable σz) (hf : X13_readTable E l0 σ = some σz) (hw : gW E D A s σ H locs) (hl : lv_has ls 1 [(0, .ref l0)]) : W p l e R s m args below meth c H locs cells slots Q (F0 m 0 ls []) := by
  have hC0 := hC
  obtain ⟨hx, hb, hml, hown, hts, -⟩ := hC0
  unfold X13_readTable at hf
  refine lv_aload_n hx hb dX13_readTable_0 rfl (lv_at hl 0 rfl) ?_
  refine lv_aload_n hx hb dX13_readTable_1 rfl (lv_at hl 0 rfl) ?_
  refine gg_ldcSw hC (k := 11) rfl rfl rfl dX13_readTable_2 ?_
  obtain ⟨_, h29, hf⟩ := ob_some hf
  obtain ⟨x27, h28, hf⟩ := ob_some hf
  refine gg_cVI (As := [.ref (gst E 11)]) hC hw (X13_isWord_M l E D A h28) h29 rfl g_ml_X13_337 hd_X13_isWord (Nat.le_of_ble_eq_true rfl) (Nat.le_of_ble_eq_true rfl) hl.1 rfl (Nat.le_of_ble_eq_true rfl) dX13_readTable_5 (fun H locs cells slots hw => ?_)
  refine lv_iconst (v := 1) hx hb dX13_readTable_8 (by decide) ?_
  obtain ⟨_, h32, hf⟩ := ob_some hf
  obtain ⟨x30, h31, hf⟩ := ob_some hf
  refine gg_cVV (As := [.int x27, .int (1 : Int32)]) hC hw (X13_check_M l E D A h31) h32 rfl g_ml_X13_344 hd_X13_check (Nat.le_of_ble_eq_true rfl) (Nat.le_of_ble_eq_true rfl) hl.1 rfl (Nat.le_of_ble_eq_true rfl) dX13_readTable_9 (fun H locs cells slots hw => ?_)
  refine lv_aload_n hx hb dX13_readTable_12 rfl (lv_at hl 0 rfl) ?_
  obtain ⟨_, h35, hf⟩ := ob_some hf
  obtain ⟨x33, h34, hf⟩ := ob_some hf
  refine gg_cVV (As := []) hC hw (X13_advance_M l E D A h34) h35 rfl g_ml_X13_348 hd_X13_advance (Nat.le_of_ble_eq_true rfl) (Nat.le_of_ble_eq_true rfl) hl.1 rfl (Nat.le_of_ble_eq_true rfl) dX13_readTable_13 (fun H locs cells slots hw => ?_)
  refine lv_aload_n hx hb dX13_readTable_16 rfl (lv_at hl 0 rfl) ?_
  refine lv_aload_n hx hb dX13_readTable_17 rfl (lv_at hl 0 rfl) ?_
  refine lv_iconst (v := 1) hx hb dX13_readTable_18 (by decide) ?_
  refine lv_bipush (v := 6) hx hb dX13_readTable_19 (by decide) ?_
  obtain ⟨_, h38, hf⟩ := ob_some hf
  obtain ⟨x36, h37, hf⟩ := ob_some hf
  refine gg_cVI (As := [.int (1 : Int32), .int (6 : Int32)]) hC hw (X13_readNumber_M l E D A h37) h38 rfl g_ml_X13_364 hd_X13_readNumber (Nat.le_of_ble_eq_true rfl) (Nat.le_of_ble_eq_true rfl) hl.1 rfl (Nat.le_of_ble_eq_true rfl) dX13_readTable_21 (fun H locs cells slots hw => ?_)
  obtain ⟨_, h41, hf⟩ := ob_some hf
  obtain ⟨x39, h40, hf⟩ := ob_some hf
  refine gg_cVV (As := [.int x36.1]) hC hw (X13_begin_M l E D A h40) h41 rfl g_ml_X13_74 hd_X13_begin (Nat.le_of_ble_eq_true rfl) (Nat.le_of_ble_eq_true rfl) hl.1 rfl (Nat.le_of_ble_eq_true rfl) dX13_readTable_24 (fun H locs cells slots hw => ?_)
  refine lv_aload_n hx hb dX13_readTable_27 rfl (lv_at hl 0 rfl) ?_
  refine lv_bipush (v := 59) hx hb dX13_readTable_28 (by decide) ?_
  obtain ⟨_, h44, hf⟩ := ob_some hf
  obtain ⟨x42, h43, hf⟩ := ob_some hf
  refine gg_cVV (As := [.int (59 : Int32)]) hC hw (X13_expect_M l E D A h43) h44 rfl g_ml_X13_376 hd_X13_expect (Nat.le_of_ble_eq_true rfl) (Nat.le_of_ble_eq_true rfl) hl.1 rfl (Nat.le_of_ble_eq_true rfl) dX13_readTable_30 (fun H locs cells slots hw => ?_)
  exact X13_readTable_33_W hC hQ (gN E) hf hw (lv_sub hl [0] rfl)

def X13_readTable_f (E : gE) (l0 : Nat) (σ : gS) : Option gS := X13_readTable E l0 σ
set_option maxRecDepth 100000 in
theorem X13_readTable_M (l : Launch) (E : gE) (D : va_G) (A : Nat → Prop) {l0 : Nat} {σ : gS} {σz : gS} (hf : X13_readTable_f E l0 σ = some σz) : gCV l E D A yX13_readTable cX13_readTable 1 7 148 none [.ref l0] σ σz := by
  refine gg_entV (own := RX13) (nm := "readTable") (by decide +kernel) rfl rfl (Nat.le_of_ble_eq_true rfl) rfl ?_
  intro p e R s m args below meth c Q ls hC hw hQ hl
  have hl : lv_has ls 1 [(0, .ref l0)] := hl
  exact X13_readTable_W hC hQ hf hw hl

def X13_loadTable (E : gE) (l0 : Nat) (l1 : Int32) (σ : gS) : Option (Int32 × gS) :=
  ob (gcl σ l0 11) fun _ =>
  ob (X13_isLength_f E σ l0 l1) fun x1 =>
  ob (gcl σ l0 11) fun _ =>
  ob (X13_lacks_f E l0 x1 σ) fun x4 =>
  if x4.1 = 0 then
    ob (gcl x4.2 l0 11) fun _ =>
    ob (X13_startText_f E l0 l1 x4.2) fun x7 =>
    ob (gfR x7 l0 11 1) fun x10 =>
    ob (gpf E x7 l0 11 8 (.ref x10)) fun σ12 =>
    ob (gcl σ12 l0 11) fun _ =>
    ob (X13_readTable_f E l0 σ12) fun x14 =>
    ob (gfR x14 l0 11 0) fun x17 =>
    ob (gpf E x14 l0 11 8 (.ref x17)) fun σ19 =>
    ob (gcl σ19 l0 11) fun _ =>
    ob (X13_isFaulty_f E l0 σ19) fun x21 =>
    if x21.1 = 0 then
      ob (gfR x21.2 l0 11 1) fun x24 =>
      ob (gfR x21.2 l0 11 0) fun x26 =>
      ob (X13_copy_f E x24 (0 : Int32) x26 (0 : Int32) x21.2) fun x28 =>
      ob (gpf E x28 l0 11 9 (.int (0 : Int32))) fun σ30 =>
      ob (gz (0 : Int32)) fun _ =>
      ob (gpf E σ30 l0 11 13 (.int (0 : Int32))) fun σ32 =>
      ob (gfR σ32 l0 11 8) fun x35 =>
      ob (graI E 0 σ32 x35 (1 : Int32)) fun x37 =>
      some (x37, σ32)
    else
      some ((-1 : Int32), x21.2)
  else
    some ((0 : Int32), x4.2)
set_option maxHeartbeats 4000000 in
set_option maxRecDepth 100000 in
theorem X13_loadTable_W {σ : gS} {l0 : Nat} {l1 : Int32} {res : (Int32 × gS)} {ls : Array Slot} (hC : gC E D A p R s m args meth c cX13_loadTable 2 RX13 "loadTable" 8 168) (hQ : gQI E D A p l e R s m args below meth c Q cX13_loadTable FieldType.int res) (hf : X13_loadTable E l0 l1 σ = some res) (hw : gW E D A s σ H locs) (hl : lv_has ls 2 [(0, .ref l0), (1, .int l1)]) : W p l e R s m args below meth c H locs cells slots Q (F0 m 0 ls []) := by
  have hC0 := hC
  obtain ⟨hx, hb, hml, hown, hts, -⟩ := hC0
  unfold X13_loadTable at hf
  refine lv_aload_n hx hb dX13_loadTable_0 rfl (lv_at hl 0 rfl) ?_
  refine lv_aload_n hx hb dX13_loadTable_1 rfl (lv_at hl 0 rfl) ?_
  refine lv_iload_n hx hb dX13_loadTable_2 rfl (lv_at hl 1 rfl) ?_
  obtain ⟨_, h3, hf⟩ := ob_some hf
  obtain ⟨x1, h2, hf⟩ := ob_some hf
  refine gg_cVI (As := [.int l1]) hC hw (X13_isLength_M l E D A h2) h3 rfl g_ml_X13_385 hd_X13_isLength (Nat.le_of_ble_eq_true rfl) (Nat.le_of_ble_eq_true rfl) hl.1 rfl (Nat.le_of_ble_eq_true rfl) dX13_loadTable_3 (fun H locs cells slots hw => ?_)
  obtain ⟨_, h6, hf⟩ := ob_some hf
  obtain ⟨x4, h5, hf⟩ := ob_some hf
  refine gg_cVI (As := [.int x1]) hC hw (X13_lacks_M l E D A h5) h6 rfl g_ml_X13_88 hd_X13_lacks (Nat.le_of_ble_eq_true rfl) (Nat.le_of_ble_eq_true rfl) hl.1 rfl (Nat.le_of_ble_eq_true rfl) dX13_loadTable_6 (fun H locs cells slots hw => ?_)
  refine lv_if_eq (tgt := 14) hx hb dX13_loadTable_9 (by decide) (fun c40 => ?_) (fun c40 => ?_)
  · replace hf := (if_pos c40).symm.trans hf
    refine lv_aload_n hx hb dX13_loadTable_14 rfl (lv_at hl 0 rfl) ?_
    refine lv_iload_n hx hb dX13_loadTable_15 rfl (lv_at hl 1 rfl) ?_
    obtain ⟨_, h9, hf⟩ := ob_some hf
    obtain ⟨x7, h8, hf⟩ := ob_some hf
    refine gg_cVV (As := [.int l1]) hC hw (X13_startText_M l E D A h8) h9 rfl g_ml_X13_388 hd_X13_startText (Nat.le_of_ble_eq_true rfl) (Nat.le_of_ble_eq_true rfl) hl.1 rfl (Nat.le_of_ble_eq_true rfl) dX13_loadTable_16 (fun H locs cells slots hw => ?_)
    refine lv_aload_n hx hb dX13_loadTable_19 rfl (lv_at hl 0 rfl) ?_
    refine lv_aload_n hx hb dX13_loadTable_20 rfl (lv_at hl 0 rfl) ?_
    obtain ⟨x10, h11, hf⟩ := ob_some hf
    refine rR_fl_X13_13 hC hw h11 dX13_loadTable_21 ?_
    obtain ⟨σ12, h13, hf⟩ := ob_some hf
    refine p_fl_X13_35 hC hw h13 rfl rfl dX13_loadTable_24 (fun H locs hw => ?_)
    refine lv_aload_n hx hb dX13_loadTable_27 rfl (lv_at hl 0 rfl) ?_
    obtain ⟨_, h16, hf⟩ := ob_some hf
    obtain ⟨x14, h15, hf⟩ := ob_some hf
    refine gg_cVV (As := []) hC hw (X13_readTable_M l E D A h15) h16 rfl g_ml_X13_391 hd_X13_readTable (Nat.le_of_ble_eq_true rfl) (Nat.le_of_ble_eq_true rfl) hl.1 rfl (Nat.le_of_ble_eq_true rfl) dX13_loadTable_28 (fun H locs cells slots hw => ?_)
    refine lv_aload_n hx hb dX13_loadTable_31 rfl (lv_at hl 0 rfl) ?_
    refine lv_aload_n hx hb dX13_loadTable_32 rfl (lv_at hl 0 rfl) ?_
    obtain ⟨x17, h18, hf⟩ := ob_some hf
    refine rR_fl_X13_9 hC hw h18 dX13_loadTable_33 ?_
    obtain ⟨σ19, h20, hf⟩ := ob_some hf
    refine p_fl_X13_35 hC hw h20 rfl rfl dX13_loadTable_36 (fun H locs hw => ?_)
    refine lv_aload_n hx hb dX13_loadTable_39 rfl (lv_at hl 0 rfl) ?_
    obtain ⟨_, h23, hf⟩ := ob_some hf
    obtain ⟨x21, h22, hf⟩ := ob_some hf
    refine gg_cVI (As := []) hC hw (X13_isFaulty_M l E D A h22) h23 rfl g_ml_X13_394 hd_X13_isFaulty (Nat.le_of_ble_eq_true rfl) (Nat.le_of_ble_eq_true rfl) hl.1 rfl (Nat.le_of_ble_eq_true rfl) dX13_loadTable_40 (fun H locs cells slots hw => ?_)
    refine lv_if_eq (tgt := 48) hx hb dX13_loadTable_43 (by decide) (fun c39 => ?_) (fun c39 => ?_)
    · replace hf := (if_pos c39).symm.trans hf
      refine lv_aload_n hx hb dX13_loadTable_48 rfl (lv_at hl 0 rfl) ?_
      obtain ⟨x24, h25, hf⟩ := ob_some hf
      refine rR_fl_X13_13 hC hw h25 dX13_loadTable_49 ?_
      refine lv_iconst (v := 0) hx hb dX13_loadTable_52 (by decide) ?_
      refine lv_aload_n hx hb dX13_loadTable_53 rfl (lv_at hl 0 rfl) ?_
      obtain ⟨x26, h27, hf⟩ := ob_some hf
      refine rR_fl_X13_9 hC hw h27 dX13_loadTable_54 ?_
      refine lv_iconst (v := 0) hx hb dX13_loadTable_57 (by decide) ?_
      obtain ⟨x28, h29, hf⟩ := ob_some hf
      refine gg_cSV (As := [.ref x24, .int (0 : Int32), .ref x26, .int (0 : Int32)]) hC hw (X13_copy_M l E D A h29) g_ml_X13_243 hd_X13_copy.2 (Nat.le_of_ble_eq_true rfl) (Nat.le_of_ble_eq_true rfl) hl.1 rfl (Nat.le_of_ble_eq_true rfl) dX13_loadTable_58 (fun H locs cells slots hw => ?_)
      refine lv_aload_n hx hb dX13_loadTable_61 rfl (lv_at hl 0 rfl) ?_
      refine lv_iconst (v := 0) hx hb dX13_loadTable_62 (by decide) ?_
      obtain ⟨σ30, h31, hf⟩ := ob_some hf
      refine p_fl_X13_247 hC hw h31 rfl rfl dX13_loadTable_63 (fun H locs hw => ?_)
      refine lv_aload_n hx hb dX13_loadTable_66 rfl (lv_at hl 0 rfl) ?_
      refine lv_iconst (v := 0) hx hb dX13_loadTable_67 (by decide) ?_
      obtain ⟨_, h34, hf⟩ := ob_some hf
      obtain ⟨σ32, h33, hf⟩ := ob_some hf
      refine p_fl_X13_290 hC hw h33 (gz_some h34) (gz_fits h34) dX13_loadTable_68 (fun H locs hw => ?_)
      refine lv_aload_n hx hb dX13_loadTable_71 rfl (lv_at hl 0 rfl) ?_
      obtain ⟨x35, h36, hf⟩ := ob_some hf
      refine rR_fl_X13_35 hC hw h36 dX13_loadTable_72 ?_
      refine lv_iconst (v := 1) hx hb dX13_loadTable_75 (by decide) ?_
      obtain ⟨x37, h38, hf⟩ := ob_some hf
      refine gg_aldI hC hw h38 dX13_loadTable_76 ?_
      cases hf
      exact hQ _ _ _ _ _ _ dX13_loadTable_77 rfl hw
    · replace hf := (if_neg c39).symm.trans hf
      refine lv_iconst (v := -1) hx hb dX13_loadTable_46 (by decide) ?_
      cases hf
      exact hQ _ _ _ _ _ _ dX13_loadTable_47 rfl hw
  · replace hf := (if_neg c40).symm.trans hf
    refine lv_iconst (v := 0) hx hb dX13_loadTable_12 (by decide) ?_
    cases hf
    exact hQ _ _ _ _ _ _ dX13_loadTable_13 rfl hw

def X13_loadTable_f (E : gE) (l0 : Nat) (l1 : Int32) (σ : gS) : Option (Int32 × gS) := X13_loadTable E l0 l1 σ
set_option maxRecDepth 100000 in
theorem X13_loadTable_M (l : Launch) (E : gE) (D : va_G) (A : Nat → Prop) {l0 : Nat} {l1 : Int32} {σ : gS} {res : (Int32 × gS)} (hf : X13_loadTable_f E l0 l1 σ = some res) : gCI l E D A yX13_loadTable cX13_loadTable 2 8 168 (some FieldType.int) [.ref l0, .int l1] σ res := by
  refine gg_entI (own := RX13) (nm := "loadTable") (ty := FieldType.int) (by decide +kernel) rfl rfl (Nat.le_of_ble_eq_true rfl) rfl ?_
  intro p e R s m args below meth c Q ls hC hw hQ hl
  have hl : lv_has ls 2 [(0, .ref l0), (1, .int l1)] := hl
  exact X13_loadTable_W hC hQ hf hw hl

def X13_orderHere_2_s (E : gE) (σ : gS) (r_2 : Nat → Int32 → Option Int32) (l0 : Nat) (l1 : Int32) : Option Int32 :=
  ob (gfR σ l0 11 27) fun x1 =>
  ob (gal E 7 σ x1) fun x3 =>
  if x3 ≤ l1 then
    some (-1 : Int32)
  else
    ob (gfR σ l0 11 27) fun x5 =>
    ob (graR E 7 σ x5 l1) fun x7 =>
    ob (gcl σ l0 11) fun _ =>
    ob (X13_isWord_f E σ l0 x7) fun x9 =>
    if x9 = 0 then
      r_2 l0 (l1 + 1)
    else
      some l1
set_option maxHeartbeats 4000000 in
set_option maxRecDepth 100000 in
theorem X13_orderHere_2_s_W {σ : gS} {l0 : Nat} {l1 : Int32} {res : Int32} {ls : Array Slot} (hC : gC E D A p R s m args meth c cX13_orderHere 2 RX13 "orderHere" 6 129) (hQ : gQI E D A p l e R s m args below meth c Q cX13_orderHere FieldType.int (res, σ)) {r_2 : Nat → Int32 → Option Int32} (h_2 : ∀ {l0 : Nat} {l1 : Int32} {H : Heap} {locs : List Loc} {cells slots : Nat} {ls : Array Slot}, r_2 l0 l1 = some res → gW E D A s σ H locs → lv_has ls 2 [(0, .ref l0), (1, .int l1)] → W p l e R s m args below meth c H locs cells slots Q (F0 m 2 ls [])) (hf : X13_orderHere_2_s E σ r_2 l0 l1 = some res) (hw : gW E D A s σ H locs) (hl : lv_has ls 2 [(0, .ref l0), (1, .int l1)]) : W p l e R s m args below meth c H locs cells slots Q (F0 m 2 ls []) := by
  have hC0 := hC
  obtain ⟨hx, hb, hml, hown, hts, -⟩ := hC0
  unfold X13_orderHere_2_s at hf
  refine lv_iload_n hx hb dX13_orderHere_2 rfl (lv_at hl 1 rfl) ?_
  refine lv_aload_n hx hb dX13_orderHere_3 rfl (lv_at hl 0 rfl) ?_
  obtain ⟨x1, h2, hf⟩ := ob_some hf
  refine rR_fl_X13_70 hC hw h2 dX13_orderHere_4 ?_
  obtain ⟨x3, h4, hf⟩ := ob_some hf
  refine gg_alen hC hw h4 (Or.inr rfl) dX13_orderHere_7 ?_
  refine lv_icmp_ge (tgt := 32) hx hb dX13_orderHere_8 (by decide) (fun c13 => ?_) (fun c13 => ?_)
  · replace hf := (if_pos c13).symm.trans hf
    refine lv_iconst (v := -1) hx hb dX13_orderHere_32 (by decide) ?_
    cases hf
    exact hQ _ _ _ _ _ _ dX13_orderHere_33 rfl hw
  · replace hf := (if_neg c13).symm.trans hf
    refine lv_aload_n hx hb dX13_orderHere_11 rfl (lv_at hl 0 rfl) ?_
    refine lv_aload_n hx hb dX13_orderHere_12 rfl (lv_at hl 0 rfl) ?_
    obtain ⟨x5, h6, hf⟩ := ob_some hf
    refine rR_fl_X13_70 hC hw h6 dX13_orderHere_13 ?_
    refine lv_iload_n hx hb dX13_orderHere_16 rfl (lv_at hl 1 rfl) ?_
    obtain ⟨x7, h8, hf⟩ := ob_some hf
    refine gg_aldR hC hw h8 rfl rfl dX13_orderHere_17 ?_
    obtain ⟨_, h11, hf⟩ := ob_some hf
    obtain ⟨x9, h10, hf⟩ := ob_some hf
    refine gg_cVI (As := [.ref x7]) hC hw (X13_isWord_M l E D A h10) h11 rfl g_ml_X13_337 hd_X13_isWord (Nat.le_of_ble_eq_true rfl) (Nat.le_of_ble_eq_true rfl) hl.1 rfl (Nat.le_of_ble_eq_true rfl) dX13_orderHere_18 (fun H locs cells slots hw => ?_)
    refine lv_if_eq (tgt := 26) hx hb dX13_orderHere_21 (by decide) (fun c12 => ?_) (fun c12 => ?_)
    · replace hf := (if_pos c12).symm.trans hf
      refine lv_iinc (v := (l1 + 1)) (lv' := [(1, .int (l1 + 1)), (0, .ref l0)]) hx hb dX13_orderHere_26 hl (k := 1) rfl rfl (by decide) rfl (fun ls hl => ?_)
      refine lv_goto (tgt := 2) hx hb dX13_orderHere_29 (by decide) ?_
      exact h_2 hf hw (lv_sub hl [1, 0] rfl)
    · replace hf := (if_neg c12).symm.trans hf
      refine lv_iload_n hx hb dX13_orderHere_24 rfl (lv_at hl 1 rfl) ?_
      cases hf
      exact hQ _ _ _ _ _ _ dX13_orderHere_25 rfl hw
def X13_orderHere_2 (E : gE) (σ : gS) : Nat → Nat → Int32 → Option Int32
  | 0 => fun _ _ => none
  | n + 1 => X13_orderHere_2_s E σ (X13_orderHere_2 E σ n)
theorem X13_orderHere_2_W {σ : gS} {res : Int32} (hC : gC E D A p R s m args meth c cX13_orderHere 2 RX13 "orderHere" 6 129) (hQ : gQI E D A p l e R s m args below meth c Q cX13_orderHere FieldType.int (res, σ)) : ∀ (n : Nat), ∀ {l0 : Nat} {l1 : Int32} {H : Heap} {locs : List Loc} {cells slots : Nat} {ls : Array Slot}, X13_orderHere_2 E σ n l0 l1 = some res → gW E D A s σ H locs → lv_has ls 2 [(0, .ref l0), (1, .int l1)] → W p l e R s m args below meth c H locs cells slots Q (F0 m 2 ls []) := by
  intro n
  induction n with
  | zero =>
    intros
    rename_i hf _ _
    exact absurd hf (fun h => by cases (show (none : Option Int32) = some res from h))
  | succ n ih =>
    intros
    rename_i hf hw hl
    exact X13_orderHere_2_s_W hC hQ ih hf hw hl

def X13_orderHere (E : gE) (σ : gS) (l0 : Nat) : Option Int32 :=
  X13_orderHere_2 E σ (gN E) l0 (0 : Int32)
set_option maxHeartbeats 4000000 in
set_option maxRecDepth 100000 in
theorem X13_orderHere_W {σ : gS} {l0 : Nat} {res : Int32} {ls : Array Slot} (hC : gC E D A p R s m args meth c cX13_orderHere 2 RX13 "orderHere" 6 129) (hQ : gQI E D A p l e R s m args below meth c Q cX13_orderHere FieldType.int (res, σ)) (hf : X13_orderHere E σ l0 = some res) (hw : gW E D A s σ H locs) (hl : lv_has ls 2 [(0, .ref l0)]) : W p l e R s m args below meth c H locs cells slots Q (F0 m 0 ls []) := by
  have hC0 := hC
  obtain ⟨hx, hb, hml, hown, hts, -⟩ := hC0
  unfold X13_orderHere at hf
  refine lv_iconst (v := 0) hx hb dX13_orderHere_0 (by decide) ?_
  refine lv_istore_n (lv' := [(1, .int (0 : Int32)), (0, .ref l0)]) hx hb dX13_orderHere_1 rfl hl (by decide) rfl (fun ls hl => ?_)
  exact X13_orderHere_2_W hC hQ (gN E) hf hw (lv_sub hl [1, 0] rfl)

def X13_orderHere_f (E : gE) (σ : gS) (l0 : Nat) : Option Int32 := X13_orderHere E σ l0
set_option maxRecDepth 100000 in
theorem X13_orderHere_M (l : Launch) (E : gE) (D : va_G) (A : Nat → Prop) {l0 : Nat} {σ : gS} {res : Int32} (hf : X13_orderHere_f E σ l0 = some res) : gCI l E D A yX13_orderHere cX13_orderHere 2 6 129 (some FieldType.int) [.ref l0] σ (res, σ) := by
  refine gg_entI (own := RX13) (nm := "orderHere") (ty := FieldType.int) (by decide +kernel) rfl rfl (Nat.le_of_ble_eq_true rfl) rfl ?_
  intro p e R s m args below meth c Q ls hC hw hQ hl
  have hl : lv_has ls 2 [(0, .ref l0)] := hl
  exact X13_orderHere_W hC hQ hf hw hl

def X13_readNumbers_101 (E : gE) (s0 : Int32) (s1 : Int32) (s2 : Nat) (σ : gS) : Option gS :=
  ob (gwaI E σ s2 s1 s0) fun σ1 =>
  some σ1
set_option maxHeartbeats 4000000 in
set_option maxRecDepth 100000 in
theorem X13_readNumbers_101_W {σ : gS} {s0 : Int32} {s1 : Int32} {s2 : Nat} {σz : gS} {ls : Array Slot} (hC : gC E D A p R s m args meth c cX13_readNumbers 3 RX13 "readNumbers" 7 151) (hQ : gQV E D A p l e R s m args below meth c Q cX13_readNumbers σz) (hf : X13_readNumbers_101 E s0 s1 s2 σ = some σz) (hw : gW E D A s σ H locs) (hl : lv_has ls 3 []) : W p l e R s m args below meth c H locs cells slots Q (F0 m 101 ls [.int s0, .int s1, .ref s2]) := by
  have hC0 := hC
  obtain ⟨hx, hb, hml, hown, hts, -⟩ := hC0
  unfold X13_readNumbers_101 at hf
  obtain ⟨σ1, h2, hf⟩ := ob_some hf
  refine gg_astI hC hw h2 dX13_readNumbers_101 (fun H locs hw => ?_)
  refine lv_goto (tgt := 132) hx hb dX13_readNumbers_102 (by decide) ?_
  cases hf
  exact hQ _ _ _ _ _ _ dX13_readNumbers_132 hw

def X13_readNumbers_120 (E : gE) (l0 : Nat) (l1 : Int32) (σ : gS) : Option gS :=
  ob (gfR σ l0 11 26) fun x3 =>
  ob (gcl σ l0 11) fun _ =>
  ob (X13_readInteger_f E l0 σ) fun x5 =>
  ob (gwaI E x5.2 x3 (l1 + (2 : Int32)) x5.1) fun σ8 =>
  some σ8
set_option maxHeartbeats 4000000 in
set_option maxRecDepth 100000 in
theorem X13_readNumbers_120_W {σ : gS} {l0 : Nat} {l1 : Int32} {σz : gS} {ls : Array Slot} (hC : gC E D A p R s m args meth c cX13_readNumbers 3 RX13 "readNumbers" 7 151) (hQ : gQV E D A p l e R s m args below meth c Q cX13_readNumbers σz) (hf : X13_readNumbers_120 E l0 l1 σ = some σz) (hw : gW E D A s σ H locs) (hl : lv_has ls 3 [(0, .ref l0), (1, .int l1)]) : W p l e R s m args below meth c H locs cells slots Q (F0 m 120 ls []) := by
  have hC0 := hC
  obtain ⟨hx, hb, hml, hown, hts, -⟩ := hC0
  unfold X13_readNumbers_120 at hf
  refine lv_aload_n hx hb dX13_readNumbers_120 rfl (lv_at hl 0 rfl) ?_
  obtain ⟨x3, h4, hf⟩ := ob_some hf
  refine rR_fl_X13_48 hC hw h4 dX13_readNumbers_121 ?_
  refine lv_iload_n hx hb dX13_readNumbers_124 rfl (lv_at hl 1 rfl) ?_
  refine lv_iconst (v := 2) hx hb dX13_readNumbers_125 (by decide) ?_
  refine lv_iadd hx hb dX13_readNumbers_126 ?_
  refine lv_aload_n hx hb dX13_readNumbers_127 rfl (lv_at hl 0 rfl) ?_
  obtain ⟨_, h7, hf⟩ := ob_some hf
  obtain ⟨x5, h6, hf⟩ := ob_some hf
  refine gg_cVI (As := []) hC hw (X13_readInteger_M l E D A h6) h7 rfl g_ml_X13_367 hd_X13_readInteger (Nat.le_of_ble_eq_true rfl) (Nat.le_of_ble_eq_true rfl) hl.1 rfl (Nat.le_of_ble_eq_true rfl) dX13_readNumbers_128 (fun H locs cells slots hw => ?_)
  obtain ⟨σ8, h9, hf⟩ := ob_some hf
  refine gg_astI hC hw h9 dX13_readNumbers_131 (fun H locs hw => ?_)
  cases hf
  exact hQ _ _ _ _ _ _ dX13_readNumbers_132 hw

def X13_readNumbers_35 (E : gE) (l0 : Nat) (l1 : Int32) (l2 : Int32) (s0 : Int32) (s1 : Int32) (s2 : Nat) (s3 : Int32) (s4 : Nat) (σ : gS) : Option gS :=
  ob (gcl σ s2 11) fun _ =>
  ob (X13_readNumber_f E s2 s1 s0 σ) fun x10 =>
  ob (gwaI E x10.2 s4 s3 x10.1) fun σ13 =>
  if l2 = (1 : Int32) then
    ob (gfR σ13 l0 11 26) fun x25 =>
    ob (gcl σ13 l0 11) fun _ =>
    ob (X13_readNumber_f E l0 (0 : Int32) (59 : Int32) σ13) fun x27 =>
    ob (gwaI E x27.2 x25 (l1 + (2 : Int32)) x27.1) fun σ30 =>
    ob (gfR σ30 l0 11 26) fun x32 =>
    ob (gcl σ30 l0 11) fun _ =>
    ob (X13_readInteger_f E l0 σ30) fun x34 =>
    ob (gwaI E x34.2 x32 (l1 + (3 : Int32)) x34.1) fun σ37 =>
    some σ37
  else
    if l2 = (2 : Int32) then
      ob (gfR σ13 l0 11 26) fun x18 =>
      ob (gcl σ13 l0 11) fun _ =>
      ob (X13_accept_f E l0 (gst E 12) σ13) fun x20 =>
      if x20.1 = 0 then
        X13_readNumbers_101 E (1 : Int32) (l1 + (2 : Int32)) x18 x20.2
      else
        X13_readNumbers_101 E (-1 : Int32) (l1 + (2 : Int32)) x18 x20.2
    else
      if l2 = (3 : Int32) then
        X13_readNumbers_120 E l0 l1 σ13
      else
        if l2 = (4 : Int32) then
          X13_readNumbers_120 E l0 l1 σ13
        else
          if l2 = (5 : Int32) then
            X13_readNumbers_120 E l0 l1 σ13
          else
            some σ13
set_option maxHeartbeats 4000000 in
set_option maxRecDepth 100000 in
theorem X13_readNumbers_35_W {σ : gS} {l0 : Nat} {l1 : Int32} {l2 : Int32} {s0 : Int32} {s1 : Int32} {s2 : Nat} {s3 : Int32} {s4 : Nat} {σz : gS} {ls : Array Slot} (hC : gC E D A p R s m args meth c cX13_readNumbers 3 RX13 "readNumbers" 7 151) (hQ : gQV E D A p l e R s m args below meth c Q cX13_readNumbers σz) (hf : X13_readNumbers_35 E l0 l1 l2 s0 s1 s2 s3 s4 σ = some σz) (hw : gW E D A s σ H locs) (hl : lv_has ls 3 [(0, .ref l0), (1, .int l1), (2, .int l2)]) : W p l e R s m args below meth c H locs cells slots Q (F0 m 35 ls [.int s0, .int s1, .ref s2, .int s3, .ref s4]) := by
  have hC0 := hC
  obtain ⟨hx, hb, hml, hown, hts, -⟩ := hC0
  unfold X13_readNumbers_35 at hf
  obtain ⟨_, h12, hf⟩ := ob_some hf
  obtain ⟨x10, h11, hf⟩ := ob_some hf
  refine gg_cVI (As := [.int s1, .int s0]) hC hw (X13_readNumber_M l E D A h11) h12 rfl g_ml_X13_364 hd_X13_readNumber (Nat.le_of_ble_eq_true rfl) (Nat.le_of_ble_eq_true rfl) hl.1 rfl (Nat.le_of_ble_eq_true rfl) dX13_readNumbers_35 (fun H locs cells slots hw => ?_)
  obtain ⟨σ13, h14, hf⟩ := ob_some hf
  refine gg_astI hC hw h14 dX13_readNumbers_38 (fun H locs hw => ?_)
  refine lv_iload_n hx hb dX13_readNumbers_39 rfl (lv_at hl 2 rfl) ?_
  refine lv_iconst (v := 1) hx hb dX13_readNumbers_40 (by decide) ?_
  refine lv_icmp_ne (tgt := 74) hx hb dX13_readNumbers_41 (by decide) (fun c39 => ?_) (fun c39 => ?_)
  · replace hf := (if_neg c39).symm.trans hf
    refine lv_iload_n hx hb dX13_readNumbers_74 rfl (lv_at hl 2 rfl) ?_
    refine lv_iconst (v := 2) hx hb dX13_readNumbers_75 (by decide) ?_
    refine lv_icmp_ne (tgt := 105) hx hb dX13_readNumbers_76 (by decide) (fun c24 => ?_) (fun c24 => ?_)
    · replace hf := (if_neg c24).symm.trans hf
      refine lv_iload_n hx hb dX13_readNumbers_105 rfl (lv_at hl 2 rfl) ?_
      refine lv_iconst (v := 3) hx hb dX13_readNumbers_106 (by decide) ?_
      refine lv_icmp_eq (tgt := 120) hx hb dX13_readNumbers_107 (by decide) (fun c17 => ?_) (fun c17 => ?_)
      · replace hf := (if_pos c17).symm.trans hf
        exact X13_readNumbers_120_W hC hQ hf hw (lv_sub hl [0, 1] rfl)
      · replace hf := (if_neg c17).symm.trans hf
        refine lv_iload_n hx hb dX13_readNumbers_110 rfl (lv_at hl 2 rfl) ?_
        refine lv_iconst (v := 4) hx hb dX13_readNumbers_111 (by decide) ?_
        refine lv_icmp_eq (tgt := 120) hx hb dX13_readNumbers_112 (by decide) (fun c16 => ?_) (fun c16 => ?_)
        · replace hf := (if_pos c16).symm.trans hf
          exact X13_readNumbers_120_W hC hQ hf hw (lv_sub hl [0, 1] rfl)
        · replace hf := (if_neg c16).symm.trans hf
          refine lv_iload_n hx hb dX13_readNumbers_115 rfl (lv_at hl 2 rfl) ?_
          refine lv_iconst (v := 5) hx hb dX13_readNumbers_116 (by decide) ?_
          refine lv_icmp_ne (tgt := 132) hx hb dX13_readNumbers_117 (by decide) (fun c15 => ?_) (fun c15 => ?_)
          · replace hf := (if_neg c15).symm.trans hf
            cases hf
            exact hQ _ _ _ _ _ _ dX13_readNumbers_132 hw
          · replace hf := (if_pos c15).symm.trans hf
            exact X13_readNumbers_120_W hC hQ hf hw (lv_sub hl [0, 1] rfl)
    · replace hf := (if_pos c24).symm.trans hf
      refine lv_aload_n hx hb dX13_readNumbers_79 rfl (lv_at hl 0 rfl) ?_
      obtain ⟨x18, h19, hf⟩ := ob_some hf
      refine rR_fl_X13_48 hC hw h19 dX13_readNumbers_80 ?_
      refine lv_iload_n hx hb dX13_readNumbers_83 rfl (lv_at hl 1 rfl) ?_
      refine lv_iconst (v := 2) hx hb dX13_readNumbers_84 (by decide) ?_
      refine lv_iadd hx hb dX13_readNumbers_85 ?_
      refine lv_aload_n hx hb dX13_readNumbers_86 rfl (lv_at hl 0 rfl) ?_
      refine gg_ldcSw hC (k := 12) rfl rfl rfl dX13_readNumbers_87 ?_
      obtain ⟨_, h22, hf⟩ := ob_some hf
      obtain ⟨x20, h21, hf⟩ := ob_some hf
      refine gg_cVI (As := [.ref (gst E 12)]) hC hw (X13_accept_M l E D A h21) h22 rfl g_ml_X13_402 hd_X13_accept (Nat.le_of_ble_eq_true rfl) (Nat.le_of_ble_eq_true rfl) hl.1 rfl (Nat.le_of_ble_eq_true rfl) dX13_readNumbers_90 (fun H locs cells slots hw => ?_)
      refine lv_if_eq (tgt := 100) hx hb dX13_readNumbers_93 (by decide) (fun c23 => ?_) (fun c23 => ?_)
      · replace hf := (if_pos c23).symm.trans hf
        refine lv_iconst (v := 1) hx hb dX13_readNumbers_100 (by decide) ?_
        exact X13_readNumbers_101_W hC hQ hf hw (lv_sub hl [] rfl)
      · replace hf := (if_neg c23).symm.trans hf
        refine lv_iconst (v := -1) hx hb dX13_readNumbers_96 (by decide) ?_
        refine lv_goto (tgt := 101) hx hb dX13_readNumbers_97 (by decide) ?_
        exact X13_readNumbers_101_W hC hQ hf hw (lv_sub hl [] rfl)
  · replace hf := (if_pos c39).symm.trans hf
    refine lv_aload_n hx hb dX13_readNumbers_44 rfl (lv_at hl 0 rfl) ?_
    obtain ⟨x25, h26, hf⟩ := ob_some hf
    refine rR_fl_X13_48 hC hw h26 dX13_readNumbers_45 ?_
    refine lv_iload_n hx hb dX13_readNumbers_48 rfl (lv_at hl 1 rfl) ?_
    refine lv_iconst (v := 2) hx hb dX13_readNumbers_49 (by decide) ?_
    refine lv_iadd hx hb dX13_readNumbers_50 ?_
    refine lv_aload_n hx hb dX13_readNumbers_51 rfl (lv_at hl 0 rfl) ?_
    refine lv_iconst (v := 0) hx hb dX13_readNumbers_52 (by decide) ?_
    refine lv_bipush (v := 59) hx hb dX13_readNumbers_53 (by decide) ?_
    obtain ⟨_, h29, hf⟩ := ob_some hf
    obtain ⟨x27, h28, hf⟩ := ob_some hf
    refine gg_cVI (As := [.int (0 : Int32), .int (59 : Int32)]) hC hw (X13_readNumber_M l E D A h28) h29 rfl g_ml_X13_364 hd_X13_readNumber (Nat.le_of_ble_eq_true rfl) (Nat.le_of_ble_eq_true rfl) hl.1 rfl (Nat.le_of_ble_eq_true rfl) dX13_readNumbers_55 (fun H locs cells slots hw => ?_)
    obtain ⟨σ30, h31, hf⟩ := ob_some hf
    refine gg_astI hC hw h31 dX13_readNumbers_58 (fun H locs hw => ?_)
    refine lv_aload_n hx hb dX13_readNumbers_59 rfl (lv_at hl 0 rfl) ?_
    obtain ⟨x32, h33, hf⟩ := ob_some hf
    refine rR_fl_X13_48 hC hw h33 dX13_readNumbers_60 ?_
    refine lv_iload_n hx hb dX13_readNumbers_63 rfl (lv_at hl 1 rfl) ?_
    refine lv_iconst (v := 3) hx hb dX13_readNumbers_64 (by decide) ?_
    refine lv_iadd hx hb dX13_readNumbers_65 ?_
    refine lv_aload_n hx hb dX13_readNumbers_66 rfl (lv_at hl 0 rfl) ?_
    obtain ⟨_, h36, hf⟩ := ob_some hf
    obtain ⟨x34, h35, hf⟩ := ob_some hf
    refine gg_cVI (As := []) hC hw (X13_readInteger_M l E D A h35) h36 rfl g_ml_X13_367 hd_X13_readInteger (Nat.le_of_ble_eq_true rfl) (Nat.le_of_ble_eq_true rfl) hl.1 rfl (Nat.le_of_ble_eq_true rfl) dX13_readNumbers_67 (fun H locs cells slots hw => ?_)
    obtain ⟨σ37, h38, hf⟩ := ob_some hf
    refine gg_astI hC hw h38 dX13_readNumbers_70 (fun H locs hw => ?_)
    refine lv_goto (tgt := 132) hx hb dX13_readNumbers_71 (by decide) ?_
    cases hf
    exact hQ _ _ _ _ _ _ dX13_readNumbers_132 hw

def X13_readNumbers (E : gE) (l0 : Nat) (l1 : Int32) (l2 : Int32) (σ : gS) : Option gS :=
  if l2 = (7 : Int32) then
    some σ
  else
    ob (gfR σ l0 11 26) fun x40 =>
    if l2 = (6 : Int32) then
      X13_readNumbers_35 E l0 l1 l2 (7 : Int32) (0 : Int32) l0 (l1 + (1 : Int32)) x40 σ
    else
      ob (gfR σ l0 11 8) fun x42 =>
      ob (graI E 0 σ x42 (0 : Int32)) fun x44 =>
      X13_readNumbers_35 E l0 l1 l2 (x44 - (1 : Int32)) (0 : Int32) l0 (l1 + (1 : Int32)) x40 σ
set_option maxHeartbeats 4000000 in
set_option maxRecDepth 100000 in
theorem X13_readNumbers_W {σ : gS} {l0 : Nat} {l1 : Int32} {l2 : Int32} {σz : gS} {ls : Array Slot} (hC : gC E D A p R s m args meth c cX13_readNumbers 3 RX13 "readNumbers" 7 151) (hQ : gQV E D A p l e R s m args below meth c Q cX13_readNumbers σz) (hf : X13_readNumbers E l0 l1 l2 σ = some σz) (hw : gW E D A s σ H locs) (hl : lv_has ls 3 [(0, .ref l0), (1, .int l1), (2, .int l2)]) : W p l e R s m args below meth c H locs cells slots Q (F0 m 0 ls []) := by
  have hC0 := hC
  obtain ⟨hx, hb, hml, hown, hts, -⟩ := hC0
  unfold X13_readNumbers at hf
  refine lv_iload_n hx hb dX13_readNumbers_0 rfl (lv_at hl 2 rfl) ?_
  refine lv_bipush (v := 7) hx hb dX13_readNumbers_1 (by decide) ?_
  refine lv_icmp_ne (tgt := 7) hx hb dX13_readNumbers_3 (by decide) (fun c47 => ?_) (fun c47 => ?_)
  · replace hf := (if_neg c47).symm.trans hf
    refine lv_aload_n hx hb dX13_readNumbers_7 rfl (lv_at hl 0 rfl) ?_
    obtain ⟨x40, h41, hf⟩ := ob_some hf
    refine rR_fl_X13_48 hC hw h41 dX13_readNumbers_8 ?_
    refine lv_iload_n hx hb dX13_readNumbers_11 rfl (lv_at hl 1 rfl) ?_
    refine lv_iconst (v := 1) hx hb dX13_readNumbers_12 (by decide) ?_
    refine lv_iadd hx hb dX13_readNumbers_13 ?_
    refine lv_aload_n hx hb dX13_readNumbers_14 rfl (lv_at hl 0 rfl) ?_
    refine lv_iconst (v := 0) hx hb dX13_readNumbers_15 (by decide) ?_
    refine lv_iload_n hx hb dX13_readNumbers_16 rfl (lv_at hl 2 rfl) ?_
    refine lv_bipush (v := 6) hx hb dX13_readNumbers_17 (by decide) ?_
    refine lv_icmp_ne (tgt := 27) hx hb dX13_readNumbers_19 (by decide) (fun c46 => ?_) (fun c46 => ?_)
    · replace hf := (if_neg c46).symm.trans hf
      refine lv_aload_n hx hb dX13_readNumbers_27 rfl (lv_at hl 0 rfl) ?_
      obtain ⟨x42, h43, hf⟩ := ob_some hf
      refine rR_fl_X13_35 hC hw h43 dX13_readNumbers_28 ?_
      refine lv_iconst (v := 0) hx hb dX13_readNumbers_31 (by decide) ?_
      obtain ⟨x44, h45, hf⟩ := ob_some hf
      refine gg_aldI hC hw h45 dX13_readNumbers_32 ?_
      refine lv_iconst (v := 1) hx hb dX13_readNumbers_33 (by decide) ?_
      refine lv_isub hx hb dX13_readNumbers_34 ?_
      exact X13_readNumbers_35_W hC hQ hf hw (lv_sub hl [0, 1, 2] rfl)
    · replace hf := (if_pos c46).symm.trans hf
      refine lv_bipush (v := 7) hx hb dX13_readNumbers_22 (by decide) ?_
      refine lv_goto (tgt := 35) hx hb dX13_readNumbers_24 (by decide) ?_
      exact X13_readNumbers_35_W hC hQ hf hw (lv_sub hl [0, 1, 2] rfl)
  · replace hf := (if_pos c47).symm.trans hf
    cases hf
    exact hQ _ _ _ _ _ _ dX13_readNumbers_6 hw

def X13_readNumbers_f (E : gE) (l0 : Nat) (l1 : Int32) (l2 : Int32) (σ : gS) : Option gS := X13_readNumbers E l0 l1 l2 σ
set_option maxRecDepth 100000 in
theorem X13_readNumbers_M (l : Launch) (E : gE) (D : va_G) (A : Nat → Prop) {l0 : Nat} {l1 : Int32} {l2 : Int32} {σ : gS} {σz : gS} (hf : X13_readNumbers_f E l0 l1 l2 σ = some σz) : gCV l E D A yX13_readNumbers cX13_readNumbers 3 7 151 none [.ref l0, .int l1, .int l2] σ σz := by
  refine gg_entV (own := RX13) (nm := "readNumbers") (by decide +kernel) rfl rfl (Nat.le_of_ble_eq_true rfl) rfl ?_
  intro p e R s m args below meth c Q ls hC hw hQ hl
  have hl : lv_has ls 3 [(0, .ref l0), (1, .int l1), (2, .int l2)] := hl
  exact X13_readNumbers_W hC hQ hf hw hl

def X13_readOrder_107 (E : gE) (l0 : Nat) (σ : gS) : Option gS :=
  ob (gcl σ l0 11) fun _ =>
  ob (X13_expect_f E l0 (59 : Int32) σ) fun x1 =>
  ob (gfI x1 l0 11 28) fun x4 =>
  ob (gpf E x1 l0 11 28 (.int (x4 + (1 : Int32)))) fun σ6 =>
  some σ6
set_option maxHeartbeats 4000000 in
set_option maxRecDepth 100000 in
theorem X13_readOrder_107_W {σ : gS} {l0 : Nat} {σz : gS} {ls : Array Slot} (hC : gC E D A p R s m args meth c cX13_readOrder 3 RX13 "readOrder" 8 173) (hQ : gQV E D A p l e R s m args below meth c Q cX13_readOrder σz) (hf : X13_readOrder_107 E l0 σ = some σz) (hw : gW E D A s σ H locs) (hl : lv_has ls 3 [(0, .ref l0)]) : W p l e R s m args below meth c H locs cells slots Q (F0 m 107 ls []) := by
  have hC0 := hC
  obtain ⟨hx, hb, hml, hown, hts, -⟩ := hC0
  unfold X13_readOrder_107 at hf
  refine lv_aload_n hx hb dX13_readOrder_107 rfl (lv_at hl 0 rfl) ?_
  refine lv_bipush (v := 59) hx hb dX13_readOrder_108 (by decide) ?_
  obtain ⟨_, h3, hf⟩ := ob_some hf
  obtain ⟨x1, h2, hf⟩ := ob_some hf
  refine gg_cVV (As := [.int (59 : Int32)]) hC hw (X13_expect_M l E D A h2) h3 rfl g_ml_X13_376 hd_X13_expect (Nat.le_of_ble_eq_true rfl) (Nat.le_of_ble_eq_true rfl) hl.1 rfl (Nat.le_of_ble_eq_true rfl) dX13_readOrder_110 (fun H locs cells slots hw => ?_)
  refine lv_aload_n hx hb dX13_readOrder_113 rfl (lv_at hl 0 rfl) ?_
  refine lv_dup hx hb dX13_readOrder_114 rfl ?_
  obtain ⟨x4, h5, hf⟩ := ob_some hf
  refine rI_fl_X13_408 hC hw h5 dX13_readOrder_115 ?_
  refine lv_iconst (v := 1) hx hb dX13_readOrder_118 (by decide) ?_
  refine lv_iadd hx hb dX13_readOrder_119 ?_
  obtain ⟨σ6, h7, hf⟩ := ob_some hf
  refine p_fl_X13_408 hC hw h7 rfl rfl dX13_readOrder_120 (fun H locs hw => ?_)
  cases hf
  exact hQ _ _ _ _ _ _ dX13_readOrder_123 hw

def X13_readOrder_42 (E : gE) (l0 : Nat) (l1 : Int32) (s0 : Int32) (s1 : Nat) (σ : gS) : Option gS :=
  ob (gcl σ s1 11) fun _ =>
  ob (X13_check_f E s1 s0 (3 : Int32) σ) fun x8 =>
  ob (gcl x8 l0 11) fun _ =>
  ob (X13_advance_f E l0 x8) fun x11 =>
  ob (gfI x11 l0 11 22) fun x14 =>
  if x14 = 0 then
    ob (gfI x11 l0 11 28) fun x16 =>
    ob (gfR x11 l0 11 26) fun x18 =>
    ob (gwaI E x11 x18 ((7 : Int32) * x16) l1) fun σ20 =>
    if l1 = 0 then
      ob (gcl σ20 l0 11) fun _ =>
      ob (X13_readRow_f E l0 σ20) fun x25 =>
      ob (gfR x25 l0 11 6) fun x28 =>
      ob (gfR x25 l0 11 26) fun x30 =>
      ob (gcopy E x25 x28 (0 : Int32) x30 (((7 : Int32) * x16) + (1 : Int32)) (6 : Int32)) fun x32 =>
      X13_readOrder_107 E l0 x32
    else
      ob (gcl σ20 l0 11) fun _ =>
      ob (X13_readNumbers_f E l0 ((7 : Int32) * x16) l1 σ20) fun x22 =>
      X13_readOrder_107 E l0 x22
  else
    some x11
set_option maxHeartbeats 4000000 in
set_option maxRecDepth 100000 in
theorem X13_readOrder_42_W {σ : gS} {l0 : Nat} {l1 : Int32} {s0 : Int32} {s1 : Nat} {σz : gS} {ls : Array Slot} (hC : gC E D A p R s m args meth c cX13_readOrder 3 RX13 "readOrder" 8 173) (hQ : gQV E D A p l e R s m args below meth c Q cX13_readOrder σz) (hf : X13_readOrder_42 E l0 l1 s0 s1 σ = some σz) (hw : gW E D A s σ H locs) (hl : lv_has ls 3 [(0, .ref l0), (1, .int l1)]) : W p l e R s m args below meth c H locs cells slots Q (F0 m 42 ls [.int s0, .ref s1]) := by
  have hC0 := hC
  obtain ⟨hx, hb, hml, hown, hts, -⟩ := hC0
  unfold X13_readOrder_42 at hf
  refine lv_iconst (v := 3) hx hb dX13_readOrder_42 (by decide) ?_
  obtain ⟨_, h10, hf⟩ := ob_some hf
  obtain ⟨x8, h9, hf⟩ := ob_some hf
  refine gg_cVV (As := [.int s0, .int (3 : Int32)]) hC hw (X13_check_M l E D A h9) h10 rfl g_ml_X13_344 hd_X13_check (Nat.le_of_ble_eq_true rfl) (Nat.le_of_ble_eq_true rfl) hl.1 rfl (Nat.le_of_ble_eq_true rfl) dX13_readOrder_43 (fun H locs cells slots hw => ?_)
  refine lv_aload_n hx hb dX13_readOrder_46 rfl (lv_at hl 0 rfl) ?_
  obtain ⟨_, h13, hf⟩ := ob_some hf
  obtain ⟨x11, h12, hf⟩ := ob_some hf
  refine gg_cVV (As := []) hC hw (X13_advance_M l E D A h12) h13 rfl g_ml_X13_348 hd_X13_advance (Nat.le_of_ble_eq_true rfl) (Nat.le_of_ble_eq_true rfl) hl.1 rfl (Nat.le_of_ble_eq_true rfl) dX13_readOrder_47 (fun H locs cells slots hw => ?_)
  refine lv_aload_n hx hb dX13_readOrder_50 rfl (lv_at hl 0 rfl) ?_
  obtain ⟨x14, h15, hf⟩ := ob_some hf
  refine rI_fl_X13_318 hC hw h15 dX13_readOrder_51 ?_
  refine lv_if_eq (tgt := 58) hx hb dX13_readOrder_54 (by decide) (fun c35 => ?_) (fun c35 => ?_)
  · replace hf := (if_pos c35).symm.trans hf
    refine lv_bipush (v := 7) hx hb dX13_readOrder_58 (by decide) ?_
    refine lv_aload_n hx hb dX13_readOrder_60 rfl (lv_at hl 0 rfl) ?_
    obtain ⟨x16, h17, hf⟩ := ob_some hf
    refine rI_fl_X13_408 hC hw h17 dX13_readOrder_61 ?_
    refine lv_imul hx hb dX13_readOrder_64 ?_
    refine lv_istore_n (lv' := [(2, .int ((7 : Int32) * x16)), (0, .ref l0), (1, .int l1)]) hx hb dX13_readOrder_65 rfl hl (by decide) rfl (fun ls hl => ?_)
    refine lv_aload_n hx hb dX13_readOrder_66 rfl (lv_at hl 1 rfl) ?_
    obtain ⟨x18, h19, hf⟩ := ob_some hf
    refine rR_fl_X13_48 hC hw h19 dX13_readOrder_67 ?_
    refine lv_iload_n hx hb dX13_readOrder_70 rfl (lv_at hl 0 rfl) ?_
    refine lv_iload_n hx hb dX13_readOrder_71 rfl (lv_at hl 2 rfl) ?_
    obtain ⟨σ20, h21, hf⟩ := ob_some hf
    refine gg_astI hC hw h21 dX13_readOrder_72 (fun H locs hw => ?_)
    refine lv_iload_n hx hb dX13_readOrder_73 rfl (lv_at hl 2 rfl) ?_
    refine lv_if_ne (tgt := 101) hx hb dX13_readOrder_74 (by decide) (fun c34 => ?_) (fun c34 => ?_)
    · replace hf := (if_neg c34).symm.trans hf
      refine lv_aload_n hx hb dX13_readOrder_101 rfl (lv_at hl 1 rfl) ?_
      refine lv_iload_n hx hb dX13_readOrder_102 rfl (lv_at hl 0 rfl) ?_
      refine lv_iload_n hx hb dX13_readOrder_103 rfl (lv_at hl 2 rfl) ?_
      obtain ⟨_, h24, hf⟩ := ob_some hf
      obtain ⟨x22, h23, hf⟩ := ob_some hf
      refine gg_cVV (As := [.int ((7 : Int32) * x16), .int l1]) hC hw (X13_readNumbers_M l E D A h23) h24 rfl g_ml_X13_411 hd_X13_readNumbers (Nat.le_of_ble_eq_true rfl) (Nat.le_of_ble_eq_true rfl) hl.1 rfl (Nat.le_of_ble_eq_true rfl) dX13_readOrder_104 (fun H locs cells slots hw => ?_)
      exact X13_readOrder_107_W hC hQ hf hw (lv_sub hl [1] rfl)
    · replace hf := (if_pos c34).symm.trans hf
      refine lv_aload_n hx hb dX13_readOrder_77 rfl (lv_at hl 1 rfl) ?_
      obtain ⟨_, h27, hf⟩ := ob_some hf
      obtain ⟨x25, h26, hf⟩ := ob_some hf
      refine gg_cVV (As := []) hC hw (X13_readRow_M l E D A h26) h27 rfl g_ml_X13_382 hd_X13_readRow (Nat.le_of_ble_eq_true rfl) (Nat.le_of_ble_eq_true rfl) hl.1 rfl (Nat.le_of_ble_eq_true rfl) dX13_readOrder_78 (fun H locs cells slots hw => ?_)
      refine lv_aload_n hx hb dX13_readOrder_81 rfl (lv_at hl 1 rfl) ?_
      obtain ⟨x28, h29, hf⟩ := ob_some hf
      refine rR_fl_X13_29 hC hw h29 dX13_readOrder_82 ?_
      refine lv_iconst (v := 0) hx hb dX13_readOrder_85 (by decide) ?_
      refine lv_aload_n hx hb dX13_readOrder_86 rfl (lv_at hl 1 rfl) ?_
      obtain ⟨x30, h31, hf⟩ := ob_some hf
      refine rR_fl_X13_48 hC hw h31 dX13_readOrder_87 ?_
      refine lv_iload_n hx hb dX13_readOrder_90 rfl (lv_at hl 0 rfl) ?_
      refine lv_iconst (v := 1) hx hb dX13_readOrder_91 (by decide) ?_
      refine lv_iadd hx hb dX13_readOrder_92 ?_
      refine lv_bipush (v := 6) hx hb dX13_readOrder_93 (by decide) ?_
      obtain ⟨x32, h33, hf⟩ := ob_some hf
      refine gg_copy hC hw h33 ml_X13_237 hl.1 rfl (Nat.le_of_ble_eq_true rfl) (Nat.le_of_ble_eq_true rfl) (Nat.le_of_ble_eq_true rfl) dX13_readOrder_95 (fun H locs hw => ?_)
      refine lv_goto (tgt := 107) hx hb dX13_readOrder_98 (by decide) ?_
      exact X13_readOrder_107_W hC hQ hf hw (lv_sub hl [1] rfl)
  · replace hf := (if_neg c35).symm.trans hf
    cases hf
    exact hQ _ _ _ _ _ _ dX13_readOrder_57 hw

def X13_readOrder_37 (E : gE) (l0 : Nat) (l1 : Int32) (s0 : Nat) (σ : gS) : Option gS :=
  X13_readOrder_42 E l0 l1 (1 : Int32) s0 σ
set_option maxHeartbeats 4000000 in
set_option maxRecDepth 100000 in
theorem X13_readOrder_37_W {σ : gS} {l0 : Nat} {l1 : Int32} {s0 : Nat} {σz : gS} {ls : Array Slot} (hC : gC E D A p R s m args meth c cX13_readOrder 3 RX13 "readOrder" 8 173) (hQ : gQV E D A p l e R s m args below meth c Q cX13_readOrder σz) (hf : X13_readOrder_37 E l0 l1 s0 σ = some σz) (hw : gW E D A s σ H locs) (hl : lv_has ls 3 [(0, .ref l0), (1, .int l1)]) : W p l e R s m args below meth c H locs cells slots Q (F0 m 37 ls [.ref s0]) := by
  have hC0 := hC
  obtain ⟨hx, hb, hml, hown, hts, -⟩ := hC0
  unfold X13_readOrder_37 at hf
  refine lv_iconst (v := 1) hx hb dX13_readOrder_37 (by decide) ?_
  refine lv_goto (tgt := 42) hx hb dX13_readOrder_38 (by decide) ?_
  exact X13_readOrder_42_W hC hQ hf hw (lv_sub hl [0, 1] rfl)

def X13_readOrder_16 (E : gE) (l0 : Nat) (l1 : Int32) (s0 : Int32) (s1 : Nat) (σ : gS) : Option gS :=
  ob (gcl σ s1 11) fun _ =>
  ob (X13_check_f E s1 s0 (1 : Int32) σ) fun x36 =>
  ob (gfI x36 l0 11 22) fun x39 =>
  if x39 = 0 then
    ob (gfI x36 l0 11 28) fun x41 =>
    if (20 : Int32) ≤ x41 then
      X13_readOrder_42 E l0 l1 (0 : Int32) l0 x36
    else
      X13_readOrder_37 E l0 l1 l0 x36
  else
    X13_readOrder_37 E l0 l1 l0 x36
set_option maxHeartbeats 4000000 in
set_option maxRecDepth 100000 in
theorem X13_readOrder_16_W {σ : gS} {l0 : Nat} {l1 : Int32} {s0 : Int32} {s1 : Nat} {σz : gS} {ls : Array Slot} (hC : gC E D A p R s m args meth c cX13_readOrder 3 RX13 "readOrder" 8 173) (hQ : gQV E D A p l e R s m args below meth c Q cX13_readOrder σz) (hf : X13_readOrder_16 E l0 l1 s0 s1 σ = some σz) (hw : gW E D A s σ H locs) (hl : lv_has ls 3 [(0, .ref l0), (1, .int l1)]) : W p l e R s m args below meth c H locs cells slots Q (F0 m 16 ls [.int s0, .ref s1]) := by
  have hC0 := hC
  obtain ⟨hx, hb, hml, hown, hts, -⟩ := hC0
  unfold X13_readOrder_16 at hf
  refine lv_iconst (v := 1) hx hb dX13_readOrder_16 (by decide) ?_
  obtain ⟨_, h38, hf⟩ := ob_some hf
  obtain ⟨x36, h37, hf⟩ := ob_some hf
  refine gg_cVV (As := [.int s0, .int (1 : Int32)]) hC hw (X13_check_M l E D A h37) h38 rfl g_ml_X13_344 hd_X13_check (Nat.le_of_ble_eq_true rfl) (Nat.le_of_ble_eq_true rfl) hl.1 rfl (Nat.le_of_ble_eq_true rfl) dX13_readOrder_17 (fun H locs cells slots hw => ?_)
  refine lv_aload_n hx hb dX13_readOrder_20 rfl (lv_at hl 0 rfl) ?_
  refine lv_aload_n hx hb dX13_readOrder_21 rfl (lv_at hl 0 rfl) ?_
  obtain ⟨x39, h40, hf⟩ := ob_some hf
  refine rI_fl_X13_318 hC hw h40 dX13_readOrder_22 ?_
  refine lv_if_ne (tgt := 37) hx hb dX13_readOrder_25 (by decide) (fun c44 => ?_) (fun c44 => ?_)
  · replace hf := (if_neg c44).symm.trans hf
    exact X13_readOrder_37_W hC hQ hf hw (lv_sub hl [0, 1] rfl)
  · replace hf := (if_pos c44).symm.trans hf
    refine lv_aload_n hx hb dX13_readOrder_28 rfl (lv_at hl 0 rfl) ?_
    obtain ⟨x41, h42, hf⟩ := ob_some hf
    refine rI_fl_X13_408 hC hw h42 dX13_readOrder_29 ?_
    refine lv_bipush (v := 20) hx hb dX13_readOrder_32 (by decide) ?_
    refine lv_icmp_ge (tgt := 41) hx hb dX13_readOrder_34 (by decide) (fun c43 => ?_) (fun c43 => ?_)
    · replace hf := (if_pos c43).symm.trans hf
      refine lv_iconst (v := 0) hx hb dX13_readOrder_41 (by decide) ?_
      exact X13_readOrder_42_W hC hQ hf hw (lv_sub hl [0, 1] rfl)
    · replace hf := (if_neg c43).symm.trans hf
      exact X13_readOrder_37_W hC hQ hf hw (lv_sub hl [0, 1] rfl)

def X13_readOrder (E : gE) (l0 : Nat) (σ : gS) : Option gS :=
  ob (gcl σ l0 11) fun _ =>
  ob (X13_orderHere_f E σ l0) fun x45 =>
  if x45 = (-1 : Int32) then
    X13_readOrder_16 E l0 x45 (0 : Int32) l0 σ
  else
    X13_readOrder_16 E l0 x45 (1 : Int32) l0 σ
set_option maxHeartbeats 4000000 in
set_option maxRecDepth 100000 in
theorem X13_readOrder_W {σ : gS} {l0 : Nat} {σz : gS} {ls : Array Slot} (hC : gC E D A p R s m args meth c cX13_readOrder 3 RX13 "readOrder" 8 173) (hQ : gQV E D A p l e R s m args below meth c Q cX13_readOrder σz) (hf : X13_readOrder E l0 σ = some σz) (hw : gW E D A s σ H locs) (hl : lv_has ls 3 [(0, .ref l0)]) : W p l e R s m args below meth c H locs cells slots Q (F0 m 0 ls []) := by
  have hC0 := hC
  obtain ⟨hx, hb, hml, hown, hts, -⟩ := hC0
  unfold X13_readOrder at hf
  refine lv_aload_n hx hb dX13_readOrder_0 rfl (lv_at hl 0 rfl) ?_
  obtain ⟨_, h47, hf⟩ := ob_some hf
  obtain ⟨x45, h46, hf⟩ := ob_some hf
  refine gg_cVI (As := []) hC hw (X13_orderHere_M l E D A h46) h47 rfl g_ml_X13_405 hd_X13_orderHere (Nat.le_of_ble_eq_true rfl) (Nat.le_of_ble_eq_true rfl) hl.1 rfl (Nat.le_of_ble_eq_true rfl) dX13_readOrder_1 (fun H locs cells slots hw => ?_)
  refine lv_istore_n (lv' := [(1, .int x45), (0, .ref l0)]) hx hb dX13_readOrder_4 rfl hl (by decide) rfl (fun ls hl => ?_)
  refine lv_aload_n hx hb dX13_readOrder_5 rfl (lv_at hl 1 rfl) ?_
  refine lv_iload_n hx hb dX13_readOrder_6 rfl (lv_at hl 0 rfl) ?_
  refine lv_iconst (v := -1) hx hb dX13_readOrder_7 (by decide) ?_
  refine lv_icmp_eq (tgt := 15) hx hb dX13_readOrder_8 (by decide) (fun c48 => ?_) (fun c48 => ?_)
  · replace hf := (if_pos c48).symm.trans hf
    refine lv_iconst (v := 0) hx hb dX13_readOrder_15 (by decide) ?_
    exact X13_readOrder_16_W hC hQ hf hw (lv_sub hl [1, 0] rfl)
  · replace hf := (if_neg c48).symm.trans hf
    refine lv_iconst (v := 1) hx hb dX13_readOrder_11 (by decide) ?_
    refine lv_goto (tgt := 16) hx hb dX13_readOrder_12 (by decide) ?_
    exact X13_readOrder_16_W hC hQ hf hw (lv_sub hl [1, 0] rfl)

def X13_readOrder_f (E : gE) (l0 : Nat) (σ : gS) : Option gS := X13_readOrder E l0 σ
set_option maxRecDepth 100000 in
theorem X13_readOrder_M (l : Launch) (E : gE) (D : va_G) (A : Nat → Prop) {l0 : Nat} {σ : gS} {σz : gS} (hf : X13_readOrder_f E l0 σ = some σz) : gCV l E D A yX13_readOrder cX13_readOrder 3 8 173 none [.ref l0] σ σz := by
  refine gg_entV (own := RX13) (nm := "readOrder") (by decide +kernel) rfl rfl (Nat.le_of_ble_eq_true rfl) rfl ?_
  intro p e R s m args below meth c Q ls hC hw hQ hl
  have hl : lv_has ls 3 [(0, .ref l0)] := hl
  exact X13_readOrder_W hC hQ hf hw hl

def X13_runScript_89 (E : gE) (l2 : Int32) (σ : gS) : Option (Int32 × gS) :=
  some (l2, σ)
set_option maxHeartbeats 4000000 in
set_option maxRecDepth 100000 in
theorem X13_runScript_89_W {σ : gS} {l2 : Int32} {res : (Int32 × gS)} {ls : Array Slot} (hC : gC E D A p R s m args meth c cX13_runScript 3 RX13 "runScript" 9 195) (hQ : gQI E D A p l e R s m args below meth c Q cX13_runScript FieldType.int res) (hf : X13_runScript_89 E l2 σ = some res) (hw : gW E D A s σ H locs) (hl : lv_has ls 3 [(2, .int l2)]) : W p l e R s m args below meth c H locs cells slots Q (F0 m 89 ls []) := by
  have hC0 := hC
  obtain ⟨hx, hb, hml, hown, hts, -⟩ := hC0
  unfold X13_runScript_89 at hf
  refine lv_iload_n hx hb dX13_runScript_89 rfl (lv_at hl 0 rfl) ?_
  cases hf
  exact hQ _ _ _ _ _ _ dX13_runScript_90 rfl hw

def X13_runScript_64_s (E : gE) (r_64 : Nat → Int32 → gS → Option (Int32 × gS)) (l0 : Nat) (l2 : Int32) (σ : gS) : Option (Int32 × gS) :=
  ob (gfI σ l0 11 28) fun x1 =>
  if x1 ≤ l2 then
    X13_runScript_89 E l2 σ
  else
    ob (gcl σ l0 11) fun _ =>
    ob (X13_does_f E l0 ((7 : Int32) * l2) σ) fun x3 =>
    if x3.1 = 0 then
      r_64 l0 (l2 + 1) x3.2
    else
      X13_runScript_89 E l2 x3.2
set_option maxHeartbeats 4000000 in
set_option maxRecDepth 100000 in
theorem X13_runScript_64_s_W {σ : gS} {l0 : Nat} {l2 : Int32} {res : (Int32 × gS)} {ls : Array Slot} (hC : gC E D A p R s m args meth c cX13_runScript 3 RX13 "runScript" 9 195) (hQ : gQI E D A p l e R s m args below meth c Q cX13_runScript FieldType.int res) {r_64 : Nat → Int32 → gS → Option (Int32 × gS)} (h_64 : ∀ {l0 : Nat} {l2 : Int32} {σ : gS} {H : Heap} {locs : List Loc} {cells slots : Nat} {ls : Array Slot}, r_64 l0 l2 σ = some res → gW E D A s σ H locs → lv_has ls 3 [(0, .ref l0), (2, .int l2)] → W p l e R s m args below meth c H locs cells slots Q (F0 m 64 ls [])) (hf : X13_runScript_64_s E r_64 l0 l2 σ = some res) (hw : gW E D A s σ H locs) (hl : lv_has ls 3 [(0, .ref l0), (2, .int l2)]) : W p l e R s m args below meth c H locs cells slots Q (F0 m 64 ls []) := by
  have hC0 := hC
  obtain ⟨hx, hb, hml, hown, hts, -⟩ := hC0
  unfold X13_runScript_64_s at hf
  refine lv_iload_n hx hb dX13_runScript_64 rfl (lv_at hl 1 rfl) ?_
  refine lv_aload_n hx hb dX13_runScript_65 rfl (lv_at hl 0 rfl) ?_
  obtain ⟨x1, h2, hf⟩ := ob_some hf
  refine rI_fl_X13_408 hC hw h2 dX13_runScript_66 ?_
  refine lv_icmp_ge (tgt := 89) hx hb dX13_runScript_69 (by decide) (fun c7 => ?_) (fun c7 => ?_)
  · replace hf := (if_pos c7).symm.trans hf
    exact X13_runScript_89_W hC hQ hf hw (lv_sub hl [1] rfl)
  · replace hf := (if_neg c7).symm.trans hf
    refine lv_aload_n hx hb dX13_runScript_72 rfl (lv_at hl 0 rfl) ?_
    refine lv_bipush (v := 7) hx hb dX13_runScript_73 (by decide) ?_
    refine lv_iload_n hx hb dX13_runScript_75 rfl (lv_at hl 1 rfl) ?_
    refine lv_imul hx hb dX13_runScript_76 ?_
    obtain ⟨_, h5, hf⟩ := ob_some hf
    obtain ⟨x3, h4, hf⟩ := ob_some hf
    refine gg_cVI (As := [.int ((7 : Int32) * l2)]) hC hw (X13_does_M l E D A h4) h5 rfl g_ml_X13_417 hd_X13_does (Nat.le_of_ble_eq_true rfl) (Nat.le_of_ble_eq_true rfl) hl.1 rfl (Nat.le_of_ble_eq_true rfl) dX13_runScript_77 (fun H locs cells slots hw => ?_)
    refine lv_if_ne (tgt := 89) hx hb dX13_runScript_80 (by decide) (fun c6 => ?_) (fun c6 => ?_)
    · replace hf := (if_neg c6).symm.trans hf
      exact X13_runScript_89_W hC hQ hf hw (lv_sub hl [1] rfl)
    · replace hf := (if_pos c6).symm.trans hf
      refine lv_iinc (v := (l2 + 1)) (lv' := [(2, .int (l2 + 1)), (0, .ref l0)]) hx hb dX13_runScript_83 hl (k := 1) rfl rfl (by decide) rfl (fun ls hl => ?_)
      refine lv_goto (tgt := 64) hx hb dX13_runScript_86 (by decide) ?_
      exact h_64 hf hw (lv_sub hl [1, 0] rfl)
def X13_runScript_64 (E : gE) : Nat → Nat → Int32 → gS → Option (Int32 × gS)
  | 0 => fun _ _ _ => none
  | n + 1 => X13_runScript_64_s E (X13_runScript_64 E n)
theorem X13_runScript_64_W {res : (Int32 × gS)} (hC : gC E D A p R s m args meth c cX13_runScript 3 RX13 "runScript" 9 195) (hQ : gQI E D A p l e R s m args below meth c Q cX13_runScript FieldType.int res) : ∀ (n : Nat), ∀ {l0 : Nat} {l2 : Int32} {σ : gS} {H : Heap} {locs : List Loc} {cells slots : Nat} {ls : Array Slot}, X13_runScript_64 E n l0 l2 σ = some res → gW E D A s σ H locs → lv_has ls 3 [(0, .ref l0), (2, .int l2)] → W p l e R s m args below meth c H locs cells slots Q (F0 m 64 ls []) := by
  intro n
  induction n with
  | zero =>
    intros
    rename_i hf _ _
    exact absurd hf (fun h => by cases (show (none : Option (Int32 × gS)) = some res from h))
  | succ n ih =>
    intros
    rename_i hf hw hl
    exact X13_runScript_64_s_W hC hQ ih hf hw hl

def X13_runScript_45 (E : gE) (l0 : Nat) (σ : gS) : Option (Int32 × gS) :=
  ob (gcl σ l0 11) fun _ =>
  ob (X13_isFaulty_f E l0 σ) fun x8 =>
  if x8.1 = 0 then
    ob (gcl x8.2 l0 11) fun _ =>
    ob (X13_keep_f E l0 x8.2) fun x11 =>
    ob (gcl x11 l0 11) fun _ =>
    ob (X13_record_f E l0 x11) fun x14 =>
    X13_runScript_64 E (gN E) l0 (0 : Int32) x14
  else
    some ((-1 : Int32), x8.2)
set_option maxHeartbeats 4000000 in
set_option maxRecDepth 100000 in
theorem X13_runScript_45_W {σ : gS} {l0 : Nat} {res : (Int32 × gS)} {ls : Array Slot} (hC : gC E D A p R s m args meth c cX13_runScript 3 RX13 "runScript" 9 195) (hQ : gQI E D A p l e R s m args below meth c Q cX13_runScript FieldType.int res) (hf : X13_runScript_45 E l0 σ = some res) (hw : gW E D A s σ H locs) (hl : lv_has ls 3 [(0, .ref l0)]) : W p l e R s m args below meth c H locs cells slots Q (F0 m 45 ls []) := by
  have hC0 := hC
  obtain ⟨hx, hb, hml, hown, hts, -⟩ := hC0
  unfold X13_runScript_45 at hf
  refine lv_aload_n hx hb dX13_runScript_45 rfl (lv_at hl 0 rfl) ?_
  obtain ⟨_, h10, hf⟩ := ob_some hf
  obtain ⟨x8, h9, hf⟩ := ob_some hf
  refine gg_cVI (As := []) hC hw (X13_isFaulty_M l E D A h9) h10 rfl g_ml_X13_394 hd_X13_isFaulty (Nat.le_of_ble_eq_true rfl) (Nat.le_of_ble_eq_true rfl) hl.1 rfl (Nat.le_of_ble_eq_true rfl) dX13_runScript_46 (fun H locs cells slots hw => ?_)
  refine lv_if_eq (tgt := 54) hx hb dX13_runScript_49 (by decide) (fun c17 => ?_) (fun c17 => ?_)
  · replace hf := (if_pos c17).symm.trans hf
    refine lv_aload_n hx hb dX13_runScript_54 rfl (lv_at hl 0 rfl) ?_
    obtain ⟨_, h13, hf⟩ := ob_some hf
    obtain ⟨x11, h12, hf⟩ := ob_some hf
    refine gg_cVV (As := []) hC hw (X13_keep_M l E D A h12) h13 rfl g_ml_X13_253 hd_X13_keep (Nat.le_of_ble_eq_true rfl) (Nat.le_of_ble_eq_true rfl) hl.1 rfl (Nat.le_of_ble_eq_true rfl) dX13_runScript_55 (fun H locs cells slots hw => ?_)
    refine lv_aload_n hx hb dX13_runScript_58 rfl (lv_at hl 0 rfl) ?_
    obtain ⟨_, h16, hf⟩ := ob_some hf
    obtain ⟨x14, h15, hf⟩ := ob_some hf
    refine gg_cVV (As := []) hC hw (X13_record_M l E D A h15) h16 rfl g_ml_X13_250 hd_X13_record (Nat.le_of_ble_eq_true rfl) (Nat.le_of_ble_eq_true rfl) hl.1 rfl (Nat.le_of_ble_eq_true rfl) dX13_runScript_59 (fun H locs cells slots hw => ?_)
    refine lv_iconst (v := 0) hx hb dX13_runScript_62 (by decide) ?_
    refine lv_istore_n (lv' := [(2, .int (0 : Int32)), (0, .ref l0)]) hx hb dX13_runScript_63 rfl hl (by decide) rfl (fun ls hl => ?_)
    exact X13_runScript_64_W hC hQ (gN E) hf hw (lv_sub hl [1, 0] rfl)
  · replace hf := (if_neg c17).symm.trans hf
    refine lv_iconst (v := -1) hx hb dX13_runScript_52 (by decide) ?_
    cases hf
    exact hQ _ _ _ _ _ _ dX13_runScript_53 rfl hw

def X13_runScript_24_s (E : gE) (r_24 : Nat → gS → Option (Int32 × gS)) (l0 : Nat) (σ : gS) : Option (Int32 × gS) :=
  ob (gfI σ l0 11 22) fun x18 =>
  if x18 = 0 then
    ob (gfI σ l0 11 21) fun x20 =>
    if x20 = 0 then
      X13_runScript_45 E l0 σ
    else
      ob (gcl σ l0 11) fun _ =>
      ob (X13_readOrder_f E l0 σ) fun x22 =>
      r_24 l0 x22
  else
    X13_runScript_45 E l0 σ
set_option maxHeartbeats 4000000 in
set_option maxRecDepth 100000 in
theorem X13_runScript_24_s_W {σ : gS} {l0 : Nat} {res : (Int32 × gS)} {ls : Array Slot} (hC : gC E D A p R s m args meth c cX13_runScript 3 RX13 "runScript" 9 195) (hQ : gQI E D A p l e R s m args below meth c Q cX13_runScript FieldType.int res) {r_24 : Nat → gS → Option (Int32 × gS)} (h_24 : ∀ {l0 : Nat} {σ : gS} {H : Heap} {locs : List Loc} {cells slots : Nat} {ls : Array Slot}, r_24 l0 σ = some res → gW E D A s σ H locs → lv_has ls 3 [(0, .ref l0)] → W p l e R s m args below meth c H locs cells slots Q (F0 m 24 ls [])) (hf : X13_runScript_24_s E r_24 l0 σ = some res) (hw : gW E D A s σ H locs) (hl : lv_has ls 3 [(0, .ref l0)]) : W p l e R s m args below meth c H locs cells slots Q (F0 m 24 ls []) := by
  have hC0 := hC
  obtain ⟨hx, hb, hml, hown, hts, -⟩ := hC0
  unfold X13_runScript_24_s at hf
  refine lv_aload_n hx hb dX13_runScript_24 rfl (lv_at hl 0 rfl) ?_
  obtain ⟨x18, h19, hf⟩ := ob_some hf
  refine rI_fl_X13_318 hC hw h19 dX13_runScript_25 ?_
  refine lv_if_ne (tgt := 45) hx hb dX13_runScript_28 (by decide) (fun c26 => ?_) (fun c26 => ?_)
  · replace hf := (if_neg c26).symm.trans hf
    exact X13_runScript_45_W hC hQ hf hw (lv_sub hl [0] rfl)
  · replace hf := (if_pos c26).symm.trans hf
    refine lv_aload_n hx hb dX13_runScript_31 rfl (lv_at hl 0 rfl) ?_
    obtain ⟨x20, h21, hf⟩ := ob_some hf
    refine rI_fl_X13_309 hC hw h21 dX13_runScript_32 ?_
    refine lv_if_eq (tgt := 45) hx hb dX13_runScript_35 (by decide) (fun c25 => ?_) (fun c25 => ?_)
    · replace hf := (if_pos c25).symm.trans hf
      exact X13_runScript_45_W hC hQ hf hw (lv_sub hl [0] rfl)
    · replace hf := (if_neg c25).symm.trans hf
      refine lv_aload_n hx hb dX13_runScript_38 rfl (lv_at hl 0 rfl) ?_
      obtain ⟨_, h24, hf⟩ := ob_some hf
      obtain ⟨x22, h23, hf⟩ := ob_some hf
      refine gg_cVV (As := []) hC hw (X13_readOrder_M l E D A h23) h24 rfl g_ml_X13_414 hd_X13_readOrder (Nat.le_of_ble_eq_true rfl) (Nat.le_of_ble_eq_true rfl) hl.1 rfl (Nat.le_of_ble_eq_true rfl) dX13_runScript_39 (fun H locs cells slots hw => ?_)
      refine lv_goto (tgt := 24) hx hb dX13_runScript_42 (by decide) ?_
      exact h_24 hf hw (lv_sub hl [0] rfl)
def X13_runScript_24 (E : gE) : Nat → Nat → gS → Option (Int32 × gS)
  | 0 => fun _ _ => none
  | n + 1 => X13_runScript_24_s E (X13_runScript_24 E n)
theorem X13_runScript_24_W {res : (Int32 × gS)} (hC : gC E D A p R s m args meth c cX13_runScript 3 RX13 "runScript" 9 195) (hQ : gQI E D A p l e R s m args below meth c Q cX13_runScript FieldType.int res) : ∀ (n : Nat), ∀ {l0 : Nat} {σ : gS} {H : Heap} {locs : List Loc} {cells slots : Nat} {ls : Array Slot}, X13_runScript_24 E n l0 σ = some res → gW E D A s σ H locs → lv_has ls 3 [(0, .ref l0)] → W p l e R s m args below meth c H locs cells slots Q (F0 m 24 ls []) := by
  intro n
  induction n with
  | zero =>
    intros
    rename_i hf _ _
    exact absurd hf (fun h => by cases (show (none : Option (Int32 × gS)) = some res from h))
  | succ n ih =>
    intros
    rename_i hf hw hl
    exact X13_runScript_24_s_W hC hQ ih hf hw hl

def X13_runScript (E : gE) (l0 : Nat) (l1 : Int32) (σ : gS) : Option (Int32 × gS) :=
  ob (gcl σ l0 11) fun _ =>
  ob (X13_isLength_f E σ l0 l1) fun x27 =>
  ob (gcl σ l0 11) fun _ =>
  ob (X13_lacks_f E l0 x27 σ) fun x30 =>
  if x30.1 = 0 then
    ob (gpf E x30.2 l0 11 28 (.int (0 : Int32))) fun σ33 =>
    ob (gcl σ33 l0 11) fun _ =>
    ob (X13_startText_f E l0 l1 σ33) fun x35 =>
    X13_runScript_24 E (gN E) l0 x35
  else
    some ((0 : Int32), x30.2)
set_option maxHeartbeats 4000000 in
set_option maxRecDepth 100000 in
theorem X13_runScript_W {σ : gS} {l0 : Nat} {l1 : Int32} {res : (Int32 × gS)} {ls : Array Slot} (hC : gC E D A p R s m args meth c cX13_runScript 3 RX13 "runScript" 9 195) (hQ : gQI E D A p l e R s m args below meth c Q cX13_runScript FieldType.int res) (hf : X13_runScript E l0 l1 σ = some res) (hw : gW E D A s σ H locs) (hl : lv_has ls 3 [(0, .ref l0), (1, .int l1)]) : W p l e R s m args below meth c H locs cells slots Q (F0 m 0 ls []) := by
  have hC0 := hC
  obtain ⟨hx, hb, hml, hown, hts, -⟩ := hC0
  unfold X13_runScript at hf
  refine lv_aload_n hx hb dX13_runScript_0 rfl (lv_at hl 0 rfl) ?_
  refine lv_aload_n hx hb dX13_runScript_1 rfl (lv_at hl 0 rfl) ?_
  refine lv_iload_n hx hb dX13_runScript_2 rfl (lv_at hl 1 rfl) ?_
  obtain ⟨_, h29, hf⟩ := ob_some hf
  obtain ⟨x27, h28, hf⟩ := ob_some hf
  refine gg_cVI (As := [.int l1]) hC hw (X13_isLength_M l E D A h28) h29 rfl g_ml_X13_385 hd_X13_isLength (Nat.le_of_ble_eq_true rfl) (Nat.le_of_ble_eq_true rfl) hl.1 rfl (Nat.le_of_ble_eq_true rfl) dX13_runScript_3 (fun H locs cells slots hw => ?_)
  obtain ⟨_, h32, hf⟩ := ob_some hf
  obtain ⟨x30, h31, hf⟩ := ob_some hf
  refine gg_cVI (As := [.int x27]) hC hw (X13_lacks_M l E D A h31) h32 rfl g_ml_X13_88 hd_X13_lacks (Nat.le_of_ble_eq_true rfl) (Nat.le_of_ble_eq_true rfl) hl.1 rfl (Nat.le_of_ble_eq_true rfl) dX13_runScript_6 (fun H locs cells slots hw => ?_)
  refine lv_if_eq (tgt := 14) hx hb dX13_runScript_9 (by decide) (fun c38 => ?_) (fun c38 => ?_)
  · replace hf := (if_pos c38).symm.trans hf
    refine lv_aload_n hx hb dX13_runScript_14 rfl (lv_at hl 0 rfl) ?_
    refine lv_iconst (v := 0) hx hb dX13_runScript_15 (by decide) ?_
    obtain ⟨σ33, h34, hf⟩ := ob_some hf
    refine p_fl_X13_408 hC hw h34 rfl rfl dX13_runScript_16 (fun H locs hw => ?_)
    refine lv_aload_n hx hb dX13_runScript_19 rfl (lv_at hl 0 rfl) ?_
    refine lv_iload_n hx hb dX13_runScript_20 rfl (lv_at hl 1 rfl) ?_
    obtain ⟨_, h37, hf⟩ := ob_some hf
    obtain ⟨x35, h36, hf⟩ := ob_some hf
    refine gg_cVV (As := [.int l1]) hC hw (X13_startText_M l E D A h36) h37 rfl g_ml_X13_388 hd_X13_startText (Nat.le_of_ble_eq_true rfl) (Nat.le_of_ble_eq_true rfl) hl.1 rfl (Nat.le_of_ble_eq_true rfl) dX13_runScript_21 (fun H locs cells slots hw => ?_)
    exact X13_runScript_24_W hC hQ (gN E) hf hw (lv_sub hl [0] rfl)
  · replace hf := (if_neg c38).symm.trans hf
    refine lv_iconst (v := 0) hx hb dX13_runScript_12 (by decide) ?_
    cases hf
    exact hQ _ _ _ _ _ _ dX13_runScript_13 rfl hw

def X13_runScript_f (E : gE) (l0 : Nat) (l1 : Int32) (σ : gS) : Option (Int32 × gS) := X13_runScript E l0 l1 σ
set_option maxRecDepth 100000 in
theorem X13_runScript_M (l : Launch) (E : gE) (D : va_G) (A : Nat → Prop) {l0 : Nat} {l1 : Int32} {σ : gS} {res : (Int32 × gS)} (hf : X13_runScript_f E l0 l1 σ = some res) : gCI l E D A yX13_runScript cX13_runScript 3 9 195 (some FieldType.int) [.ref l0, .int l1] σ res := by
  refine gg_entI (own := RX13) (nm := "runScript") (ty := FieldType.int) (by decide +kernel) rfl rfl (Nat.le_of_ble_eq_true rfl) rfl ?_
  intro p e R s m args below meth c Q ls hC hw hQ hl
  have hl : lv_has ls 3 [(0, .ref l0), (1, .int l1)] := hl
  exact X13_runScript_W hC hQ hf hw hl

end MM6
