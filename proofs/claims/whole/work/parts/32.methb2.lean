/-! decompiled: X9_takeArguments, X9_readTable, X9_readScript -/
section MB2
variable {p : Program} {l : Launch} {e : Env} {R : Room} {s : State} {m : MethodId} {args : Array Value} {below : List Frame} {meth : Method} {c : Code} {H : Heap} {locs : List Loc} {cells slots : Nat} {Q : State → Prop} {E : gE} {D : va_G} {A : Nat → Prop}
def X9_takeArguments_160 (E : gE) (σ : gS) : Option (Int32 × gS) :=
  some ((1 : Int32), σ)
set_option maxHeartbeats 4000000 in
set_option maxRecDepth 100000 in
theorem X9_takeArguments_160_W {σ : gS} {res : (Int32 × gS)} {ls : Array Slot} (hC : gC E D A p R s m args meth c cX9_takeArguments 2 RX9 "takeArguments" 7 169) (hQ : gQI E D A p l e R s m args below meth c Q cX9_takeArguments FieldType.boolean res) (hf : X9_takeArguments_160 E σ = some res) (hw : gW E D A s σ H locs) (hl : lv_has ls 2 []) : W p l e R s m args below meth c H locs cells slots Q (F0 m 160 ls []) := by
  have hC0 := hC
  obtain ⟨hx, hb, hml, hown, hts, -⟩ := hC0
  unfold X9_takeArguments_160 at hf
  refine lv_iconst (v := 1) hx hb dX9_takeArguments_160 (by decide) ?_
  cases hf
  exact hQ _ _ _ _ _ _ dX9_takeArguments_161 gz1 hw

def X9_takeArguments_100 (E : gE) (σ : gS) : Option (Int32 × gS) :=
  some ((0 : Int32), σ)
set_option maxHeartbeats 4000000 in
set_option maxRecDepth 100000 in
theorem X9_takeArguments_100_W {σ : gS} {res : (Int32 × gS)} {ls : Array Slot} (hC : gC E D A p R s m args meth c cX9_takeArguments 2 RX9 "takeArguments" 7 169) (hQ : gQI E D A p l e R s m args below meth c Q cX9_takeArguments FieldType.boolean res) (hf : X9_takeArguments_100 E σ = some res) (hw : gW E D A s σ H locs) (hl : lv_has ls 2 []) : W p l e R s m args below meth c H locs cells slots Q (F0 m 100 ls []) := by
  have hC0 := hC
  obtain ⟨hx, hb, hml, hown, hts, -⟩ := hC0
  unfold X9_takeArguments_100 at hf
  refine lv_iconst (v := 0) hx hb dX9_takeArguments_100 (by decide) ?_
  cases hf
  exact hQ _ _ _ _ _ _ dX9_takeArguments_101 gz0 hw

def X9_takeArguments_144 (E : gE) (σ : gS) : Option (Int32 × gS) :=
  some ((0 : Int32), σ)
set_option maxHeartbeats 4000000 in
set_option maxRecDepth 100000 in
theorem X9_takeArguments_144_W {σ : gS} {res : (Int32 × gS)} {ls : Array Slot} (hC : gC E D A p R s m args meth c cX9_takeArguments 2 RX9 "takeArguments" 7 169) (hQ : gQI E D A p l e R s m args below meth c Q cX9_takeArguments FieldType.boolean res) (hf : X9_takeArguments_144 E σ = some res) (hw : gW E D A s σ H locs) (hl : lv_has ls 2 []) : W p l e R s m args below meth c H locs cells slots Q (F0 m 144 ls []) := by
  have hC0 := hC
  obtain ⟨hx, hb, hml, hown, hts, -⟩ := hC0
  unfold X9_takeArguments_144 at hf
  refine lv_iconst (v := 0) hx hb dX9_takeArguments_144 (by decide) ?_
  cases hf
  exact hQ _ _ _ _ _ _ dX9_takeArguments_145 gz0 hw

def X9_takeArguments_124 (E : gE) (l0 : Nat) (l1 : Nat) (σ : gS) : Option (Int32 × gS) :=
  ob (gcl σ l0 7) fun _ =>
  ob (X9_takeColumn_f E l0 l1 σ) fun x1 =>
  if x1.1 = 0 then
    X9_takeArguments_144 E x1.2
  else
    ob (gcl x1.2 l0 7) fun _ =>
    ob (X9_takeValue_f E l0 l1 x1.2) fun x4 =>
    if x4.1 = 0 then
      X9_takeArguments_144 E x4.2
    else
      some ((1 : Int32), x4.2)
set_option maxHeartbeats 4000000 in
set_option maxRecDepth 100000 in
theorem X9_takeArguments_124_W {σ : gS} {l0 : Nat} {l1 : Nat} {res : (Int32 × gS)} {ls : Array Slot} (hC : gC E D A p R s m args meth c cX9_takeArguments 2 RX9 "takeArguments" 7 169) (hQ : gQI E D A p l e R s m args below meth c Q cX9_takeArguments FieldType.boolean res) (hf : X9_takeArguments_124 E l0 l1 σ = some res) (hw : gW E D A s σ H locs) (hl : lv_has ls 2 [(0, .ref l0), (1, .ref l1)]) : W p l e R s m args below meth c H locs cells slots Q (F0 m 124 ls []) := by
  have hC0 := hC
  obtain ⟨hx, hb, hml, hown, hts, -⟩ := hC0
  unfold X9_takeArguments_124 at hf
  refine lv_aload_n hx hb dX9_takeArguments_124 rfl (lv_at hl 0 rfl) ?_
  refine lv_aload_n hx hb dX9_takeArguments_125 rfl (lv_at hl 1 rfl) ?_
  obtain ⟨_, h3, hf⟩ := ob_some hf
  obtain ⟨x1, h2, hf⟩ := ob_some hf
  refine gg_cVI (As := [.ref l1]) hC hw (X9_takeColumn_M l E D A h2) h3 rfl g_ml_X9_145 hd_X9_takeColumn (Nat.le_of_ble_eq_true rfl) (Nat.le_of_ble_eq_true rfl) hl.1 rfl (Nat.le_of_ble_eq_true rfl) dX9_takeArguments_126 (fun H locs cells slots hw => ?_)
  refine lv_if_eq (tgt := 144) hx hb dX9_takeArguments_129 (by decide) (fun c8 => ?_) (fun c8 => ?_)
  · replace hf := (if_pos c8).symm.trans hf
    exact X9_takeArguments_144_W hC hQ hf hw (lv_sub hl [] rfl)
  · replace hf := (if_neg c8).symm.trans hf
    refine lv_aload_n hx hb dX9_takeArguments_132 rfl (lv_at hl 0 rfl) ?_
    refine lv_aload_n hx hb dX9_takeArguments_133 rfl (lv_at hl 1 rfl) ?_
    obtain ⟨_, h6, hf⟩ := ob_some hf
    obtain ⟨x4, h5, hf⟩ := ob_some hf
    refine gg_cVI (As := [.ref l1]) hC hw (X9_takeValue_M l E D A h5) h6 rfl g_ml_X9_152 hd_X9_takeValue (Nat.le_of_ble_eq_true rfl) (Nat.le_of_ble_eq_true rfl) hl.1 rfl (Nat.le_of_ble_eq_true rfl) dX9_takeArguments_134 (fun H locs cells slots hw => ?_)
    refine lv_if_eq (tgt := 144) hx hb dX9_takeArguments_137 (by decide) (fun c7 => ?_) (fun c7 => ?_)
    · replace hf := (if_pos c7).symm.trans hf
      exact X9_takeArguments_144_W hC hQ hf hw (lv_sub hl [] rfl)
    · replace hf := (if_neg c7).symm.trans hf
      refine lv_iconst (v := 1) hx hb dX9_takeArguments_140 (by decide) ?_
      refine lv_goto (tgt := 145) hx hb dX9_takeArguments_141 (by decide) ?_
      cases hf
      exact hQ _ _ _ _ _ _ dX9_takeArguments_145 gz1 hw

def X9_takeArguments_122 (E : gE) (σ : gS) : Option (Int32 × gS) :=
  some ((0 : Int32), σ)
set_option maxHeartbeats 4000000 in
set_option maxRecDepth 100000 in
theorem X9_takeArguments_122_W {σ : gS} {res : (Int32 × gS)} {ls : Array Slot} (hC : gC E D A p R s m args meth c cX9_takeArguments 2 RX9 "takeArguments" 7 169) (hQ : gQI E D A p l e R s m args below meth c Q cX9_takeArguments FieldType.boolean res) (hf : X9_takeArguments_122 E σ = some res) (hw : gW E D A s σ H locs) (hl : lv_has ls 2 []) : W p l e R s m args below meth c H locs cells slots Q (F0 m 122 ls []) := by
  have hC0 := hC
  obtain ⟨hx, hb, hml, hown, hts, -⟩ := hC0
  unfold X9_takeArguments_122 at hf
  refine lv_iconst (v := 0) hx hb dX9_takeArguments_122 (by decide) ?_
  cases hf
  exact hQ _ _ _ _ _ _ dX9_takeArguments_123 gz0 hw

def X9_takeArguments (E : gE) (l0 : Nat) (l1 : Nat) (σ : gS) : Option (Int32 × gS) :=
  ob (gfR σ l1 1 0) fun x9 =>
  ob (gxc E x9 101) fun _ =>
  ob (Jx29ce0_ordinal_8abf5_f E σ x9) fun x11 =>
  ob (graI E 0 σ (gst E 42) x11) fun x14 =>
  if x14 = (1 : Int32) then
    ob (gfR σ l1 1 5) fun x17 =>
    ob (gcl σ l0 7) fun _ =>
    ob (X9_takeRow_f E l0 x17 (0 : Int32) σ) fun x19 =>
    ob (gz x19.1) fun _ =>
    some (x19.1, x19.2)
  else
    if x14 = (2 : Int32) then
      ob (gcl σ l0 7) fun _ =>
      ob (X9_takeColumn_f E l0 l1 σ) fun x24 =>
      if x24.1 = 0 then
        X9_takeArguments_100 E x24.2
      else
        ob (gcl x24.2 l0 7) fun _ =>
        ob (X9_takePlace_f E l0 l1 (60 : Int32) x24.2) fun x27 =>
        if x27.1 = 0 then
          X9_takeArguments_100 E x27.2
        else
          ob (gcl x27.2 l0 7) fun _ =>
          ob (X9_takeValue_f E l0 l1 x27.2) fun x30 =>
          if x30.1 = 0 then
            X9_takeArguments_100 E x30.2
          else
            some ((1 : Int32), x30.2)
    else
      if x14 = (3 : Int32) then
        X9_takeArguments_124 E l0 l1 σ
      else
        if x14 = (4 : Int32) then
          X9_takeArguments_124 E l0 l1 σ
        else
          if x14 = (5 : Int32) then
            X9_takeArguments_124 E l0 l1 σ
          else
            if x14 = (6 : Int32) then
              ob (gcl σ l0 7) fun _ =>
              ob (X9_takePlace_f E l0 l1 (8 : Int32) σ) fun x40 =>
              ob (gz x40.1) fun _ =>
              some (x40.1, x40.2)
            else
              if x14 = (7 : Int32) then
                ob (gcl σ l0 7) fun _ =>
                ob (X9_takeColumn_f E l0 l1 σ) fun x45 =>
                if x45.1 = 0 then
                  X9_takeArguments_122 E x45.2
                else
                  ob (gcl x45.2 l0 7) fun _ =>
                  ob (X9_takeDirection_f E l0 l1 x45.2) fun x48 =>
                  if x48.1 = 0 then
                    X9_takeArguments_122 E x48.2
                  else
                    some ((1 : Int32), x48.2)
              else
                if x14 = (8 : Int32) then
                  X9_takeArguments_160 E σ
                else
                  if x14 = (9 : Int32) then
                    ob (gcl σ l0 7) fun _ =>
                    ob (X9_takeColumn_f E l0 l1 σ) fun x55 =>
                    ob (gz x55.1) fun _ =>
                    some (x55.1, x55.2)
                  else
                    X9_takeArguments_160 E σ
set_option maxHeartbeats 4000000 in
set_option maxRecDepth 100000 in
theorem X9_takeArguments_W {σ : gS} {l0 : Nat} {l1 : Nat} {res : (Int32 × gS)} {ls : Array Slot} (hC : gC E D A p R s m args meth c cX9_takeArguments 2 RX9 "takeArguments" 7 169) (hQ : gQI E D A p l e R s m args below meth c Q cX9_takeArguments FieldType.boolean res) (hf : X9_takeArguments E l0 l1 σ = some res) (hw : gW E D A s σ H locs) (hl : lv_has ls 2 [(0, .ref l0), (1, .ref l1)]) : W p l e R s m args below meth c H locs cells slots Q (F0 m 0 ls []) := by
  have hC0 := hC
  obtain ⟨hx, hb, hml, hown, hts, -⟩ := hC0
  unfold X9_takeArguments at hf
  refine gg_gets hC hw (k := 2) rfl fl_X9_136 dX9_takeArguments_0 ?_
  refine lv_aload_n hx hb dX9_takeArguments_3 rfl (lv_at hl 1 rfl) ?_
  obtain ⟨x9, h10, hf⟩ := ob_some hf
  refine rR_fn_X9_116 hC hw h10 dX9_takeArguments_4 ?_
  obtain ⟨_, h13, hf⟩ := ob_some hf
  obtain ⟨x11, h12, hf⟩ := ob_some hf
  refine gg_cUI (As := []) hC hw (Jx29ce0_ordinal_8abf5_M l E D A h12) h13 rfl uo_X9_141 rfl hd_ord (Nat.le_of_ble_eq_true rfl) (Nat.le_of_ble_eq_true rfl) hl.1 rfl (Nat.le_of_ble_eq_true rfl) dX9_takeArguments_7 (fun H locs cells slots hw => ?_)
  obtain ⟨x14, h15, hf⟩ := ob_some hf
  refine gg_aldI hC hw h15 dX9_takeArguments_10 ?_
  by_cases c16 : x14 = (1 : Int32)
  · replace hf := (if_pos c16).symm.trans hf
    refine lv_tableIn (off := 49) (tgt := 60) hx hb dX9_takeArguments_11 (by rw [c16]; decide) (by rw [c16]; decide) (by rw [c16]; rfl) (by decide) ?_
    refine lv_aload_n hx hb dX9_takeArguments_60 rfl (lv_at hl 0 rfl) ?_
    refine lv_aload_n hx hb dX9_takeArguments_61 rfl (lv_at hl 1 rfl) ?_
    obtain ⟨x17, h18, hf⟩ := ob_some hf
    refine rR_fn_X9_144 hC hw h18 dX9_takeArguments_62 ?_
    refine lv_iconst (v := 0) hx hb dX9_takeArguments_65 (by decide) ?_
    obtain ⟨_, h21, hf⟩ := ob_some hf
    obtain ⟨x19, h20, hf⟩ := ob_some hf
    refine gg_cVI (As := [.ref x17, .int (0 : Int32)]) hC hw (X9_takeRow_M l E D A h20) h21 rfl g_ml_X9_58 hd_X9_takeRow (Nat.le_of_ble_eq_true rfl) (Nat.le_of_ble_eq_true rfl) hl.1 rfl (Nat.le_of_ble_eq_true rfl) dX9_takeArguments_66 (fun H locs cells slots hw => ?_)
    obtain ⟨_, h22, hf⟩ := ob_some hf
    cases hf
    exact hQ _ _ _ _ _ _ dX9_takeArguments_69 (gz_some h22) hw
  · replace hf := (if_neg c16).symm.trans hf
    by_cases c23 : x14 = (2 : Int32)
    · replace hf := (if_pos c23).symm.trans hf
      refine lv_tableIn (off := 59) (tgt := 70) hx hb dX9_takeArguments_11 (by rw [c23]; decide) (by rw [c23]; decide) (by rw [c23]; rfl) (by decide) ?_
      refine lv_aload_n hx hb dX9_takeArguments_70 rfl (lv_at hl 0 rfl) ?_
      refine lv_aload_n hx hb dX9_takeArguments_71 rfl (lv_at hl 1 rfl) ?_
      obtain ⟨_, h26, hf⟩ := ob_some hf
      obtain ⟨x24, h25, hf⟩ := ob_some hf
      refine gg_cVI (As := [.ref l1]) hC hw (X9_takeColumn_M l E D A h25) h26 rfl g_ml_X9_145 hd_X9_takeColumn (Nat.le_of_ble_eq_true rfl) (Nat.le_of_ble_eq_true rfl) hl.1 rfl (Nat.le_of_ble_eq_true rfl) dX9_takeArguments_72 (fun H locs cells slots hw => ?_)
      refine lv_if_eq (tgt := 100) hx hb dX9_takeArguments_75 (by decide) (fun c35 => ?_) (fun c35 => ?_)
      · replace hf := (if_pos c35).symm.trans hf
        exact X9_takeArguments_100_W hC hQ hf hw (lv_sub hl [] rfl)
      · replace hf := (if_neg c35).symm.trans hf
        refine lv_aload_n hx hb dX9_takeArguments_78 rfl (lv_at hl 0 rfl) ?_
        refine lv_aload_n hx hb dX9_takeArguments_79 rfl (lv_at hl 1 rfl) ?_
        refine lv_bipush (v := 60) hx hb dX9_takeArguments_80 (by decide) ?_
        obtain ⟨_, h29, hf⟩ := ob_some hf
        obtain ⟨x27, h28, hf⟩ := ob_some hf
        refine gg_cVI (As := [.ref l1, .int (60 : Int32)]) hC hw (X9_takePlace_M l E D A h28) h29 rfl g_ml_X9_148 hd_X9_takePlace (Nat.le_of_ble_eq_true rfl) (Nat.le_of_ble_eq_true rfl) hl.1 rfl (Nat.le_of_ble_eq_true rfl) dX9_takeArguments_82 (fun H locs cells slots hw => ?_)
        refine lv_if_eq (tgt := 100) hx hb dX9_takeArguments_85 (by decide) (fun c34 => ?_) (fun c34 => ?_)
        · replace hf := (if_pos c34).symm.trans hf
          exact X9_takeArguments_100_W hC hQ hf hw (lv_sub hl [] rfl)
        · replace hf := (if_neg c34).symm.trans hf
          refine lv_aload_n hx hb dX9_takeArguments_88 rfl (lv_at hl 0 rfl) ?_
          refine lv_aload_n hx hb dX9_takeArguments_89 rfl (lv_at hl 1 rfl) ?_
          obtain ⟨_, h32, hf⟩ := ob_some hf
          obtain ⟨x30, h31, hf⟩ := ob_some hf
          refine gg_cVI (As := [.ref l1]) hC hw (X9_takeValue_M l E D A h31) h32 rfl g_ml_X9_152 hd_X9_takeValue (Nat.le_of_ble_eq_true rfl) (Nat.le_of_ble_eq_true rfl) hl.1 rfl (Nat.le_of_ble_eq_true rfl) dX9_takeArguments_90 (fun H locs cells slots hw => ?_)
          refine lv_if_eq (tgt := 100) hx hb dX9_takeArguments_93 (by decide) (fun c33 => ?_) (fun c33 => ?_)
          · replace hf := (if_pos c33).symm.trans hf
            exact X9_takeArguments_100_W hC hQ hf hw (lv_sub hl [] rfl)
          · replace hf := (if_neg c33).symm.trans hf
            refine lv_iconst (v := 1) hx hb dX9_takeArguments_96 (by decide) ?_
            refine lv_goto (tgt := 101) hx hb dX9_takeArguments_97 (by decide) ?_
            cases hf
            exact hQ _ _ _ _ _ _ dX9_takeArguments_101 gz1 hw
    · replace hf := (if_neg c23).symm.trans hf
      by_cases c36 : x14 = (3 : Int32)
      · replace hf := (if_pos c36).symm.trans hf
        refine lv_tableIn (off := 113) (tgt := 124) hx hb dX9_takeArguments_11 (by rw [c36]; decide) (by rw [c36]; decide) (by rw [c36]; rfl) (by decide) ?_
        exact X9_takeArguments_124_W hC hQ hf hw (lv_sub hl [0, 1] rfl)
      · replace hf := (if_neg c36).symm.trans hf
        by_cases c37 : x14 = (4 : Int32)
        · replace hf := (if_pos c37).symm.trans hf
          refine lv_tableIn (off := 113) (tgt := 124) hx hb dX9_takeArguments_11 (by rw [c37]; decide) (by rw [c37]; decide) (by rw [c37]; rfl) (by decide) ?_
          exact X9_takeArguments_124_W hC hQ hf hw (lv_sub hl [0, 1] rfl)
        · replace hf := (if_neg c37).symm.trans hf
          by_cases c38 : x14 = (5 : Int32)
          · replace hf := (if_pos c38).symm.trans hf
            refine lv_tableIn (off := 113) (tgt := 124) hx hb dX9_takeArguments_11 (by rw [c38]; decide) (by rw [c38]; decide) (by rw [c38]; rfl) (by decide) ?_
            exact X9_takeArguments_124_W hC hQ hf hw (lv_sub hl [0, 1] rfl)
          · replace hf := (if_neg c38).symm.trans hf
            by_cases c39 : x14 = (6 : Int32)
            · replace hf := (if_pos c39).symm.trans hf
              refine lv_tableIn (off := 135) (tgt := 146) hx hb dX9_takeArguments_11 (by rw [c39]; decide) (by rw [c39]; decide) (by rw [c39]; rfl) (by decide) ?_
              refine lv_aload_n hx hb dX9_takeArguments_146 rfl (lv_at hl 0 rfl) ?_
              refine lv_aload_n hx hb dX9_takeArguments_147 rfl (lv_at hl 1 rfl) ?_
              refine lv_bipush (v := 8) hx hb dX9_takeArguments_148 (by decide) ?_
              obtain ⟨_, h42, hf⟩ := ob_some hf
              obtain ⟨x40, h41, hf⟩ := ob_some hf
              refine gg_cVI (As := [.ref l1, .int (8 : Int32)]) hC hw (X9_takePlace_M l E D A h41) h42 rfl g_ml_X9_148 hd_X9_takePlace (Nat.le_of_ble_eq_true rfl) (Nat.le_of_ble_eq_true rfl) hl.1 rfl (Nat.le_of_ble_eq_true rfl) dX9_takeArguments_150 (fun H locs cells slots hw => ?_)
              obtain ⟨_, h43, hf⟩ := ob_some hf
              cases hf
              exact hQ _ _ _ _ _ _ dX9_takeArguments_153 (gz_some h43) hw
            · replace hf := (if_neg c39).symm.trans hf
              by_cases c44 : x14 = (7 : Int32)
              · replace hf := (if_pos c44).symm.trans hf
                refine lv_tableIn (off := 91) (tgt := 102) hx hb dX9_takeArguments_11 (by rw [c44]; decide) (by rw [c44]; decide) (by rw [c44]; rfl) (by decide) ?_
                refine lv_aload_n hx hb dX9_takeArguments_102 rfl (lv_at hl 0 rfl) ?_
                refine lv_aload_n hx hb dX9_takeArguments_103 rfl (lv_at hl 1 rfl) ?_
                obtain ⟨_, h47, hf⟩ := ob_some hf
                obtain ⟨x45, h46, hf⟩ := ob_some hf
                refine gg_cVI (As := [.ref l1]) hC hw (X9_takeColumn_M l E D A h46) h47 rfl g_ml_X9_145 hd_X9_takeColumn (Nat.le_of_ble_eq_true rfl) (Nat.le_of_ble_eq_true rfl) hl.1 rfl (Nat.le_of_ble_eq_true rfl) dX9_takeArguments_104 (fun H locs cells slots hw => ?_)
                refine lv_if_eq (tgt := 122) hx hb dX9_takeArguments_107 (by decide) (fun c52 => ?_) (fun c52 => ?_)
                · replace hf := (if_pos c52).symm.trans hf
                  exact X9_takeArguments_122_W hC hQ hf hw (lv_sub hl [] rfl)
                · replace hf := (if_neg c52).symm.trans hf
                  refine lv_aload_n hx hb dX9_takeArguments_110 rfl (lv_at hl 0 rfl) ?_
                  refine lv_aload_n hx hb dX9_takeArguments_111 rfl (lv_at hl 1 rfl) ?_
                  obtain ⟨_, h50, hf⟩ := ob_some hf
                  obtain ⟨x48, h49, hf⟩ := ob_some hf
                  refine gg_cVI (As := [.ref l1]) hC hw (X9_takeDirection_M l E D A h49) h50 rfl g_ml_X9_155 hd_X9_takeDirection (Nat.le_of_ble_eq_true rfl) (Nat.le_of_ble_eq_true rfl) hl.1 rfl (Nat.le_of_ble_eq_true rfl) dX9_takeArguments_112 (fun H locs cells slots hw => ?_)
                  refine lv_if_eq (tgt := 122) hx hb dX9_takeArguments_115 (by decide) (fun c51 => ?_) (fun c51 => ?_)
                  · replace hf := (if_pos c51).symm.trans hf
                    exact X9_takeArguments_122_W hC hQ hf hw (lv_sub hl [] rfl)
                  · replace hf := (if_neg c51).symm.trans hf
                    refine lv_iconst (v := 1) hx hb dX9_takeArguments_118 (by decide) ?_
                    refine lv_goto (tgt := 123) hx hb dX9_takeArguments_119 (by decide) ?_
                    cases hf
                    exact hQ _ _ _ _ _ _ dX9_takeArguments_123 gz1 hw
              · replace hf := (if_neg c44).symm.trans hf
                by_cases c53 : x14 = (8 : Int32)
                · replace hf := (if_pos c53).symm.trans hf
                  refine lv_tableIn (off := 149) (tgt := 160) hx hb dX9_takeArguments_11 (by rw [c53]; decide) (by rw [c53]; decide) (by rw [c53]; rfl) (by decide) ?_
                  exact X9_takeArguments_160_W hC hQ hf hw (lv_sub hl [] rfl)
                · replace hf := (if_neg c53).symm.trans hf
                  by_cases c54 : x14 = (9 : Int32)
                  · replace hf := (if_pos c54).symm.trans hf
                    refine lv_tableIn (off := 143) (tgt := 154) hx hb dX9_takeArguments_11 (by rw [c54]; decide) (by rw [c54]; decide) (by rw [c54]; rfl) (by decide) ?_
                    refine lv_aload_n hx hb dX9_takeArguments_154 rfl (lv_at hl 0 rfl) ?_
                    refine lv_aload_n hx hb dX9_takeArguments_155 rfl (lv_at hl 1 rfl) ?_
                    obtain ⟨_, h57, hf⟩ := ob_some hf
                    obtain ⟨x55, h56, hf⟩ := ob_some hf
                    refine gg_cVI (As := [.ref l1]) hC hw (X9_takeColumn_M l E D A h56) h57 rfl g_ml_X9_145 hd_X9_takeColumn (Nat.le_of_ble_eq_true rfl) (Nat.le_of_ble_eq_true rfl) hl.1 rfl (Nat.le_of_ble_eq_true rfl) dX9_takeArguments_156 (fun H locs cells slots hw => ?_)
                    obtain ⟨_, h58, hf⟩ := ob_some hf
                    cases hf
                    exact hQ _ _ _ _ _ _ dX9_takeArguments_159 (gz_some h58) hw
                  · replace hf := (if_neg c54).symm.trans hf
                    refine lv_tableOut (tgt := 160) hx hb dX9_takeArguments_11 (gtab [1, 2, 3, 4, 5, 6, 7, 8, 9] (by decide) (by decide) (gvc c16 (gvc c23 (gvc c36 (gvc c37 (gvc c38 (gvc c39 (gvc c44 (gvc c53 (gvc c54 gvn)))))))))) (by decide) ?_
                    exact X9_takeArguments_160_W hC hQ hf hw (lv_sub hl [] rfl)

def X9_takeArguments_f (E : gE) (l0 : Nat) (l1 : Nat) (σ : gS) : Option (Int32 × gS) := X9_takeArguments E l0 l1 σ
set_option maxRecDepth 100000 in
theorem X9_takeArguments_M (l : Launch) (E : gE) (D : va_G) (A : Nat → Prop) {l0 : Nat} {l1 : Nat} {σ : gS} {res : (Int32 × gS)} (hf : X9_takeArguments_f E l0 l1 σ = some res) : gCI l E D A yX9_takeArguments cX9_takeArguments 2 7 169 (some FieldType.boolean) [.ref l0, .ref l1] σ res := by
  refine gg_entI (own := RX9) (nm := "takeArguments") (ty := FieldType.boolean) (by decide +kernel) rfl rfl (Nat.le_of_ble_eq_true rfl) rfl ?_
  intro p e R s m args below meth c Q ls hC hw hQ hl
  have hl : lv_has ls 2 [(0, .ref l0), (1, .ref l1)] := hl
  exact X9_takeArguments_W hC hQ hf hw hl

def X9_readTable_47 (E : gE) (σ : gS) : Option (Int32 × gS) :=
  some ((1 : Int32), σ)
set_option maxHeartbeats 4000000 in
set_option maxRecDepth 100000 in
theorem X9_readTable_47_W {σ : gS} {res : (Int32 × gS)} {ls : Array Slot} (hC : gC E D A p R s m args meth c cX9_readTable 3 RX9 "readTable" 8 189) (hQ : gQI E D A p l e R s m args below meth c Q cX9_readTable FieldType.boolean res) (hf : X9_readTable_47 E σ = some res) (hw : gW E D A s σ H locs) (hl : lv_has ls 3 []) : W p l e R s m args below meth c H locs cells slots Q (F0 m 47 ls []) := by
  have hC0 := hC
  obtain ⟨hx, hb, hml, hown, hts, -⟩ := hC0
  unfold X9_readTable_47 at hf
  refine lv_iconst (v := 1) hx hb dX9_readTable_47 (by decide) ?_
  cases hf
  exact hQ _ _ _ _ _ _ dX9_readTable_48 gz1 hw

def X9_readTable_16_s (E : gE) (r_16 : Nat → Int32 → gS → Option (Int32 × gS)) (l0 : Nat) (l2 : Int32) (σ : gS) : Option (Int32 × gS) :=
  if (60 : Int32) < l2 then
    X9_readTable_47 E σ
  else
    ob (gfR σ l0 7 0) fun x1 =>
    ob (gcl σ x1 5) fun _ =>
    ob (X6_isAtEnd_f E σ x1) fun x3 =>
    if x3 = 0 then
      ob (gcl σ l0 7) fun _ =>
      ob (X9_takeTableRow_f E l0 σ) fun x6 =>
      if x6.1 = 0 then
        some ((0 : Int32), x6.2)
      else
        r_16 l0 (l2 + 1) x6.2
    else
      X9_readTable_47 E σ
set_option maxHeartbeats 4000000 in
set_option maxRecDepth 100000 in
theorem X9_readTable_16_s_W {σ : gS} {l0 : Nat} {l2 : Int32} {res : (Int32 × gS)} {ls : Array Slot} (hC : gC E D A p R s m args meth c cX9_readTable 3 RX9 "readTable" 8 189) (hQ : gQI E D A p l e R s m args below meth c Q cX9_readTable FieldType.boolean res) {r_16 : Nat → Int32 → gS → Option (Int32 × gS)} (h_16 : ∀ {l0 : Nat} {l2 : Int32} {σ : gS} {H : Heap} {locs : List Loc} {cells slots : Nat} {ls : Array Slot}, r_16 l0 l2 σ = some res → gW E D A s σ H locs → lv_has ls 3 [(0, .ref l0), (2, .int l2)] → W p l e R s m args below meth c H locs cells slots Q (F0 m 16 ls [])) (hf : X9_readTable_16_s E r_16 l0 l2 σ = some res) (hw : gW E D A s σ H locs) (hl : lv_has ls 3 [(0, .ref l0), (2, .int l2)]) : W p l e R s m args below meth c H locs cells slots Q (F0 m 16 ls []) := by
  have hC0 := hC
  obtain ⟨hx, hb, hml, hown, hts, -⟩ := hC0
  unfold X9_readTable_16_s at hf
  refine lv_iload_n hx hb dX9_readTable_16 rfl (lv_at hl 1 rfl) ?_
  refine lv_bipush (v := 60) hx hb dX9_readTable_17 (by decide) ?_
  refine lv_icmp_gt (tgt := 47) hx hb dX9_readTable_19 (by decide) (fun c11 => ?_) (fun c11 => ?_)
  · replace hf := (if_pos c11).symm.trans hf
    exact X9_readTable_47_W hC hQ hf hw (lv_sub hl [] rfl)
  · replace hf := (if_neg c11).symm.trans hf
    refine lv_aload_n hx hb dX9_readTable_22 rfl (lv_at hl 0 rfl) ?_
    obtain ⟨x1, h2, hf⟩ := ob_some hf
    refine rR_fl_X9_25 hC hw h2 dX9_readTable_23 ?_
    obtain ⟨_, h5, hf⟩ := ob_some hf
    obtain ⟨x3, h4, hf⟩ := ob_some hf
    refine gg_cVI (As := []) hC hw (X6_isAtEnd_M l E D A h4) h5 rfl g_ml_X9_50 hd_X6_isAtEnd (Nat.le_of_ble_eq_true rfl) (Nat.le_of_ble_eq_true rfl) hl.1 rfl (Nat.le_of_ble_eq_true rfl) dX9_readTable_26 (fun H locs cells slots hw => ?_)
    refine lv_if_ne (tgt := 47) hx hb dX9_readTable_29 (by decide) (fun c10 => ?_) (fun c10 => ?_)
    · replace hf := (if_neg c10).symm.trans hf
      exact X9_readTable_47_W hC hQ hf hw (lv_sub hl [] rfl)
    · replace hf := (if_pos c10).symm.trans hf
      refine lv_aload_n hx hb dX9_readTable_32 rfl (lv_at hl 0 rfl) ?_
      obtain ⟨_, h8, hf⟩ := ob_some hf
      obtain ⟨x6, h7, hf⟩ := ob_some hf
      refine gg_cVI (As := []) hC hw (X9_takeTableRow_M l E D A h7) h8 rfl g_ml_X9_55 hd_X9_takeTableRow (Nat.le_of_ble_eq_true rfl) (Nat.le_of_ble_eq_true rfl) hl.1 rfl (Nat.le_of_ble_eq_true rfl) dX9_readTable_33 (fun H locs cells slots hw => ?_)
      refine lv_if_ne (tgt := 41) hx hb dX9_readTable_36 (by decide) (fun c9 => ?_) (fun c9 => ?_)
      · replace hf := (if_neg c9).symm.trans hf
        refine lv_iinc (v := (l2 + 1)) (lv' := [(2, .int (l2 + 1)), (0, .ref l0)]) hx hb dX9_readTable_41 hl (k := 1) rfl rfl (by decide) rfl (fun ls hl => ?_)
        refine lv_goto (tgt := 16) hx hb dX9_readTable_44 (by decide) ?_
        exact h_16 hf hw (lv_sub hl [1, 0] rfl)
      · replace hf := (if_pos c9).symm.trans hf
        refine lv_iconst (v := 0) hx hb dX9_readTable_39 (by decide) ?_
        cases hf
        exact hQ _ _ _ _ _ _ dX9_readTable_40 gz0 hw
def X9_readTable_16 (E : gE) : Nat → Nat → Int32 → gS → Option (Int32 × gS)
  | 0 => fun _ _ _ => none
  | n + 1 => X9_readTable_16_s E (X9_readTable_16 E n)
theorem X9_readTable_16_W {res : (Int32 × gS)} (hC : gC E D A p R s m args meth c cX9_readTable 3 RX9 "readTable" 8 189) (hQ : gQI E D A p l e R s m args below meth c Q cX9_readTable FieldType.boolean res) : ∀ (n : Nat), ∀ {l0 : Nat} {l2 : Int32} {σ : gS} {H : Heap} {locs : List Loc} {cells slots : Nat} {ls : Array Slot}, X9_readTable_16 E n l0 l2 σ = some res → gW E D A s σ H locs → lv_has ls 3 [(0, .ref l0), (2, .int l2)] → W p l e R s m args below meth c H locs cells slots Q (F0 m 16 ls []) := by
  intro n
  induction n with
  | zero =>
    intros
    rename_i hf _ _
    exact absurd hf (fun h => by cases (show (none : Option (Int32 × gS)) = some res from h))
  | succ n ih =>
    intros
    rename_i hf hw hl
    exact X9_readTable_16_s_W hC hQ ih hf hw hl

def X9_readTable (E : gE) (l0 : Nat) (l1 : Int32) (σ : gS) : Option (Int32 × gS) :=
  ob (gcl σ l0 7) fun _ =>
  ob (X9_start_f E l0 l1 σ) fun x12 =>
  ob (gcl x12 l0 7) fun _ =>
  ob (X9_takeHead_f E l0 x12) fun x15 =>
  if x15.1 = 0 then
    some ((0 : Int32), x15.2)
  else
    X9_readTable_16 E (gN E) l0 (0 : Int32) x15.2
set_option maxHeartbeats 4000000 in
set_option maxRecDepth 100000 in
theorem X9_readTable_W {σ : gS} {l0 : Nat} {l1 : Int32} {res : (Int32 × gS)} {ls : Array Slot} (hC : gC E D A p R s m args meth c cX9_readTable 3 RX9 "readTable" 8 189) (hQ : gQI E D A p l e R s m args below meth c Q cX9_readTable FieldType.boolean res) (hf : X9_readTable E l0 l1 σ = some res) (hw : gW E D A s σ H locs) (hl : lv_has ls 3 [(0, .ref l0), (1, .int l1)]) : W p l e R s m args below meth c H locs cells slots Q (F0 m 0 ls []) := by
  have hC0 := hC
  obtain ⟨hx, hb, hml, hown, hts, -⟩ := hC0
  unfold X9_readTable at hf
  refine lv_aload_n hx hb dX9_readTable_0 rfl (lv_at hl 0 rfl) ?_
  refine lv_iload_n hx hb dX9_readTable_1 rfl (lv_at hl 1 rfl) ?_
  obtain ⟨_, h14, hf⟩ := ob_some hf
  obtain ⟨x12, h13, hf⟩ := ob_some hf
  refine gg_cVV (As := [.int l1]) hC hw (X9_start_M l E D A h13) h14 rfl g_ml_X9_42 hd_X9_start (Nat.le_of_ble_eq_true rfl) (Nat.le_of_ble_eq_true rfl) hl.1 rfl (Nat.le_of_ble_eq_true rfl) dX9_readTable_2 (fun H locs cells slots hw => ?_)
  refine lv_aload_n hx hb dX9_readTable_5 rfl (lv_at hl 0 rfl) ?_
  obtain ⟨_, h17, hf⟩ := ob_some hf
  obtain ⟨x15, h16, hf⟩ := ob_some hf
  refine gg_cVI (As := []) hC hw (X9_takeHead_M l E D A h16) h17 rfl g_ml_X9_46 hd_X9_takeHead (Nat.le_of_ble_eq_true rfl) (Nat.le_of_ble_eq_true rfl) hl.1 rfl (Nat.le_of_ble_eq_true rfl) dX9_readTable_6 (fun H locs cells slots hw => ?_)
  refine lv_if_ne (tgt := 14) hx hb dX9_readTable_9 (by decide) (fun c18 => ?_) (fun c18 => ?_)
  · replace hf := (if_neg c18).symm.trans hf
    refine lv_iconst (v := 0) hx hb dX9_readTable_14 (by decide) ?_
    refine lv_istore_n (lv' := [(2, .int (0 : Int32)), (0, .ref l0), (1, .int l1)]) hx hb dX9_readTable_15 rfl hl (by decide) rfl (fun ls hl => ?_)
    exact X9_readTable_16_W hC hQ (gN E) hf hw (lv_sub hl [1, 0] rfl)
  · replace hf := (if_pos c18).symm.trans hf
    refine lv_iconst (v := 0) hx hb dX9_readTable_12 (by decide) ?_
    cases hf
    exact hQ _ _ _ _ _ _ dX9_readTable_13 gz0 hw

def X9_readTable_f (E : gE) (l0 : Nat) (l1 : Int32) (σ : gS) : Option (Int32 × gS) := X9_readTable E l0 l1 σ
set_option maxRecDepth 100000 in
theorem X9_readTable_M (l : Launch) (E : gE) (D : va_G) (A : Nat → Prop) {l0 : Nat} {l1 : Int32} {σ : gS} {res : (Int32 × gS)} (hf : X9_readTable_f E l0 l1 σ = some res) : gCI l E D A yX9_readTable cX9_readTable 3 8 189 (some FieldType.boolean) [.ref l0, .int l1] σ res := by
  refine gg_entI (own := RX9) (nm := "readTable") (ty := FieldType.boolean) (by decide +kernel) rfl rfl (Nat.le_of_ble_eq_true rfl) rfl ?_
  intro p e R s m args below meth c Q ls hC hw hQ hl
  have hl : lv_has ls 3 [(0, .ref l0), (1, .int l1)] := hl
  exact X9_readTable_W hC hQ hf hw hl

def X9_readScript_58 (E : gE) (σ : gS) : Option (Int32 × gS) :=
  some ((0 : Int32), σ)
set_option maxHeartbeats 4000000 in
set_option maxRecDepth 100000 in
theorem X9_readScript_58_W {σ : gS} {res : (Int32 × gS)} {ls : Array Slot} (hC : gC E D A p R s m args meth c cX9_readScript 4 RX9 "readScript" 8 190) (hQ : gQI E D A p l e R s m args below meth c Q cX9_readScript FieldType.boolean res) (hf : X9_readScript_58 E σ = some res) (hw : gW E D A s σ H locs) (hl : lv_has ls 4 []) : W p l e R s m args below meth c H locs cells slots Q (F0 m 58 ls []) := by
  have hC0 := hC
  obtain ⟨hx, hb, hml, hown, hts, -⟩ := hC0
  unfold X9_readScript_58 at hf
  refine lv_iconst (v := 0) hx hb dX9_readScript_58 (by decide) ?_
  cases hf
  exact hQ _ _ _ _ _ _ dX9_readScript_59 gz0 hw

def X9_readScript_76 (E : gE) (σ : gS) : Option (Int32 × gS) :=
  some ((1 : Int32), σ)
set_option maxHeartbeats 4000000 in
set_option maxRecDepth 100000 in
theorem X9_readScript_76_W {σ : gS} {res : (Int32 × gS)} {ls : Array Slot} (hC : gC E D A p R s m args meth c cX9_readScript 4 RX9 "readScript" 8 190) (hQ : gQI E D A p l e R s m args below meth c Q cX9_readScript FieldType.boolean res) (hf : X9_readScript_76 E σ = some res) (hw : gW E D A s σ H locs) (hl : lv_has ls 4 []) : W p l e R s m args below meth c H locs cells slots Q (F0 m 76 ls []) := by
  have hC0 := hC
  obtain ⟨hx, hb, hml, hown, hts, -⟩ := hC0
  unfold X9_readScript_76 at hf
  refine lv_iconst (v := 1) hx hb dX9_readScript_76 (by decide) ?_
  cases hf
  exact hQ _ _ _ _ _ _ dX9_readScript_77 gz1 hw

def X9_readScript_12_s (E : gE) (r_12 : Nat → Int32 → gS → Option (Int32 × gS)) (l0 : Nat) (l3 : Int32) (σ : gS) : Option (Int32 × gS) :=
  if (20 : Int32) < l3 then
    X9_readScript_76 E σ
  else
    ob (gfR σ l0 7 0) fun x1 =>
    ob (gcl σ x1 5) fun _ =>
    ob (X6_isAtEnd_f E σ x1) fun x3 =>
    if x3 = 0 then
      ob (gcl σ l0 7) fun _ =>
      ob (X9_takeKind_f E l0 σ) fun x6 =>
      if x6.1 = 0 then
        X9_readScript_58 E x6.2
      else
        ob (gfR x6.2 l0 7 7) fun x9 =>
        ob (gfI x6.2 l0 7 8) fun x11 =>
        ob (graR E 6 x6.2 x9 x11) fun x13 =>
        ob (gcl x6.2 l0 7) fun _ =>
        ob (X9_takeArguments_f E l0 x13 x6.2) fun x15 =>
        if x15.1 = 0 then
          X9_readScript_58 E x15.2
        else
          ob (gcl x15.2 l0 7) fun _ =>
          ob (X9_takeSemicolon_f E l0 x15.2) fun x18 =>
          if x18.1 = 0 then
            X9_readScript_58 E x18.2
          else
            ob (gfI x18.2 l0 7 8) fun x21 =>
            ob (gpf E x18.2 l0 7 8 (.int (x21 + (1 : Int32)))) fun σ23 =>
            r_12 l0 (l3 + 1) σ23
    else
      X9_readScript_76 E σ
set_option maxHeartbeats 4000000 in
set_option maxRecDepth 100000 in
theorem X9_readScript_12_s_W {σ : gS} {l0 : Nat} {l3 : Int32} {res : (Int32 × gS)} {ls : Array Slot} (hC : gC E D A p R s m args meth c cX9_readScript 4 RX9 "readScript" 8 190) (hQ : gQI E D A p l e R s m args below meth c Q cX9_readScript FieldType.boolean res) {r_12 : Nat → Int32 → gS → Option (Int32 × gS)} (h_12 : ∀ {l0 : Nat} {l3 : Int32} {σ : gS} {H : Heap} {locs : List Loc} {cells slots : Nat} {ls : Array Slot}, r_12 l0 l3 σ = some res → gW E D A s σ H locs → lv_has ls 4 [(0, .ref l0), (3, .int l3)] → W p l e R s m args below meth c H locs cells slots Q (F0 m 12 ls [])) (hf : X9_readScript_12_s E r_12 l0 l3 σ = some res) (hw : gW E D A s σ H locs) (hl : lv_has ls 4 [(0, .ref l0), (3, .int l3)]) : W p l e R s m args below meth c H locs cells slots Q (F0 m 12 ls []) := by
  have hC0 := hC
  obtain ⟨hx, hb, hml, hown, hts, -⟩ := hC0
  unfold X9_readScript_12_s at hf
  refine lv_iload_n hx hb dX9_readScript_12 rfl (lv_at hl 1 rfl) ?_
  refine lv_bipush (v := 20) hx hb dX9_readScript_13 (by decide) ?_
  refine lv_icmp_gt (tgt := 76) hx hb dX9_readScript_15 (by decide) (fun c29 => ?_) (fun c29 => ?_)
  · replace hf := (if_pos c29).symm.trans hf
    exact X9_readScript_76_W hC hQ hf hw (lv_sub hl [] rfl)
  · replace hf := (if_neg c29).symm.trans hf
    refine lv_aload_n hx hb dX9_readScript_18 rfl (lv_at hl 0 rfl) ?_
    obtain ⟨x1, h2, hf⟩ := ob_some hf
    refine rR_fl_X9_25 hC hw h2 dX9_readScript_19 ?_
    obtain ⟨_, h5, hf⟩ := ob_some hf
    obtain ⟨x3, h4, hf⟩ := ob_some hf
    refine gg_cVI (As := []) hC hw (X6_isAtEnd_M l E D A h4) h5 rfl g_ml_X9_50 hd_X6_isAtEnd (Nat.le_of_ble_eq_true rfl) (Nat.le_of_ble_eq_true rfl) hl.1 rfl (Nat.le_of_ble_eq_true rfl) dX9_readScript_22 (fun H locs cells slots hw => ?_)
    refine lv_if_ne (tgt := 76) hx hb dX9_readScript_25 (by decide) (fun c28 => ?_) (fun c28 => ?_)
    · replace hf := (if_neg c28).symm.trans hf
      exact X9_readScript_76_W hC hQ hf hw (lv_sub hl [] rfl)
    · replace hf := (if_pos c28).symm.trans hf
      refine lv_aload_n hx hb dX9_readScript_28 rfl (lv_at hl 0 rfl) ?_
      obtain ⟨_, h8, hf⟩ := ob_some hf
      obtain ⟨x6, h7, hf⟩ := ob_some hf
      refine gg_cVI (As := []) hC hw (X9_takeKind_M l E D A h7) h8 rfl g_ml_X9_65 hd_X9_takeKind (Nat.le_of_ble_eq_true rfl) (Nat.le_of_ble_eq_true rfl) hl.1 rfl (Nat.le_of_ble_eq_true rfl) dX9_readScript_29 (fun H locs cells slots hw => ?_)
      refine lv_if_eq (tgt := 58) hx hb dX9_readScript_32 (by decide) (fun c27 => ?_) (fun c27 => ?_)
      · replace hf := (if_pos c27).symm.trans hf
        exact X9_readScript_58_W hC hQ hf hw (lv_sub hl [] rfl)
      · replace hf := (if_neg c27).symm.trans hf
        refine lv_aload_n hx hb dX9_readScript_35 rfl (lv_at hl 0 rfl) ?_
        refine lv_aload_n hx hb dX9_readScript_36 rfl (lv_at hl 0 rfl) ?_
        obtain ⟨x9, h10, hf⟩ := ob_some hf
        refine rR_fl_X9_21 hC hw h10 dX9_readScript_37 ?_
        refine lv_aload_n hx hb dX9_readScript_40 rfl (lv_at hl 0 rfl) ?_
        obtain ⟨x11, h12, hf⟩ := ob_some hf
        refine rI_fl_X9_39 hC hw h12 dX9_readScript_41 ?_
        obtain ⟨x13, h14, hf⟩ := ob_some hf
        refine gg_aldR hC hw h14 rfl rfl dX9_readScript_44 ?_
        obtain ⟨_, h17, hf⟩ := ob_some hf
        obtain ⟨x15, h16, hf⟩ := ob_some hf
        refine gg_cVI (As := [.ref x13]) hC hw (X9_takeArguments_M l E D A h16) h17 rfl g_ml_X9_68 hd_X9_takeArguments (Nat.le_of_ble_eq_true rfl) (Nat.le_of_ble_eq_true rfl) hl.1 rfl (Nat.le_of_ble_eq_true rfl) dX9_readScript_45 (fun H locs cells slots hw => ?_)
        refine lv_if_eq (tgt := 58) hx hb dX9_readScript_48 (by decide) (fun c26 => ?_) (fun c26 => ?_)
        · replace hf := (if_pos c26).symm.trans hf
          exact X9_readScript_58_W hC hQ hf hw (lv_sub hl [] rfl)
        · replace hf := (if_neg c26).symm.trans hf
          refine lv_aload_n hx hb dX9_readScript_51 rfl (lv_at hl 0 rfl) ?_
          obtain ⟨_, h20, hf⟩ := ob_some hf
          obtain ⟨x18, h19, hf⟩ := ob_some hf
          refine gg_cVI (As := []) hC hw (X9_takeSemicolon_M l E D A h19) h20 rfl g_ml_X9_72 hd_X9_takeSemicolon (Nat.le_of_ble_eq_true rfl) (Nat.le_of_ble_eq_true rfl) hl.1 rfl (Nat.le_of_ble_eq_true rfl) dX9_readScript_52 (fun H locs cells slots hw => ?_)
          refine lv_if_ne (tgt := 60) hx hb dX9_readScript_55 (by decide) (fun c25 => ?_) (fun c25 => ?_)
          · replace hf := (if_neg c25).symm.trans hf
            refine lv_aload_n hx hb dX9_readScript_60 rfl (lv_at hl 0 rfl) ?_
            refine lv_dup hx hb dX9_readScript_61 rfl ?_
            obtain ⟨x21, h22, hf⟩ := ob_some hf
            refine rI_fl_X9_39 hC hw h22 dX9_readScript_62 ?_
            refine lv_iconst (v := 1) hx hb dX9_readScript_65 (by decide) ?_
            refine lv_iadd hx hb dX9_readScript_66 ?_
            obtain ⟨σ23, h24, hf⟩ := ob_some hf
            refine p_fl_X9_39 hC hw h24 rfl rfl dX9_readScript_67 (fun H locs hw => ?_)
            refine lv_iinc (v := (l3 + 1)) (lv' := [(3, .int (l3 + 1)), (0, .ref l0)]) hx hb dX9_readScript_70 hl (k := 1) rfl rfl (by decide) rfl (fun ls hl => ?_)
            refine lv_goto (tgt := 12) hx hb dX9_readScript_73 (by decide) ?_
            exact h_12 hf hw (lv_sub hl [1, 0] rfl)
          · replace hf := (if_pos c25).symm.trans hf
            exact X9_readScript_58_W hC hQ hf hw (lv_sub hl [] rfl)
def X9_readScript_12 (E : gE) : Nat → Nat → Int32 → gS → Option (Int32 × gS)
  | 0 => fun _ _ _ => none
  | n + 1 => X9_readScript_12_s E (X9_readScript_12 E n)
theorem X9_readScript_12_W {res : (Int32 × gS)} (hC : gC E D A p R s m args meth c cX9_readScript 4 RX9 "readScript" 8 190) (hQ : gQI E D A p l e R s m args below meth c Q cX9_readScript FieldType.boolean res) : ∀ (n : Nat), ∀ {l0 : Nat} {l3 : Int32} {σ : gS} {H : Heap} {locs : List Loc} {cells slots : Nat} {ls : Array Slot}, X9_readScript_12 E n l0 l3 σ = some res → gW E D A s σ H locs → lv_has ls 4 [(0, .ref l0), (3, .int l3)] → W p l e R s m args below meth c H locs cells slots Q (F0 m 12 ls []) := by
  intro n
  induction n with
  | zero =>
    intros
    rename_i hf _ _
    exact absurd hf (fun h => by cases (show (none : Option (Int32 × gS)) = some res from h))
  | succ n ih =>
    intros
    rename_i hf hw hl
    exact X9_readScript_12_s_W hC hQ ih hf hw hl

def X9_readScript (E : gE) (l0 : Nat) (l1 : Int32) (l2 : Int32) (σ : gS) : Option (Int32 × gS) :=
  ob (gcl σ l0 7) fun _ =>
  ob (X9_start_f E l0 l1 σ) fun x30 =>
  ob (gpf E x30 l0 7 4 (.int l2)) fun σ33 =>
  X9_readScript_12 E (gN E) l0 (0 : Int32) σ33
set_option maxHeartbeats 4000000 in
set_option maxRecDepth 100000 in
theorem X9_readScript_W {σ : gS} {l0 : Nat} {l1 : Int32} {l2 : Int32} {res : (Int32 × gS)} {ls : Array Slot} (hC : gC E D A p R s m args meth c cX9_readScript 4 RX9 "readScript" 8 190) (hQ : gQI E D A p l e R s m args below meth c Q cX9_readScript FieldType.boolean res) (hf : X9_readScript E l0 l1 l2 σ = some res) (hw : gW E D A s σ H locs) (hl : lv_has ls 4 [(0, .ref l0), (1, .int l1), (2, .int l2)]) : W p l e R s m args below meth c H locs cells slots Q (F0 m 0 ls []) := by
  have hC0 := hC
  obtain ⟨hx, hb, hml, hown, hts, -⟩ := hC0
  unfold X9_readScript at hf
  refine lv_aload_n hx hb dX9_readScript_0 rfl (lv_at hl 0 rfl) ?_
  refine lv_iload_n hx hb dX9_readScript_1 rfl (lv_at hl 1 rfl) ?_
  obtain ⟨_, h32, hf⟩ := ob_some hf
  obtain ⟨x30, h31, hf⟩ := ob_some hf
  refine gg_cVV (As := [.int l1]) hC hw (X9_start_M l E D A h31) h32 rfl g_ml_X9_42 hd_X9_start (Nat.le_of_ble_eq_true rfl) (Nat.le_of_ble_eq_true rfl) hl.1 rfl (Nat.le_of_ble_eq_true rfl) dX9_readScript_2 (fun H locs cells slots hw => ?_)
  refine lv_aload_n hx hb dX9_readScript_5 rfl (lv_at hl 0 rfl) ?_
  refine lv_iload_n hx hb dX9_readScript_6 rfl (lv_at hl 2 rfl) ?_
  obtain ⟨σ33, h34, hf⟩ := ob_some hf
  refine p_fl_X9_33 hC hw h34 rfl rfl dX9_readScript_7 (fun H locs hw => ?_)
  refine lv_iconst (v := 0) hx hb dX9_readScript_10 (by decide) ?_
  refine lv_istore_n (lv' := [(3, .int (0 : Int32)), (0, .ref l0), (1, .int l1), (2, .int l2)]) hx hb dX9_readScript_11 rfl hl (by decide) rfl (fun ls hl => ?_)
  exact X9_readScript_12_W hC hQ (gN E) hf hw (lv_sub hl [1, 0] rfl)

def X9_readScript_f (E : gE) (l0 : Nat) (l1 : Int32) (l2 : Int32) (σ : gS) : Option (Int32 × gS) := X9_readScript E l0 l1 l2 σ
set_option maxRecDepth 100000 in
theorem X9_readScript_M (l : Launch) (E : gE) (D : va_G) (A : Nat → Prop) {l0 : Nat} {l1 : Int32} {l2 : Int32} {σ : gS} {res : (Int32 × gS)} (hf : X9_readScript_f E l0 l1 l2 σ = some res) : gCI l E D A yX9_readScript cX9_readScript 4 8 190 (some FieldType.boolean) [.ref l0, .int l1, .int l2] σ res := by
  refine gg_entI (own := RX9) (nm := "readScript") (ty := FieldType.boolean) (by decide +kernel) rfl rfl (Nat.le_of_ble_eq_true rfl) rfl ?_
  intro p e R s m args below meth c Q ls hC hw hQ hl
  have hl : lv_has ls 4 [(0, .ref l0), (1, .int l1), (2, .int l2)] := hl
  exact X9_readScript_W hC hQ hf hw hl

end MB2
