/-! decompiled: L_act -/
section MN3
variable {p : Program} {l : Launch} {e : Env} {R : Room} {s : State} {m : MethodId} {args : Array Value} {below : List Frame} {meth : Method} {c : Code} {H : Heap} {locs : List Loc} {cells slots : Nat} {Q : State → Prop} {E : gE} {D : va_G} {A : Nat → Prop}
def L_act_136 (E : gE) (r_115 : Nat → Nat → Int32 → Int32 → Int32 → Nat → Int32 → gS → Option (Int32 × gS)) (l0 : Nat) (l1 : Nat) (l4 : Int32) (l5 : Int32) (l6 : Int32) (l9 : Nat) (l10 : Int32) (s0 : Nat) (s1 : Nat) (σ : gS) : Option (Int32 × gS) :=
  ob (gcl σ s1 11) fun _ =>
  ob (J4_append_15ec4_f E s1 s0 σ) fun x1 =>
  ob (L_most_f E x1.2 ((l4 >>> (l10 &&& 31)) + ((5 : Int32) * l10)) (7 : Int32)) fun x4 =>
  ob (gcl x1.2 x1.1 11) fun _ =>
  ob (J4_append_bf812_f E x1.1 (x4 - (3 : Int32)) x1.2) fun x6 =>
  r_115 l0 l1 l4 l5 l6 l9 (l10 + 1) x6.2
set_option maxHeartbeats 4000000 in
set_option maxRecDepth 100000 in
theorem L_act_136_W {σ : gS} {l0 : Nat} {l1 : Nat} {l4 : Int32} {l5 : Int32} {l6 : Int32} {l9 : Nat} {l10 : Int32} {s0 : Nat} {s1 : Nat} {res : (Int32 × gS)} {ls : Array Slot} (hC : gC E D A p R s m args meth c cL_act 18 RL "act" 10 223) (hQ : gQI E D A p l e R s m args below meth c Q cL_act FieldType.boolean res) (hst : l.stackTraces = false) {r_115 : Nat → Nat → Int32 → Int32 → Int32 → Nat → Int32 → gS → Option (Int32 × gS)} (h_115 : ∀ {l0 : Nat} {l1 : Nat} {l4 : Int32} {l5 : Int32} {l6 : Int32} {l9 : Nat} {l10 : Int32} {σ : gS} {H : Heap} {locs : List Loc} {cells slots : Nat} {ls : Array Slot}, r_115 l0 l1 l4 l5 l6 l9 l10 σ = some res → gW E D A s σ H locs → lv_has ls 18 [(0, .ref l0), (1, .ref l1), (4, .int l4), (5, .int l5), (6, .int l6), (9, .ref l9), (10, .int l10)] → W p l e R s m args below meth c H locs cells slots Q (F0 m 115 ls [])) (hf : L_act_136 E r_115 l0 l1 l4 l5 l6 l9 l10 s0 s1 σ = some res) (hw : gW E D A s σ H locs) (hl : lv_has ls 18 [(0, .ref l0), (1, .ref l1), (4, .int l4), (5, .int l5), (6, .int l6), (9, .ref l9), (10, .int l10)]) : W p l e R s m args below meth c H locs cells slots Q (F0 m 136 ls [.ref s0, .ref s1]) := by
  have hC0 := hC
  obtain ⟨hx, hb, hml, hown, hts, -⟩ := hC0
  unfold L_act_136 at hf
  obtain ⟨_, h3, hf⟩ := ob_some hf
  obtain ⟨x1, h2, hf⟩ := ob_some hf
  refine gg_cVR (As := [.ref s0]) hC hw (J4_append_15ec4_M l E D A h2) h3 rfl g_ml_L_159 hd_J4_append_15ec4 (Nat.le_of_ble_eq_true rfl) (Nat.le_of_ble_eq_true rfl) hl.1 rfl (Nat.le_of_ble_eq_true rfl) dL_act_136 (fun H locs cells slots hw => ?_)
  refine lv_iload hx hb dL_act_139 (lv_at hl 2 rfl) ?_
  refine lv_iload hx hb dL_act_141 (lv_at hl 6 rfl) ?_
  refine lv_ishr hx hb dL_act_143 ?_
  refine lv_iconst (v := 5) hx hb dL_act_144 (by decide) ?_
  refine lv_iload hx hb dL_act_145 (lv_at hl 6 rfl) ?_
  refine lv_imul hx hb dL_act_147 ?_
  refine lv_iadd hx hb dL_act_148 ?_
  refine lv_bipush (v := 7) hx hb dL_act_149 (by decide) ?_
  obtain ⟨x4, h5, hf⟩ := ob_some hf
  refine gg_cSI (As := [.int ((l4 >>> (l10 &&& 31)) + ((5 : Int32) * l10)), .int (7 : Int32)]) hC hw (L_most_M l hst E D A h5) g_ml_L_146 hd_L_most.2 (Nat.le_of_ble_eq_true rfl) (Nat.le_of_ble_eq_true rfl) hl.1 rfl (Nat.le_of_ble_eq_true rfl) dL_act_151 (fun H locs cells slots hw => ?_)
  refine lv_iconst (v := 3) hx hb dL_act_154 (by decide) ?_
  refine lv_isub hx hb dL_act_155 ?_
  obtain ⟨_, h8, hf⟩ := ob_some hf
  obtain ⟨x6, h7, hf⟩ := ob_some hf
  refine gg_cVR (As := [.int (x4 - (3 : Int32))]) hC hw (J4_append_bf812_M l E D A h7) h8 rfl g_ml_L_163 hd_J4_append_bf812 (Nat.le_of_ble_eq_true rfl) (Nat.le_of_ble_eq_true rfl) hl.1 rfl (Nat.le_of_ble_eq_true rfl) dL_act_156 (fun H locs cells slots hw => ?_)
  refine lv_pop hx hb dL_act_159 rfl ?_
  refine lv_iinc (v := (l10 + 1)) (lv' := [(10, .int (l10 + 1)), (0, .ref l0), (1, .ref l1), (4, .int l4), (5, .int l5), (6, .int l6), (9, .ref l9)]) hx hb dL_act_160 hl (k := 6) rfl rfl (by decide) rfl (fun ls hl => ?_)
  refine lv_goto (tgt := 115) hx hb dL_act_163 (by decide) ?_
  exact h_115 hf hw (lv_sub hl [1, 2, 3, 4, 5, 6, 0] rfl)

def L_act_224 (E : gE) (σ : gS) : Option (Int32 × gS) :=
  some ((0 : Int32), σ)
set_option maxHeartbeats 4000000 in
set_option maxRecDepth 100000 in
theorem L_act_224_W {σ : gS} {res : (Int32 × gS)} {ls : Array Slot} (hC : gC E D A p R s m args meth c cL_act 18 RL "act" 10 223) (hQ : gQI E D A p l e R s m args below meth c Q cL_act FieldType.boolean res) (hst : l.stackTraces = false) (hf : L_act_224 E σ = some res) (hw : gW E D A s σ H locs) (hl : lv_has ls 18 []) : W p l e R s m args below meth c H locs cells slots Q (F0 m 224 ls []) := by
  have hC0 := hC
  obtain ⟨hx, hb, hml, hown, hts, -⟩ := hC0
  unfold L_act_224 at hf
  refine lv_iconst (v := 0) hx hb dL_act_224 (by decide) ?_
  cases hf
  exact hQ _ _ _ _ _ _ dL_act_225 gz0 hw

def L_act_115_s (E : gE) (r_115 : Nat → Nat → Int32 → Int32 → Int32 → Nat → Int32 → gS → Option (Int32 × gS)) (l0 : Nat) (l1 : Nat) (l4 : Int32) (l5 : Int32) (l6 : Int32) (l9 : Nat) (l10 : Int32) (σ : gS) : Option (Int32 × gS) :=
  if l5 ≤ l10 then
    ob (gcl σ l9 11) fun _ =>
    ob (J4_toString_0e30d_f E l9 σ) fun x9 =>
    ob (L_say_f E l0 l1 x9.1 x9.2) fun x12 =>
    ob (L_end_f E l0 l1 x12) fun x14 =>
    ob (gcl x14.2 l0 10) fun _ =>
    ob (X12_addRow_f E l0 x14.1 x14.2) fun x16 =>
    gtry x16 (fun _ _ => none) (fun x20 σ19 =>
      if x20 = l6 then
        ob (gcl σ19 l0 10) fun _ =>
        ob (X12_value_f E l0 (0 : Int32) l6 σ19) fun x21 =>
        gtry x21 (fun _ _ => none) (fun x25 σ24 =>
          ob (L_most_f E σ24 l4 (7 : Int32)) fun x26 =>
          if x25 = (x26 - (3 : Int32)) then
            ob (gcl σ24 l0 10) fun _ =>
            ob (X12_rowCount_f E σ24 l0) fun x28 =>
            if x28 = (l6 + (1 : Int32)) then
              some ((1 : Int32), σ24)
            else
              L_act_224 E σ24
          else
            L_act_224 E σ24)
      else
        L_act_224 E σ19)
  else
    if l10 ≤ 0 then
      L_act_136 E r_115 l0 l1 l4 l5 l6 l9 l10 (gst E 2) l9 σ
    else
      L_act_136 E r_115 l0 l1 l4 l5 l6 l9 l10 (gst E 1) l9 σ
set_option maxHeartbeats 4000000 in
set_option maxRecDepth 100000 in
theorem L_act_115_s_W {σ : gS} {l0 : Nat} {l1 : Nat} {l4 : Int32} {l5 : Int32} {l6 : Int32} {l9 : Nat} {l10 : Int32} {res : (Int32 × gS)} {ls : Array Slot} (hC : gC E D A p R s m args meth c cL_act 18 RL "act" 10 223) (hQ : gQI E D A p l e R s m args below meth c Q cL_act FieldType.boolean res) (hst : l.stackTraces = false) {r_115 : Nat → Nat → Int32 → Int32 → Int32 → Nat → Int32 → gS → Option (Int32 × gS)} (h_115 : ∀ {l0 : Nat} {l1 : Nat} {l4 : Int32} {l5 : Int32} {l6 : Int32} {l9 : Nat} {l10 : Int32} {σ : gS} {H : Heap} {locs : List Loc} {cells slots : Nat} {ls : Array Slot}, r_115 l0 l1 l4 l5 l6 l9 l10 σ = some res → gW E D A s σ H locs → lv_has ls 18 [(0, .ref l0), (1, .ref l1), (4, .int l4), (5, .int l5), (6, .int l6), (9, .ref l9), (10, .int l10)] → W p l e R s m args below meth c H locs cells slots Q (F0 m 115 ls [])) (hf : L_act_115_s E r_115 l0 l1 l4 l5 l6 l9 l10 σ = some res) (hw : gW E D A s σ H locs) (hl : lv_has ls 18 [(0, .ref l0), (1, .ref l1), (4, .int l4), (5, .int l5), (6, .int l6), (9, .ref l9), (10, .int l10)]) : W p l e R s m args below meth c H locs cells slots Q (F0 m 115 ls []) := by
  have hC0 := hC
  obtain ⟨hx, hb, hml, hown, hts, -⟩ := hC0
  unfold L_act_115_s at hf
  refine lv_iload hx hb dL_act_115 (lv_at hl 6 rfl) ?_
  refine lv_iload hx hb dL_act_117 (lv_at hl 3 rfl) ?_
  refine lv_icmp_ge (tgt := 166) hx hb dL_act_119 (by decide) (fun c35 => ?_) (fun c35 => ?_)
  · replace hf := (if_pos c35).symm.trans hf
    refine lv_aload_n hx hb dL_act_166 rfl (lv_at hl 0 rfl) ?_
    refine lv_aload_n hx hb dL_act_167 rfl (lv_at hl 1 rfl) ?_
    refine lv_aload hx hb dL_act_168 (lv_at hl 5 rfl) ?_
    obtain ⟨_, h11, hf⟩ := ob_some hf
    obtain ⟨x9, h10, hf⟩ := ob_some hf
    refine gg_cVR (As := []) hC hw (J4_toString_0e30d_M l E D A h10) h11 rfl g_ml_L_166 hd_J4_toString_0e30d (Nat.le_of_ble_eq_true rfl) (Nat.le_of_ble_eq_true rfl) hl.1 rfl (Nat.le_of_ble_eq_true rfl) dL_act_170 (fun H locs cells slots hw => ?_)
    obtain ⟨x12, h13, hf⟩ := ob_some hf
    refine gg_cSV (As := [.ref l0, .ref l1, .ref x9.1]) hC hw (L_say_M l hst E D A h13) g_ml_L_170 hd_L_say.2 (Nat.le_of_ble_eq_true rfl) (Nat.le_of_ble_eq_true rfl) hl.1 rfl (Nat.le_of_ble_eq_true rfl) dL_act_173 (fun H locs cells slots hw => ?_)
    refine lv_aload_n hx hb dL_act_176 rfl (lv_at hl 0 rfl) ?_
    refine lv_aload_n hx hb dL_act_177 rfl (lv_at hl 0 rfl) ?_
    refine lv_aload_n hx hb dL_act_178 rfl (lv_at hl 1 rfl) ?_
    obtain ⟨x14, h15, hf⟩ := ob_some hf
    refine gg_cSI (As := [.ref l0, .ref l1]) hC hw (L_end_M l hst E D A h15) g_ml_L_174 hd_L_end.2 (Nat.le_of_ble_eq_true rfl) (Nat.le_of_ble_eq_true rfl) hl.1 rfl (Nat.le_of_ble_eq_true rfl) dL_act_179 (fun H locs cells slots hw => ?_)
    obtain ⟨_, h18, hf⟩ := ob_some hf
    obtain ⟨x16, h17, hf⟩ := ob_some hf
    refine gg_yVI (As := [.int x14.1]) hC hw (X12_addRow_M l hst E D A h17) h18 rfl g_ml_L_178 hd_X12_addRow (Nat.le_of_ble_eq_true rfl) (Nat.le_of_ble_eq_true rfl) hl.1 rfl (Nat.le_of_ble_eq_true rfl) dL_act_182 (fun k9 σ9 he => ?_) (fun x20 σ19 he H locs cells slots hw => ?_)
    · subst he
      replace hf := gtry_inl.symm.trans hf
      cases hf
    · subst he
      replace hf := gtry_inr.symm.trans hf
      refine lv_iload hx hb dL_act_185 (lv_at hl 4 rfl) ?_
      refine lv_icmp_ne (tgt := 224) hx hb dL_act_187 (by decide) (fun c33 => ?_) (fun c33 => ?_)
      · replace hf := (if_neg c33).symm.trans hf
        exact L_act_224_W hC hQ hst hf hw (lv_sub hl [] rfl)
      · replace hf := (if_pos c33).symm.trans hf
        refine lv_aload_n hx hb dL_act_190 rfl (lv_at hl 0 rfl) ?_
        refine lv_iconst (v := 0) hx hb dL_act_191 (by decide) ?_
        refine lv_iload hx hb dL_act_192 (lv_at hl 4 rfl) ?_
        obtain ⟨_, h23, hf⟩ := ob_some hf
        obtain ⟨x21, h22, hf⟩ := ob_some hf
        refine gg_yVI (As := [.int (0 : Int32), .int l6]) hC hw (X12_value_M l hst E D A h22) h23 rfl g_ml_L_43 hd_X12_value (Nat.le_of_ble_eq_true rfl) (Nat.le_of_ble_eq_true rfl) hl.1 rfl (Nat.le_of_ble_eq_true rfl) dL_act_194 (fun k9 σ9 he => ?_) (fun x25 σ24 he H locs cells slots hw => ?_)
        · subst he
          replace hf := gtry_inl.symm.trans hf
          cases hf
        · subst he
          replace hf := gtry_inr.symm.trans hf
          refine lv_iload hx hb dL_act_197 (lv_at hl 2 rfl) ?_
          refine lv_bipush (v := 7) hx hb dL_act_199 (by decide) ?_
          obtain ⟨x26, h27, hf⟩ := ob_some hf
          refine gg_cSI (As := [.int l4, .int (7 : Int32)]) hC hw (L_most_M l hst E D A h27) g_ml_L_146 hd_L_most.2 (Nat.le_of_ble_eq_true rfl) (Nat.le_of_ble_eq_true rfl) hl.1 rfl (Nat.le_of_ble_eq_true rfl) dL_act_201 (fun H locs cells slots hw => ?_)
          refine lv_iconst (v := 3) hx hb dL_act_204 (by decide) ?_
          refine lv_isub hx hb dL_act_205 ?_
          refine lv_icmp_ne (tgt := 224) hx hb dL_act_206 (by decide) (fun c32 => ?_) (fun c32 => ?_)
          · replace hf := (if_neg c32).symm.trans hf
            exact L_act_224_W hC hQ hst hf hw (lv_sub hl [] rfl)
          · replace hf := (if_pos c32).symm.trans hf
            refine lv_aload_n hx hb dL_act_209 rfl (lv_at hl 0 rfl) ?_
            obtain ⟨_, h30, hf⟩ := ob_some hf
            obtain ⟨x28, h29, hf⟩ := ob_some hf
            refine gg_cVI (As := []) hC hw (X12_rowCount_M l E D A h29) h30 rfl g_ml_L_33 hd_X12_rowCount (Nat.le_of_ble_eq_true rfl) (Nat.le_of_ble_eq_true rfl) hl.1 rfl (Nat.le_of_ble_eq_true rfl) dL_act_210 (fun H locs cells slots hw => ?_)
            refine lv_iload hx hb dL_act_213 (lv_at hl 4 rfl) ?_
            refine lv_iconst (v := 1) hx hb dL_act_215 (by decide) ?_
            refine lv_iadd hx hb dL_act_216 ?_
            refine lv_icmp_ne (tgt := 224) hx hb dL_act_217 (by decide) (fun c31 => ?_) (fun c31 => ?_)
            · replace hf := (if_neg c31).symm.trans hf
              exact L_act_224_W hC hQ hst hf hw (lv_sub hl [] rfl)
            · replace hf := (if_pos c31).symm.trans hf
              refine lv_iconst (v := 1) hx hb dL_act_220 (by decide) ?_
              refine lv_goto (tgt := 225) hx hb dL_act_221 (by decide) ?_
              cases hf
              exact hQ _ _ _ _ _ _ dL_act_225 gz1 hw
  · replace hf := (if_neg c35).symm.trans hf
    refine lv_aload hx hb dL_act_122 (lv_at hl 5 rfl) ?_
    refine lv_iload hx hb dL_act_124 (lv_at hl 6 rfl) ?_
    refine lv_if_le (tgt := 134) hx hb dL_act_126 (by decide) (fun c34 => ?_) (fun c34 => ?_)
    · replace hf := (if_pos c34).symm.trans hf
      refine gg_ldcS hC (k := 2) rfl rfl rfl dL_act_134 ?_
      exact L_act_136_W hC hQ hst h_115 hf hw (lv_sub hl [0, 1, 2, 3, 4, 5, 6] rfl)
    · replace hf := (if_neg c34).symm.trans hf
      refine gg_ldcS hC (k := 1) rfl rfl rfl dL_act_129 ?_
      refine lv_goto (tgt := 136) hx hb dL_act_131 (by decide) ?_
      exact L_act_136_W hC hQ hst h_115 hf hw (lv_sub hl [0, 1, 2, 3, 4, 5, 6] rfl)
def L_act_115 (E : gE) : Nat → Nat → Nat → Int32 → Int32 → Int32 → Nat → Int32 → gS → Option (Int32 × gS)
  | 0 => fun _ _ _ _ _ _ _ _ => none
  | n + 1 => L_act_115_s E (L_act_115 E n)
theorem L_act_115_W {res : (Int32 × gS)} (hC : gC E D A p R s m args meth c cL_act 18 RL "act" 10 223) (hQ : gQI E D A p l e R s m args below meth c Q cL_act FieldType.boolean res) (hst : l.stackTraces = false) : ∀ (n : Nat), ∀ {l0 : Nat} {l1 : Nat} {l4 : Int32} {l5 : Int32} {l6 : Int32} {l9 : Nat} {l10 : Int32} {σ : gS} {H : Heap} {locs : List Loc} {cells slots : Nat} {ls : Array Slot}, L_act_115 E n l0 l1 l4 l5 l6 l9 l10 σ = some res → gW E D A s σ H locs → lv_has ls 18 [(0, .ref l0), (1, .ref l1), (4, .int l4), (5, .int l5), (6, .int l6), (9, .ref l9), (10, .int l10)] → W p l e R s m args below meth c H locs cells slots Q (F0 m 115 ls []) := by
  intro n
  induction n with
  | zero =>
    intros
    rename_i hf _ _
    exact absurd hf (fun h => by cases (show (none : Option (Int32 × gS)) = some res from h))
  | succ n ih =>
    intros
    rename_i hf hw hl
    exact L_act_115_s_W hC hQ hst ih hf hw hl

def L_act_83 (E : gE) (l0 : Nat) (l1 : Nat) (l4 : Int32) (l5 : Int32) (l6 : Int32) (σ : gS) : Option (Int32 × gS) :=
  if l6 = (60 : Int32) then
    ob (gcl σ l0 10) fun _ =>
    ob (X12_deleteSelected_f E l0 σ) fun x40 =>
    if x40.1 < 0 then
      some ((0 : Int32), x40.2)
    else
      some ((1 : Int32), x40.2)
  else
    ob (gnew E σ 11 [.null, .int 0, .int 0, .int 0]) fun q36 =>
    ob (J4_init_da8c8_f E q36.1 q36.2) fun x38 =>
    L_act_115 E (gN E) l0 l1 l4 l5 l6 q36.1 (0 : Int32) x38
set_option maxHeartbeats 4000000 in
set_option maxRecDepth 100000 in
theorem L_act_83_W {σ : gS} {l0 : Nat} {l1 : Nat} {l4 : Int32} {l5 : Int32} {l6 : Int32} {res : (Int32 × gS)} {ls : Array Slot} (hC : gC E D A p R s m args meth c cL_act 18 RL "act" 10 223) (hQ : gQI E D A p l e R s m args below meth c Q cL_act FieldType.boolean res) (hst : l.stackTraces = false) (hf : L_act_83 E l0 l1 l4 l5 l6 σ = some res) (hw : gW E D A s σ H locs) (hl : lv_has ls 18 [(0, .ref l0), (1, .ref l1), (4, .int l4), (5, .int l5), (6, .int l6)]) : W p l e R s m args below meth c H locs cells slots Q (F0 m 83 ls []) := by
  have hC0 := hC
  obtain ⟨hx, hb, hml, hown, hts, -⟩ := hC0
  unfold L_act_83 at hf
  refine lv_iload hx hb dL_act_83 (lv_at hl 4 rfl) ?_
  refine lv_bipush (v := 60) hx hb dL_act_85 (by decide) ?_
  refine lv_icmp_ne (tgt := 103) hx hb dL_act_87 (by decide) (fun c44 => ?_) (fun c44 => ?_)
  · replace hf := (if_neg c44).symm.trans hf
    obtain ⟨q36, h37, hf⟩ := ob_some hf
    refine n_cl_L_152 hC hw h37 dL_act_103 (fun H locs cells slots hw => ?_)
    refine lv_dup hx hb dL_act_106 rfl ?_
    obtain ⟨x38, h39, hf⟩ := ob_some hf
    refine gg_cIV (rt := none) (As := []) hC hw (J4_init_da8c8_M l E D A h39) co_J4_init_da8c8 in_J4 ml_L_154 im_J4_init_da8c8 rfl hd_J4_init_da8c8.2 (Nat.le_of_ble_eq_true rfl) (Nat.le_of_ble_eq_true rfl) hl.1 rfl (Nat.le_of_ble_eq_true rfl) dL_act_107 (fun H locs cells slots hw => ?_)
    refine lv_astore (lv' := [(9, .ref q36.1), (0, .ref l0), (1, .ref l1), (4, .int l4), (5, .int l5), (6, .int l6)]) hx hb dL_act_110 hl (by decide) rfl (fun ls hl => ?_)
    refine lv_iconst (v := 0) hx hb dL_act_112 (by decide) ?_
    refine lv_istore (lv' := [(10, .int (0 : Int32)), (9, .ref q36.1), (0, .ref l0), (1, .ref l1), (4, .int l4), (5, .int l5), (6, .int l6)]) hx hb dL_act_113 hl (by decide) rfl (fun ls hl => ?_)
    exact L_act_115_W hC hQ hst (gN E) hf hw (lv_sub hl [2, 3, 4, 5, 6, 1, 0] rfl)
  · replace hf := (if_pos c44).symm.trans hf
    refine lv_aload_n hx hb dL_act_90 rfl (lv_at hl 0 rfl) ?_
    obtain ⟨_, h42, hf⟩ := ob_some hf
    obtain ⟨x40, h41, hf⟩ := ob_some hf
    refine gg_cVI (As := []) hC hw (X12_deleteSelected_M l E D A h41) h42 rfl g_ml_L_149 hd_X12_deleteSelected (Nat.le_of_ble_eq_true rfl) (Nat.le_of_ble_eq_true rfl) hl.1 rfl (Nat.le_of_ble_eq_true rfl) dL_act_91 (fun H locs cells slots hw => ?_)
    refine lv_if_lt (tgt := 101) hx hb dL_act_94 (by decide) (fun c43 => ?_) (fun c43 => ?_)
    · replace hf := (if_pos c43).symm.trans hf
      refine lv_iconst (v := 0) hx hb dL_act_101 (by decide) ?_
      cases hf
      exact hQ _ _ _ _ _ _ dL_act_102 gz0 hw
    · replace hf := (if_neg c43).symm.trans hf
      refine lv_iconst (v := 1) hx hb dL_act_97 (by decide) ?_
      refine lv_goto (tgt := 102) hx hb dL_act_98 (by decide) ?_
      cases hf
      exact hQ _ _ _ _ _ _ dL_act_102 gz1 hw

def L_act_306 (E : gE) (σ : gS) : Option (Int32 × gS) :=
  some ((0 : Int32), σ)
set_option maxHeartbeats 4000000 in
set_option maxRecDepth 100000 in
theorem L_act_306_W {σ : gS} {res : (Int32 × gS)} {ls : Array Slot} (hC : gC E D A p R s m args meth c cL_act 18 RL "act" 10 223) (hQ : gQI E D A p l e R s m args below meth c Q cL_act FieldType.boolean res) (hst : l.stackTraces = false) (hf : L_act_306 E σ = some res) (hw : gW E D A s σ H locs) (hl : lv_has ls 18 []) : W p l e R s m args below meth c H locs cells slots Q (F0 m 306 ls []) := by
  have hC0 := hC
  obtain ⟨hx, hb, hml, hown, hts, -⟩ := hC0
  unfold L_act_306 at hf
  refine lv_iconst (v := 0) hx hb dL_act_306 (by decide) ?_
  cases hf
  exact hQ _ _ _ _ _ _ dL_act_307 gz0 hw

def L_act_469 (E : gE) (σ : gS) : Option (Int32 × gS) :=
  some ((0 : Int32), σ)
set_option maxHeartbeats 4000000 in
set_option maxRecDepth 100000 in
theorem L_act_469_W {σ : gS} {res : (Int32 × gS)} {ls : Array Slot} (hC : gC E D A p R s m args meth c cL_act 18 RL "act" 10 223) (hQ : gQI E D A p l e R s m args below meth c Q cL_act FieldType.boolean res) (hst : l.stackTraces = false) (hf : L_act_469 E σ = some res) (hw : gW E D A s σ H locs) (hl : lv_has ls 18 []) : W p l e R s m args below meth c H locs cells slots Q (F0 m 469 ls []) := by
  have hC0 := hC
  obtain ⟨hx, hb, hml, hown, hts, -⟩ := hC0
  unfold L_act_469 at hf
  refine lv_iconst (v := 0) hx hb dL_act_469 (by decide) ?_
  cases hf
  exact hQ _ _ _ _ _ _ dL_act_470 gz0 hw

def L_act_444 (E : gE) (l0 : Nat) (l7 : Int32) (l12 : Int32) (l13 : Int64) (σ : gS) : Option (Int32 × gS) :=
  ob (gcl σ l0 10) fun _ =>
  ob (X12_selectedCount_f E σ l0) fun x45 =>
  if x45 = l12 then
    ob (gcl σ l0 10) fun _ =>
    ob (X12_sumSelected_f E l0 l7 σ) fun x48 =>
    gtry x48 (fun _ _ => none) (fun x52 σ51 =>
      if (lg_cmp x52 l13) = 0 then
        some ((1 : Int32), σ51)
      else
        L_act_469 E σ51)
  else
    L_act_469 E σ
set_option maxHeartbeats 4000000 in
set_option maxRecDepth 100000 in
theorem L_act_444_W {σ : gS} {l0 : Nat} {l7 : Int32} {l12 : Int32} {l13 : Int64} {res : (Int32 × gS)} {ls : Array Slot} (hC : gC E D A p R s m args meth c cL_act 18 RL "act" 10 223) (hQ : gQI E D A p l e R s m args below meth c Q cL_act FieldType.boolean res) (hst : l.stackTraces = false) (hf : L_act_444 E l0 l7 l12 l13 σ = some res) (hw : gW E D A s σ H locs) (hl : lv_has ls 18 [(0, .ref l0), (7, .int l7), (12, .int l12), (13, .long l13)]) : W p l e R s m args below meth c H locs cells slots Q (F0 m 444 ls []) := by
  have hC0 := hC
  obtain ⟨hx, hb, hml, hown, hts, -⟩ := hC0
  unfold L_act_444 at hf
  refine lv_aload_n hx hb dL_act_444 rfl (lv_at hl 0 rfl) ?_
  obtain ⟨_, h47, hf⟩ := ob_some hf
  obtain ⟨x45, h46, hf⟩ := ob_some hf
  refine gg_cVI (As := []) hC hw (X12_selectedCount_M l E D A h46) h47 rfl g_ml_L_140 hd_X12_selectedCount (Nat.le_of_ble_eq_true rfl) (Nat.le_of_ble_eq_true rfl) hl.1 rfl (Nat.le_of_ble_eq_true rfl) dL_act_445 (fun H locs cells slots hw => ?_)
  refine lv_iload hx hb dL_act_448 (lv_at hl 2 rfl) ?_
  refine lv_icmp_ne (tgt := 469) hx hb dL_act_450 (by decide) (fun c54 => ?_) (fun c54 => ?_)
  · replace hf := (if_neg c54).symm.trans hf
    exact L_act_469_W hC hQ hst hf hw (lv_sub hl [] rfl)
  · replace hf := (if_pos c54).symm.trans hf
    refine lv_aload_n hx hb dL_act_453 rfl (lv_at hl 0 rfl) ?_
    refine lv_iload hx hb dL_act_454 (lv_at hl 1 rfl) ?_
    obtain ⟨_, h50, hf⟩ := ob_some hf
    obtain ⟨x48, h49, hf⟩ := ob_some hf
    refine gg_yVJ (As := [.int l7]) hC hw (X12_sumSelected_M l hst E D A h49) h50 rfl g_ml_L_127 hd_X12_sumSelected (Nat.le_of_ble_eq_true rfl) (Nat.le_of_ble_eq_true rfl) hl.1 rfl (Nat.le_of_ble_eq_true rfl) dL_act_456 (fun k9 σ9 he => ?_) (fun x52 σ51 he H locs cells slots hw => ?_)
    · subst he
      replace hf := gtry_inl.symm.trans hf
      cases hf
    · subst he
      replace hf := gtry_inr.symm.trans hf
      refine lv_lload hx hb dL_act_459 (lv_at hl 3 rfl) ?_
      refine W.lcmp hx hb dL_act_461 ?_
      refine lv_if_ne (tgt := 469) hx hb dL_act_462 (by decide) (fun c53 => ?_) (fun c53 => ?_)
      · replace hf := (if_neg c53).symm.trans hf
        exact L_act_469_W hC hQ hst hf hw (lv_sub hl [] rfl)
      · replace hf := (if_pos c53).symm.trans hf
        refine lv_iconst (v := 1) hx hb dL_act_465 (by decide) ?_
        refine lv_goto (tgt := 470) hx hb dL_act_466 (by decide) ?_
        cases hf
        exact hQ _ _ _ _ _ _ dL_act_470 gz1 hw

def L_act_370_s (E : gE) (r_370 : Nat → Int32 → Int32 → Int32 → Int32 → Int32 → Int64 → Int32 → Int32 → Int32 → gS → Option (Int32 × gS)) (l0 : Nat) (l5 : Int32) (l7 : Int32) (l10 : Int32) (l11 : Int32) (l12 : Int32) (l13 : Int64) (l15 : Int32) (l16 : Int32) (l17 : Int32) (σ : gS) : Option (Int32 × gS) :=
  if l5 ≤ l17 then
    ob (gcl σ l0 10) fun _ =>
    ob (X12_runCount_f E l0 l7 σ) fun x55 =>
    gtry x55 (fun _ _ => none) (fun x59 σ58 =>
      if l15 = x59 then
        ob (gcl σ58 l0 10) fun _ =>
        ob (X12_dictionarySize_f E l0 l7 σ58) fun x60 =>
        gtry x60 (fun _ _ => none) (fun x64 σ63 =>
          ob (gcl σ63 l0 10) fun _ =>
          ob (X12_staleCount_f E l0 l7 σ63) fun x65 =>
          gtry x65 (fun _ _ => none) (fun x69 σ68 =>
            if l15 = (x64 - x69) then
              if l10 = 0 then
                L_act_444 E l0 l7 l12 l13 σ68
              else
                if l16 = l11 then
                  ob (gcl σ68 l0 10) fun _ =>
                  ob (X12_isSorted_f E l0 l7 σ68) fun x70 =>
                  gtry x70 (fun _ _ => none) (fun x74 σ73 =>
                    if x74 = 0 then
                      L_act_469 E σ73
                    else
                      L_act_444 E l0 l7 l12 l13 σ73)
                else
                  L_act_469 E σ68
            else
              L_act_469 E σ68))
      else
        L_act_469 E σ58)
  else
    ob (gcl σ l0 10) fun _ =>
    ob (X12_runCount_f E l0 l17 σ) fun x80 =>
    gtry x80 (fun _ _ => none) (fun x84 σ83 =>
      r_370 l0 l5 l7 l10 l11 l12 l13 l15 (l16 + x84) (l17 + 1) σ83)
set_option maxHeartbeats 4000000 in
set_option maxRecDepth 100000 in
theorem L_act_370_s_W {σ : gS} {l0 : Nat} {l5 : Int32} {l7 : Int32} {l10 : Int32} {l11 : Int32} {l12 : Int32} {l13 : Int64} {l15 : Int32} {l16 : Int32} {l17 : Int32} {res : (Int32 × gS)} {ls : Array Slot} (hC : gC E D A p R s m args meth c cL_act 18 RL "act" 10 223) (hQ : gQI E D A p l e R s m args below meth c Q cL_act FieldType.boolean res) (hst : l.stackTraces = false) {r_370 : Nat → Int32 → Int32 → Int32 → Int32 → Int32 → Int64 → Int32 → Int32 → Int32 → gS → Option (Int32 × gS)} (h_370 : ∀ {l0 : Nat} {l5 : Int32} {l7 : Int32} {l10 : Int32} {l11 : Int32} {l12 : Int32} {l13 : Int64} {l15 : Int32} {l16 : Int32} {l17 : Int32} {σ : gS} {H : Heap} {locs : List Loc} {cells slots : Nat} {ls : Array Slot}, r_370 l0 l5 l7 l10 l11 l12 l13 l15 l16 l17 σ = some res → gW E D A s σ H locs → lv_has ls 18 [(0, .ref l0), (5, .int l5), (7, .int l7), (10, .int l10), (11, .int l11), (12, .int l12), (13, .long l13), (15, .int l15), (16, .int l16), (17, .int l17)] → W p l e R s m args below meth c H locs cells slots Q (F0 m 370 ls [])) (hf : L_act_370_s E r_370 l0 l5 l7 l10 l11 l12 l13 l15 l16 l17 σ = some res) (hw : gW E D A s σ H locs) (hl : lv_has ls 18 [(0, .ref l0), (5, .int l5), (7, .int l7), (10, .int l10), (11, .int l11), (12, .int l12), (13, .long l13), (15, .int l15), (16, .int l16), (17, .int l17)]) : W p l e R s m args below meth c H locs cells slots Q (F0 m 370 ls []) := by
  have hC0 := hC
  obtain ⟨hx, hb, hml, hown, hts, -⟩ := hC0
  unfold L_act_370_s at hf
  refine lv_iload hx hb dL_act_370 (lv_at hl 9 rfl) ?_
  refine lv_iload hx hb dL_act_372 (lv_at hl 1 rfl) ?_
  refine lv_icmp_ge (tgt := 394) hx hb dL_act_374 (by decide) (fun c85 => ?_) (fun c85 => ?_)
  · replace hf := (if_pos c85).symm.trans hf
    refine lv_iload hx hb dL_act_394 (lv_at hl 7 rfl) ?_
    refine lv_aload_n hx hb dL_act_396 rfl (lv_at hl 0 rfl) ?_
    refine lv_iload hx hb dL_act_397 (lv_at hl 2 rfl) ?_
    obtain ⟨_, h57, hf⟩ := ob_some hf
    obtain ⟨x55, h56, hf⟩ := ob_some hf
    refine gg_yVI (As := [.int l7]) hC hw (X12_runCount_M l hst E D A h56) h57 rfl g_ml_L_84 hd_X12_runCount (Nat.le_of_ble_eq_true rfl) (Nat.le_of_ble_eq_true rfl) hl.1 rfl (Nat.le_of_ble_eq_true rfl) dL_act_399 (fun k9 σ9 he => ?_) (fun x59 σ58 he H locs cells slots hw => ?_)
    · subst he
      replace hf := gtry_inl.symm.trans hf
      cases hf
    · subst he
      replace hf := gtry_inr.symm.trans hf
      refine lv_icmp_ne (tgt := 469) hx hb dL_act_402 (by decide) (fun c79 => ?_) (fun c79 => ?_)
      · replace hf := (if_neg c79).symm.trans hf
        exact L_act_469_W hC hQ hst hf hw (lv_sub hl [] rfl)
      · replace hf := (if_pos c79).symm.trans hf
        refine lv_iload hx hb dL_act_405 (lv_at hl 7 rfl) ?_
        refine lv_aload_n hx hb dL_act_407 rfl (lv_at hl 0 rfl) ?_
        refine lv_iload hx hb dL_act_408 (lv_at hl 2 rfl) ?_
        obtain ⟨_, h62, hf⟩ := ob_some hf
        obtain ⟨x60, h61, hf⟩ := ob_some hf
        refine gg_yVI (As := [.int l7]) hC hw (X12_dictionarySize_M l hst E D A h61) h62 rfl g_ml_L_36 hd_X12_dictionarySize (Nat.le_of_ble_eq_true rfl) (Nat.le_of_ble_eq_true rfl) hl.1 rfl (Nat.le_of_ble_eq_true rfl) dL_act_410 (fun k9 σ9 he => ?_) (fun x64 σ63 he H locs cells slots hw => ?_)
        · subst he
          replace hf := gtry_inl.symm.trans hf
          cases hf
        · subst he
          replace hf := gtry_inr.symm.trans hf
          refine lv_aload_n hx hb dL_act_413 rfl (lv_at hl 0 rfl) ?_
          refine lv_iload hx hb dL_act_414 (lv_at hl 2 rfl) ?_
          obtain ⟨_, h67, hf⟩ := ob_some hf
          obtain ⟨x65, h66, hf⟩ := ob_some hf
          refine gg_yVI (As := [.int l7]) hC hw (X12_staleCount_M l hst E D A h66) h67 rfl g_ml_L_75 hd_X12_staleCount (Nat.le_of_ble_eq_true rfl) (Nat.le_of_ble_eq_true rfl) hl.1 rfl (Nat.le_of_ble_eq_true rfl) dL_act_416 (fun k9 σ9 he => ?_) (fun x69 σ68 he H locs cells slots hw => ?_)
          · subst he
            replace hf := gtry_inl.symm.trans hf
            cases hf
          · subst he
            replace hf := gtry_inr.symm.trans hf
            refine lv_isub hx hb dL_act_419 ?_
            refine lv_icmp_ne (tgt := 469) hx hb dL_act_420 (by decide) (fun c78 => ?_) (fun c78 => ?_)
            · replace hf := (if_neg c78).symm.trans hf
              exact L_act_469_W hC hQ hst hf hw (lv_sub hl [] rfl)
            · replace hf := (if_pos c78).symm.trans hf
              refine lv_iload hx hb dL_act_423 (lv_at hl 3 rfl) ?_
              refine lv_if_eq (tgt := 444) hx hb dL_act_425 (by decide) (fun c77 => ?_) (fun c77 => ?_)
              · replace hf := (if_pos c77).symm.trans hf
                exact L_act_444_W hC hQ hst hf hw (lv_sub hl [0, 2, 5, 6] rfl)
              · replace hf := (if_neg c77).symm.trans hf
                refine lv_iload hx hb dL_act_428 (lv_at hl 8 rfl) ?_
                refine lv_iload hx hb dL_act_430 (lv_at hl 4 rfl) ?_
                refine lv_icmp_ne (tgt := 469) hx hb dL_act_432 (by decide) (fun c76 => ?_) (fun c76 => ?_)
                · replace hf := (if_neg c76).symm.trans hf
                  exact L_act_469_W hC hQ hst hf hw (lv_sub hl [] rfl)
                · replace hf := (if_pos c76).symm.trans hf
                  refine lv_aload_n hx hb dL_act_435 rfl (lv_at hl 0 rfl) ?_
                  refine lv_iload hx hb dL_act_436 (lv_at hl 2 rfl) ?_
                  obtain ⟨_, h72, hf⟩ := ob_some hf
                  obtain ⟨x70, h71, hf⟩ := ob_some hf
                  refine gg_yVI (As := [.int l7]) hC hw (X12_isSorted_M l hst E D A h71) h72 rfl g_ml_L_87 hd_X12_isSorted (Nat.le_of_ble_eq_true rfl) (Nat.le_of_ble_eq_true rfl) hl.1 rfl (Nat.le_of_ble_eq_true rfl) dL_act_438 (fun k9 σ9 he => ?_) (fun x74 σ73 he H locs cells slots hw => ?_)
                  · subst he
                    replace hf := gtry_inl.symm.trans hf
                    cases hf
                  · subst he
                    replace hf := gtry_inr.symm.trans hf
                    refine lv_if_eq (tgt := 469) hx hb dL_act_441 (by decide) (fun c75 => ?_) (fun c75 => ?_)
                    · replace hf := (if_pos c75).symm.trans hf
                      exact L_act_469_W hC hQ hst hf hw (lv_sub hl [] rfl)
                    · replace hf := (if_neg c75).symm.trans hf
                      exact L_act_444_W hC hQ hst hf hw (lv_sub hl [0, 2, 5, 6] rfl)
  · replace hf := (if_neg c85).symm.trans hf
    refine lv_iload hx hb dL_act_377 (lv_at hl 8 rfl) ?_
    refine lv_aload_n hx hb dL_act_379 rfl (lv_at hl 0 rfl) ?_
    refine lv_iload hx hb dL_act_380 (lv_at hl 9 rfl) ?_
    obtain ⟨_, h82, hf⟩ := ob_some hf
    obtain ⟨x80, h81, hf⟩ := ob_some hf
    refine gg_yVI (As := [.int l17]) hC hw (X12_runCount_M l hst E D A h81) h82 rfl g_ml_L_84 hd_X12_runCount (Nat.le_of_ble_eq_true rfl) (Nat.le_of_ble_eq_true rfl) hl.1 rfl (Nat.le_of_ble_eq_true rfl) dL_act_382 (fun k9 σ9 he => ?_) (fun x84 σ83 he H locs cells slots hw => ?_)
    · subst he
      replace hf := gtry_inl.symm.trans hf
      cases hf
    · subst he
      replace hf := gtry_inr.symm.trans hf
      refine lv_iadd hx hb dL_act_385 ?_
      refine lv_istore (lv' := [(16, .int (l16 + x84)), (0, .ref l0), (5, .int l5), (7, .int l7), (10, .int l10), (11, .int l11), (12, .int l12), (13, .long l13), (15, .int l15), (17, .int l17)]) hx hb dL_act_386 hl (by decide) rfl (fun ls hl => ?_)
      refine lv_iinc (v := (l17 + 1)) (lv' := [(17, .int (l17 + 1)), (16, .int (l16 + x84)), (0, .ref l0), (5, .int l5), (7, .int l7), (10, .int l10), (11, .int l11), (12, .int l12), (13, .long l13), (15, .int l15)]) hx hb dL_act_388 hl (k := 9) rfl rfl (by decide) rfl (fun ls hl => ?_)
      refine lv_goto (tgt := 370) hx hb dL_act_391 (by decide) ?_
      exact h_370 hf hw (lv_sub hl [2, 3, 4, 5, 6, 7, 8, 9, 1, 0] rfl)
def L_act_370 (E : gE) : Nat → Nat → Int32 → Int32 → Int32 → Int32 → Int32 → Int64 → Int32 → Int32 → Int32 → gS → Option (Int32 × gS)
  | 0 => fun _ _ _ _ _ _ _ _ _ _ _ => none
  | n + 1 => L_act_370_s E (L_act_370 E n)
theorem L_act_370_W {res : (Int32 × gS)} (hC : gC E D A p R s m args meth c cL_act 18 RL "act" 10 223) (hQ : gQI E D A p l e R s m args below meth c Q cL_act FieldType.boolean res) (hst : l.stackTraces = false) : ∀ (n : Nat), ∀ {l0 : Nat} {l5 : Int32} {l7 : Int32} {l10 : Int32} {l11 : Int32} {l12 : Int32} {l13 : Int64} {l15 : Int32} {l16 : Int32} {l17 : Int32} {σ : gS} {H : Heap} {locs : List Loc} {cells slots : Nat} {ls : Array Slot}, L_act_370 E n l0 l5 l7 l10 l11 l12 l13 l15 l16 l17 σ = some res → gW E D A s σ H locs → lv_has ls 18 [(0, .ref l0), (5, .int l5), (7, .int l7), (10, .int l10), (11, .int l11), (12, .int l12), (13, .long l13), (15, .int l15), (16, .int l16), (17, .int l17)] → W p l e R s m args below meth c H locs cells slots Q (F0 m 370 ls []) := by
  intro n
  induction n with
  | zero =>
    intros
    rename_i hf _ _
    exact absurd hf (fun h => by cases (show (none : Option (Int32 × gS)) = some res from h))
  | succ n ih =>
    intros
    rename_i hf hw hl
    exact L_act_370_s_W hC hQ hst ih hf hw hl

def L_act_330 (E : gE) (l0 : Nat) (l5 : Int32) (l7 : Int32) (s0 : Int32) (σ : gS) : Option (Int32 × gS) :=
  ob (gcl σ l0 10) fun _ =>
  ob (X12_runsIfSorted_f E l0 l7 σ) fun x86 =>
  gtry x86 (fun _ _ => none) (fun x90 σ89 =>
    ob (gcl σ89 l0 10) fun _ =>
    ob (X12_selectedCount_f E σ89 l0) fun x91 =>
    ob (gcl σ89 l0 10) fun _ =>
    ob (X12_sumSelected_f E l0 l7 σ89) fun x94 =>
    gtry x94 (fun _ _ => none) (fun x98 σ97 =>
      ob (gcl σ97 l0 10) fun _ =>
      ob (X12_sort_f E l0 l7 s0 σ97) fun x99 =>
      gtry x99 (fun _ _ => none) (fun x103 σ102 =>
        L_act_370 E (gN E) l0 l5 l7 s0 x90 x91 x98 x103 (0 : Int32) (0 : Int32) σ102)))
set_option maxHeartbeats 4000000 in
set_option maxRecDepth 100000 in
theorem L_act_330_W {σ : gS} {l0 : Nat} {l5 : Int32} {l7 : Int32} {s0 : Int32} {res : (Int32 × gS)} {ls : Array Slot} (hC : gC E D A p R s m args meth c cL_act 18 RL "act" 10 223) (hQ : gQI E D A p l e R s m args below meth c Q cL_act FieldType.boolean res) (hst : l.stackTraces = false) (hf : L_act_330 E l0 l5 l7 s0 σ = some res) (hw : gW E D A s σ H locs) (hl : lv_has ls 18 [(0, .ref l0), (5, .int l5), (7, .int l7)]) : W p l e R s m args below meth c H locs cells slots Q (F0 m 330 ls [.int s0]) := by
  have hC0 := hC
  obtain ⟨hx, hb, hml, hown, hts, -⟩ := hC0
  unfold L_act_330 at hf
  refine lv_istore (lv' := [(10, .int s0), (0, .ref l0), (5, .int l5), (7, .int l7)]) hx hb dL_act_330 hl (by decide) rfl (fun ls hl => ?_)
  refine lv_aload_n hx hb dL_act_332 rfl (lv_at hl 1 rfl) ?_
  refine lv_iload hx hb dL_act_333 (lv_at hl 3 rfl) ?_
  obtain ⟨_, h88, hf⟩ := ob_some hf
  obtain ⟨x86, h87, hf⟩ := ob_some hf
  refine gg_yVI (As := [.int l7]) hC hw (X12_runsIfSorted_M l hst E D A h87) h88 rfl g_ml_L_97 hd_X12_runsIfSorted (Nat.le_of_ble_eq_true rfl) (Nat.le_of_ble_eq_true rfl) hl.1 rfl (Nat.le_of_ble_eq_true rfl) dL_act_335 (fun k9 σ9 he => ?_) (fun x90 σ89 he H locs cells slots hw => ?_)
  · subst he
    replace hf := gtry_inl.symm.trans hf
    cases hf
  · subst he
    replace hf := gtry_inr.symm.trans hf
    refine lv_istore (lv' := [(11, .int x90), (10, .int s0), (0, .ref l0), (5, .int l5), (7, .int l7)]) hx hb dL_act_338 hl (by decide) rfl (fun ls hl => ?_)
    refine lv_aload_n hx hb dL_act_340 rfl (lv_at hl 2 rfl) ?_
    obtain ⟨_, h93, hf⟩ := ob_some hf
    obtain ⟨x91, h92, hf⟩ := ob_some hf
    refine gg_cVI (As := []) hC hw (X12_selectedCount_M l E D A h92) h93 rfl g_ml_L_140 hd_X12_selectedCount (Nat.le_of_ble_eq_true rfl) (Nat.le_of_ble_eq_true rfl) hl.1 rfl (Nat.le_of_ble_eq_true rfl) dL_act_341 (fun H locs cells slots hw => ?_)
    refine lv_istore (lv' := [(12, .int x91), (11, .int x90), (10, .int s0), (0, .ref l0), (5, .int l5), (7, .int l7)]) hx hb dL_act_344 hl (by decide) rfl (fun ls hl => ?_)
    refine lv_aload_n hx hb dL_act_346 rfl (lv_at hl 3 rfl) ?_
    refine lv_iload hx hb dL_act_347 (lv_at hl 5 rfl) ?_
    obtain ⟨_, h96, hf⟩ := ob_some hf
    obtain ⟨x94, h95, hf⟩ := ob_some hf
    refine gg_yVJ (As := [.int l7]) hC hw (X12_sumSelected_M l hst E D A h95) h96 rfl g_ml_L_127 hd_X12_sumSelected (Nat.le_of_ble_eq_true rfl) (Nat.le_of_ble_eq_true rfl) hl.1 rfl (Nat.le_of_ble_eq_true rfl) dL_act_349 (fun k9 σ9 he => ?_) (fun x98 σ97 he H locs cells slots hw => ?_)
    · subst he
      replace hf := gtry_inl.symm.trans hf
      cases hf
    · subst he
      replace hf := gtry_inr.symm.trans hf
      refine lv_lstore (lv' := [(13, .long x98), (12, .int x91), (11, .int x90), (10, .int s0), (0, .ref l0), (5, .int l5), (7, .int l7)]) hx hb dL_act_352 hl (by decide) rfl (fun ls hl => ?_)
      refine lv_aload_n hx hb dL_act_354 rfl (lv_at hl 4 rfl) ?_
      refine lv_iload hx hb dL_act_355 (lv_at hl 6 rfl) ?_
      refine lv_iload hx hb dL_act_357 (lv_at hl 3 rfl) ?_
      obtain ⟨_, h101, hf⟩ := ob_some hf
      obtain ⟨x99, h100, hf⟩ := ob_some hf
      refine gg_yVI (As := [.int l7, .int s0]) hC hw (X12_sort_M l hst E D A h100) h101 rfl g_ml_L_188 hd_X12_sort (Nat.le_of_ble_eq_true rfl) (Nat.le_of_ble_eq_true rfl) hl.1 rfl (Nat.le_of_ble_eq_true rfl) dL_act_359 (fun k9 σ9 he => ?_) (fun x103 σ102 he H locs cells slots hw => ?_)
      · subst he
        replace hf := gtry_inl.symm.trans hf
        cases hf
      · subst he
        replace hf := gtry_inr.symm.trans hf
        refine lv_istore (lv' := [(15, .int x103), (13, .long x98), (12, .int x91), (11, .int x90), (10, .int s0), (0, .ref l0), (5, .int l5), (7, .int l7)]) hx hb dL_act_362 hl (by decide) rfl (fun ls hl => ?_)
        refine lv_iconst (v := 0) hx hb dL_act_364 (by decide) ?_
        refine lv_istore (lv' := [(16, .int (0 : Int32)), (15, .int x103), (13, .long x98), (12, .int x91), (11, .int x90), (10, .int s0), (0, .ref l0), (5, .int l5), (7, .int l7)]) hx hb dL_act_365 hl (by decide) rfl (fun ls hl => ?_)
        refine lv_iconst (v := 0) hx hb dL_act_367 (by decide) ?_
        refine lv_istore (lv' := [(17, .int (0 : Int32)), (16, .int (0 : Int32)), (15, .int x103), (13, .long x98), (12, .int x91), (11, .int x90), (10, .int s0), (0, .ref l0), (5, .int l5), (7, .int l7)]) hx hb dL_act_368 hl (by decide) rfl (fun ls hl => ?_)
        exact L_act_370_W hC hQ hst (gN E) hf hw (lv_sub hl [7, 8, 9, 6, 5, 4, 3, 2, 1, 0] rfl)

def L_act_636 (E : gE) (σ : gS) : Option (Int32 × gS) :=
  some ((0 : Int32), σ)
set_option maxHeartbeats 4000000 in
set_option maxRecDepth 100000 in
theorem L_act_636_W {σ : gS} {res : (Int32 × gS)} {ls : Array Slot} (hC : gC E D A p R s m args meth c cL_act 18 RL "act" 10 223) (hQ : gQI E D A p l e R s m args below meth c Q cL_act FieldType.boolean res) (hst : l.stackTraces = false) (hf : L_act_636 E σ = some res) (hw : gW E D A s σ H locs) (hl : lv_has ls 18 []) : W p l e R s m args below meth c H locs cells slots Q (F0 m 636 ls []) := by
  have hC0 := hC
  obtain ⟨hx, hb, hml, hown, hts, -⟩ := hC0
  unfold L_act_636 at hf
  refine lv_iconst (v := 0) hx hb dL_act_636 (by decide) ?_
  cases hf
  exact hQ _ _ _ _ _ _ dL_act_637 gz0 hw

def L_act_629 (E : gE) (s0 : Int32) (s1 : Int32) (σ : gS) : Option (Int32 × gS) :=
  if s1 = s0 then
    some ((1 : Int32), σ)
  else
    L_act_636 E σ
set_option maxHeartbeats 4000000 in
set_option maxRecDepth 100000 in
theorem L_act_629_W {σ : gS} {s0 : Int32} {s1 : Int32} {res : (Int32 × gS)} {ls : Array Slot} (hC : gC E D A p R s m args meth c cL_act 18 RL "act" 10 223) (hQ : gQI E D A p l e R s m args below meth c Q cL_act FieldType.boolean res) (hst : l.stackTraces = false) (hf : L_act_629 E s0 s1 σ = some res) (hw : gW E D A s σ H locs) (hl : lv_has ls 18 []) : W p l e R s m args below meth c H locs cells slots Q (F0 m 629 ls [.int s0, .int s1]) := by
  have hC0 := hC
  obtain ⟨hx, hb, hml, hown, hts, -⟩ := hC0
  unfold L_act_629 at hf
  refine lv_icmp_ne (tgt := 636) hx hb dL_act_629 (by decide) (fun c104 => ?_) (fun c104 => ?_)
  · replace hf := (if_neg c104).symm.trans hf
    exact L_act_636_W hC hQ hst hf hw (lv_sub hl [] rfl)
  · replace hf := (if_pos c104).symm.trans hf
    refine lv_iconst (v := 1) hx hb dL_act_632 (by decide) ?_
    refine lv_goto (tgt := 637) hx hb dL_act_633 (by decide) ?_
    cases hf
    exact hQ _ _ _ _ _ _ dL_act_637 gz1 hw

def L_act_551 (E : gE) (l0 : Nat) (l3 : Int32) (l7 : Int32) (l8 : Int32) (l10 : Int32) (l11 : Int32) (s0 : Int32) (σ : gS) : Option (Int32 × gS) :=
  if l11 < s0 then
    L_act_636 E σ
  else
    ob (gcl σ l0 10) fun _ =>
    ob (X12_selectedCount_f E σ l0) fun x105 =>
    if s0 = x105 then
      ob (gcl σ l0 10) fun _ =>
      ob (X12_conditionCount_f E σ l0) fun x108 =>
      if x108 = (l10 + (1 : Int32)) then
        ob (gcl σ l0 10) fun _ =>
        ob (X12_conditionColumn_f E l0 l10 σ) fun x111 =>
        gtry x111 (fun _ _ => none) (fun x115 σ114 =>
          if x115 = l7 then
            ob (gcl σ114 l0 10) fun _ =>
            ob (X12_conditionValue_f E l0 l10 σ114) fun x116 =>
            gtry x116 (fun _ _ => none) (fun x120 σ119 =>
              if x120 = l8 then
                ob (gcl σ119 l0 10) fun _ =>
                ob (X12_conditionDirection_f E l0 l10 σ119) fun x121 =>
                gtry x121 (fun _ _ => none) (fun x125 σ124 =>
                  if (15 : Int32) ≤ l3 then
                    if (17 : Int32) ≤ l3 then
                      L_act_629 E (1 : Int32) x125 σ124
                    else
                      L_act_629 E (0 : Int32) x125 σ124
                  else
                    L_act_629 E (-1 : Int32) x125 σ124)
              else
                L_act_636 E σ119)
          else
            L_act_636 E σ114)
      else
        L_act_636 E σ
    else
      L_act_636 E σ
set_option maxHeartbeats 4000000 in
set_option maxRecDepth 100000 in
theorem L_act_551_W {σ : gS} {l0 : Nat} {l3 : Int32} {l7 : Int32} {l8 : Int32} {l10 : Int32} {l11 : Int32} {s0 : Int32} {res : (Int32 × gS)} {ls : Array Slot} (hC : gC E D A p R s m args meth c cL_act 18 RL "act" 10 223) (hQ : gQI E D A p l e R s m args below meth c Q cL_act FieldType.boolean res) (hst : l.stackTraces = false) (hf : L_act_551 E l0 l3 l7 l8 l10 l11 s0 σ = some res) (hw : gW E D A s σ H locs) (hl : lv_has ls 18 [(0, .ref l0), (3, .int l3), (7, .int l7), (8, .int l8), (10, .int l10), (11, .int l11)]) : W p l e R s m args below meth c H locs cells slots Q (F0 m 551 ls [.int s0]) := by
  have hC0 := hC
  obtain ⟨hx, hb, hml, hown, hts, -⟩ := hC0
  unfold L_act_551 at hf
  refine lv_istore (lv' := [(12, .int s0), (0, .ref l0), (3, .int l3), (7, .int l7), (8, .int l8), (10, .int l10), (11, .int l11)]) hx hb dL_act_551 hl (by decide) rfl (fun ls hl => ?_)
  refine lv_iload hx hb dL_act_553 (lv_at hl 0 rfl) ?_
  refine lv_iload hx hb dL_act_555 (lv_at hl 6 rfl) ?_
  refine lv_icmp_gt (tgt := 636) hx hb dL_act_557 (by decide) (fun c132 => ?_) (fun c132 => ?_)
  · replace hf := (if_pos c132).symm.trans hf
    exact L_act_636_W hC hQ hst hf hw (lv_sub hl [] rfl)
  · replace hf := (if_neg c132).symm.trans hf
    refine lv_iload hx hb dL_act_560 (lv_at hl 0 rfl) ?_
    refine lv_aload_n hx hb dL_act_562 rfl (lv_at hl 1 rfl) ?_
    obtain ⟨_, h107, hf⟩ := ob_some hf
    obtain ⟨x105, h106, hf⟩ := ob_some hf
    refine gg_cVI (As := []) hC hw (X12_selectedCount_M l E D A h106) h107 rfl g_ml_L_140 hd_X12_selectedCount (Nat.le_of_ble_eq_true rfl) (Nat.le_of_ble_eq_true rfl) hl.1 rfl (Nat.le_of_ble_eq_true rfl) dL_act_563 (fun H locs cells slots hw => ?_)
    refine lv_icmp_ne (tgt := 636) hx hb dL_act_566 (by decide) (fun c131 => ?_) (fun c131 => ?_)
    · replace hf := (if_neg c131).symm.trans hf
      exact L_act_636_W hC hQ hst hf hw (lv_sub hl [] rfl)
    · replace hf := (if_pos c131).symm.trans hf
      refine lv_aload_n hx hb dL_act_569 rfl (lv_at hl 1 rfl) ?_
      obtain ⟨_, h110, hf⟩ := ob_some hf
      obtain ⟨x108, h109, hf⟩ := ob_some hf
      refine gg_cVI (As := []) hC hw (X12_conditionCount_M l E D A h109) h110 rfl g_ml_L_40 hd_X12_conditionCount (Nat.le_of_ble_eq_true rfl) (Nat.le_of_ble_eq_true rfl) hl.1 rfl (Nat.le_of_ble_eq_true rfl) dL_act_570 (fun H locs cells slots hw => ?_)
      refine lv_iload hx hb dL_act_573 (lv_at hl 5 rfl) ?_
      refine lv_iconst (v := 1) hx hb dL_act_575 (by decide) ?_
      refine lv_iadd hx hb dL_act_576 ?_
      refine lv_icmp_ne (tgt := 636) hx hb dL_act_577 (by decide) (fun c130 => ?_) (fun c130 => ?_)
      · replace hf := (if_neg c130).symm.trans hf
        exact L_act_636_W hC hQ hst hf hw (lv_sub hl [] rfl)
      · replace hf := (if_pos c130).symm.trans hf
        refine lv_aload_n hx hb dL_act_580 rfl (lv_at hl 1 rfl) ?_
        refine lv_iload hx hb dL_act_581 (lv_at hl 5 rfl) ?_
        obtain ⟨_, h113, hf⟩ := ob_some hf
        obtain ⟨x111, h112, hf⟩ := ob_some hf
        refine gg_yVI (As := [.int l10]) hC hw (X12_conditionColumn_M l hst E D A h112) h113 rfl g_ml_L_50 hd_X12_conditionColumn (Nat.le_of_ble_eq_true rfl) (Nat.le_of_ble_eq_true rfl) hl.1 rfl (Nat.le_of_ble_eq_true rfl) dL_act_583 (fun k9 σ9 he => ?_) (fun x115 σ114 he H locs cells slots hw => ?_)
        · subst he
          replace hf := gtry_inl.symm.trans hf
          cases hf
        · subst he
          replace hf := gtry_inr.symm.trans hf
          refine lv_iload hx hb dL_act_586 (lv_at hl 3 rfl) ?_
          refine lv_icmp_ne (tgt := 636) hx hb dL_act_588 (by decide) (fun c129 => ?_) (fun c129 => ?_)
          · replace hf := (if_neg c129).symm.trans hf
            exact L_act_636_W hC hQ hst hf hw (lv_sub hl [] rfl)
          · replace hf := (if_pos c129).symm.trans hf
            refine lv_aload_n hx hb dL_act_591 rfl (lv_at hl 1 rfl) ?_
            refine lv_iload hx hb dL_act_592 (lv_at hl 5 rfl) ?_
            obtain ⟨_, h118, hf⟩ := ob_some hf
            obtain ⟨x116, h117, hf⟩ := ob_some hf
            refine gg_yVI (As := [.int l10]) hC hw (X12_conditionValue_M l hst E D A h117) h118 rfl g_ml_L_53 hd_X12_conditionValue (Nat.le_of_ble_eq_true rfl) (Nat.le_of_ble_eq_true rfl) hl.1 rfl (Nat.le_of_ble_eq_true rfl) dL_act_594 (fun k9 σ9 he => ?_) (fun x120 σ119 he H locs cells slots hw => ?_)
            · subst he
              replace hf := gtry_inl.symm.trans hf
              cases hf
            · subst he
              replace hf := gtry_inr.symm.trans hf
              refine lv_iload hx hb dL_act_597 (lv_at hl 4 rfl) ?_
              refine lv_icmp_ne (tgt := 636) hx hb dL_act_599 (by decide) (fun c128 => ?_) (fun c128 => ?_)
              · replace hf := (if_neg c128).symm.trans hf
                exact L_act_636_W hC hQ hst hf hw (lv_sub hl [] rfl)
              · replace hf := (if_pos c128).symm.trans hf
                refine lv_aload_n hx hb dL_act_602 rfl (lv_at hl 1 rfl) ?_
                refine lv_iload hx hb dL_act_603 (lv_at hl 5 rfl) ?_
                obtain ⟨_, h123, hf⟩ := ob_some hf
                obtain ⟨x121, h122, hf⟩ := ob_some hf
                refine gg_yVI (As := [.int l10]) hC hw (X12_conditionDirection_M l hst E D A h122) h123 rfl g_ml_L_56 hd_X12_conditionDirection (Nat.le_of_ble_eq_true rfl) (Nat.le_of_ble_eq_true rfl) hl.1 rfl (Nat.le_of_ble_eq_true rfl) dL_act_605 (fun k9 σ9 he => ?_) (fun x125 σ124 he H locs cells slots hw => ?_)
                · subst he
                  replace hf := gtry_inl.symm.trans hf
                  cases hf
                · subst he
                  replace hf := gtry_inr.symm.trans hf
                  refine lv_iload_n hx hb dL_act_608 rfl (lv_at hl 2 rfl) ?_
                  refine lv_bipush (v := 15) hx hb dL_act_609 (by decide) ?_
                  refine lv_icmp_ge (tgt := 618) hx hb dL_act_611 (by decide) (fun c127 => ?_) (fun c127 => ?_)
                  · replace hf := (if_pos c127).symm.trans hf
                    refine lv_iload_n hx hb dL_act_618 rfl (lv_at hl 2 rfl) ?_
                    refine lv_bipush (v := 17) hx hb dL_act_619 (by decide) ?_
                    refine lv_icmp_ge (tgt := 628) hx hb dL_act_621 (by decide) (fun c126 => ?_) (fun c126 => ?_)
                    · replace hf := (if_pos c126).symm.trans hf
                      refine lv_iconst (v := 1) hx hb dL_act_628 (by decide) ?_
                      exact L_act_629_W hC hQ hst hf hw (lv_sub hl [] rfl)
                    · replace hf := (if_neg c126).symm.trans hf
                      refine lv_iconst (v := 0) hx hb dL_act_624 (by decide) ?_
                      refine lv_goto (tgt := 629) hx hb dL_act_625 (by decide) ?_
                      exact L_act_629_W hC hQ hst hf hw (lv_sub hl [] rfl)
                  · replace hf := (if_neg c127).symm.trans hf
                    refine lv_iconst (v := -1) hx hb dL_act_614 (by decide) ?_
                    refine lv_goto (tgt := 629) hx hb dL_act_615 (by decide) ?_
                    exact L_act_629_W hC hQ hst hf hw (lv_sub hl [] rfl)

def L_act_720 (E : gE) (σ : gS) : Option (Int32 × gS) :=
  some ((0 : Int32), σ)
set_option maxHeartbeats 4000000 in
set_option maxRecDepth 100000 in
theorem L_act_720_W {σ : gS} {res : (Int32 × gS)} {ls : Array Slot} (hC : gC E D A p R s m args meth c cL_act 18 RL "act" 10 223) (hQ : gQI E D A p l e R s m args below meth c Q cL_act FieldType.boolean res) (hst : l.stackTraces = false) (hf : L_act_720 E σ = some res) (hw : gW E D A s σ H locs) (hl : lv_has ls 18 []) : W p l e R s m args below meth c H locs cells slots Q (F0 m 720 ls []) := by
  have hC0 := hC
  obtain ⟨hx, hb, hml, hown, hts, -⟩ := hC0
  unfold L_act_720 at hf
  refine lv_iconst (v := 0) hx hb dL_act_720 (by decide) ?_
  cases hf
  exact hQ _ _ _ _ _ _ dL_act_721 gz0 hw

def L_act_788 (E : gE) (σ : gS) : Option (Int32 × gS) :=
  some ((0 : Int32), σ)
set_option maxHeartbeats 4000000 in
set_option maxRecDepth 100000 in
theorem L_act_788_W {σ : gS} {res : (Int32 × gS)} {ls : Array Slot} (hC : gC E D A p R s m args meth c cL_act 18 RL "act" 10 223) (hQ : gQI E D A p l e R s m args below meth c Q cL_act FieldType.boolean res) (hst : l.stackTraces = false) (hf : L_act_788 E σ = some res) (hw : gW E D A s σ H locs) (hl : lv_has ls 18 []) : W p l e R s m args below meth c H locs cells slots Q (F0 m 788 ls []) := by
  have hC0 := hC
  obtain ⟨hx, hb, hml, hown, hts, -⟩ := hC0
  unfold L_act_788 at hf
  refine lv_iconst (v := 0) hx hb dL_act_788 (by decide) ?_
  cases hf
  exact hQ _ _ _ _ _ _ dL_act_789 gz0 hw

def L_act_824 (E : gE) (σ : gS) : Option (Int32 × gS) :=
  some ((0 : Int32), σ)
set_option maxHeartbeats 4000000 in
set_option maxRecDepth 100000 in
theorem L_act_824_W {σ : gS} {res : (Int32 × gS)} {ls : Array Slot} (hC : gC E D A p R s m args meth c cL_act 18 RL "act" 10 223) (hQ : gQI E D A p l e R s m args below meth c Q cL_act FieldType.boolean res) (hst : l.stackTraces = false) (hf : L_act_824 E σ = some res) (hw : gW E D A s σ H locs) (hl : lv_has ls 18 []) : W p l e R s m args below meth c H locs cells slots Q (F0 m 824 ls []) := by
  have hC0 := hC
  obtain ⟨hx, hb, hml, hown, hts, -⟩ := hC0
  unfold L_act_824 at hf
  refine lv_iconst (v := 0) hx hb dL_act_824 (by decide) ?_
  cases hf
  exact hQ _ _ _ _ _ _ dL_act_825 gz0 hw

def L_act_922 (E : gE) (σ : gS) : Option (Int32 × gS) :=
  some ((0 : Int32), σ)
set_option maxHeartbeats 4000000 in
set_option maxRecDepth 100000 in
theorem L_act_922_W {σ : gS} {res : (Int32 × gS)} {ls : Array Slot} (hC : gC E D A p R s m args meth c cL_act 18 RL "act" 10 223) (hQ : gQI E D A p l e R s m args below meth c Q cL_act FieldType.boolean res) (hst : l.stackTraces = false) (hf : L_act_922 E σ = some res) (hw : gW E D A s σ H locs) (hl : lv_has ls 18 []) : W p l e R s m args below meth c H locs cells slots Q (F0 m 922 ls []) := by
  have hC0 := hC
  obtain ⟨hx, hb, hml, hown, hts, -⟩ := hC0
  unfold L_act_922 at hf
  refine lv_iconst (v := 0) hx hb dL_act_922 (by decide) ?_
  cases hf
  exact hQ _ _ _ _ _ _ dL_act_923 gz0 hw

def L_act_70 (E : gE) (l0 : Nat) (l1 : Nat) (l3 : Int32) (l4 : Int32) (l5 : Int32) (l6 : Int32) (l7 : Int32) (s0 : Int32) (σ : gS) : Option (Int32 × gS) :=
  if l3 < (6 : Int32) then
    L_act_83 E l0 l1 l4 l5 l6 σ
  else
    if l6 = 0 then
      L_act_83 E l0 l1 l4 l5 l6 σ
    else
      ob (L_most_f E σ (l4 >>> ((1 : Int32) &&& 31)) l6) fun x133 =>
      if (10 : Int32) ≤ l3 then
        if (13 : Int32) ≤ l3 then
          if (19 : Int32) ≤ l3 then
            if (22 : Int32) ≤ l3 then
              if l3 = (22 : Int32) then
                ob (gcl σ l0 10) fun _ =>
                ob (X12_conditionCount_f E σ l0) fun x196 =>
                if x196 = 0 then
                  ob (gcl σ l0 10) fun _ =>
                  ob (X12_selectedCount_f E σ l0) fun x214 =>
                  if x214 = l6 then
                    some ((1 : Int32), σ)
                  else
                    some ((0 : Int32), σ)
                else
                  ob (gcl σ l0 10) fun _ =>
                  ob (X12_selectedCount_f E σ l0) fun x199 =>
                  ob (gcl σ l0 10) fun _ =>
                  ob (X12_deleteSelected_f E l0 σ) fun x202 =>
                  if x202.1 = x199 then
                    ob (gcl x202.2 l0 10) fun _ =>
                    ob (X12_rowCount_f E x202.2 l0) fun x205 =>
                    if x205 = (l6 - x199) then
                      ob (gcl x202.2 l0 10) fun _ =>
                      ob (X12_selectedCount_f E x202.2 l0) fun x208 =>
                      if x208 = 0 then
                        some ((1 : Int32), x202.2)
                      else
                        L_act_788 E x202.2
                    else
                      L_act_788 E x202.2
                  else
                    L_act_788 E x202.2
              else
                if l3 = (23 : Int32) then
                  ob (gcl σ l0 10) fun _ =>
                  ob (X12_removeRow_f E l0 x133 σ) fun x185 =>
                  gtry x185 (fun _ _ => none) (fun x189 σ188 =>
                    if x189 = (l6 - (1 : Int32)) then
                      ob (gcl σ188 l0 10) fun _ =>
                      ob (X12_rowCount_f E σ188 l0) fun x190 =>
                      if x190 = (l6 - (1 : Int32)) then
                        some ((1 : Int32), σ188)
                      else
                        L_act_824 E σ188
                    else
                      L_act_824 E σ188)
                else
                  ob (gcl σ l0 10) fun _ =>
                  ob (X12_staleCount_f E l0 l7 σ) fun x135 =>
                  gtry x135 (fun _ _ => none) (fun x139 σ138 =>
                    ob (gcl σ138 l0 10) fun _ =>
                    ob (X12_dictionarySize_f E l0 l7 σ138) fun x140 =>
                    gtry x140 (fun _ _ => none) (fun x144 σ143 =>
                      ob (gcl σ143 l0 10) fun _ =>
                      ob (X12_bitWidthCompacted_f E l0 l7 σ143) fun x145 =>
                      gtry x145 (fun _ _ => none) (fun x149 σ148 =>
                        ob (gcl σ148 l0 10) fun _ =>
                        ob (X12_value_f E l0 l7 x133 σ148) fun x150 =>
                        gtry x150 (fun _ _ => none) (fun x154 σ153 =>
                          ob (gcl σ153 l0 10) fun _ =>
                          ob (X12_compact_f E l0 l7 σ153) fun x155 =>
                          gtry x155 (fun _ _ => none) (fun x159 σ158 =>
                            if x159 = x139 then
                              ob (gcl σ158 l0 10) fun _ =>
                              ob (X12_dictionarySize_f E l0 l7 σ158) fun x160 =>
                              gtry x160 (fun _ _ => none) (fun x164 σ163 =>
                                if x164 = (x144 - x139) then
                                  ob (gcl σ163 l0 10) fun _ =>
                                  ob (X12_bitWidth_f E l0 l7 σ163) fun x165 =>
                                  gtry x165 (fun _ _ => none) (fun x169 σ168 =>
                                    if x169 = x149 then
                                      ob (gcl σ168 l0 10) fun _ =>
                                      ob (X12_staleCount_f E l0 l7 σ168) fun x170 =>
                                      gtry x170 (fun _ _ => none) (fun x174 σ173 =>
                                        if x174 = 0 then
                                          ob (gcl σ173 l0 10) fun _ =>
                                          ob (X12_value_f E l0 l7 x133 σ173) fun x175 =>
                                          gtry x175 (fun _ _ => none) (fun x179 σ178 =>
                                            if x179 = x154 then
                                              some ((1 : Int32), σ178)
                                            else
                                              L_act_922 E σ178)
                                        else
                                          L_act_922 E σ173)
                                    else
                                      L_act_922 E σ168)
                                else
                                  L_act_922 E σ163)
                            else
                              L_act_922 E σ158)))))
            else
              ob (gcl σ l0 10) fun _ =>
              ob (X12_conditionCount_f E σ l0) fun x220 =>
              if x220 = 0 then
                ob (gcl σ l0 10) fun _ =>
                ob (X12_selectedCount_f E σ l0) fun x242 =>
                if x242 = l6 then
                  some ((1 : Int32), σ)
                else
                  some ((0 : Int32), σ)
              else
                ob (gcl σ l0 10) fun _ =>
                ob (X12_selectedCount_f E σ l0) fun x223 =>
                ob (L_most_f E σ l4 x220) fun x226 =>
                ob (gcl σ l0 10) fun _ =>
                ob (X12_removeCondition_f E l0 x226 σ) fun x228 =>
                gtry x228 (fun _ _ => none) (fun x232 σ231 =>
                  if x232 < x223 then
                    L_act_720 E σ231
                  else
                    ob (gcl σ231 l0 10) fun _ =>
                    ob (X12_selectedCount_f E σ231 l0) fun x233 =>
                    if x232 = x233 then
                      ob (gcl σ231 l0 10) fun _ =>
                      ob (X12_conditionCount_f E σ231 l0) fun x236 =>
                      if x236 = (x220 - (1 : Int32)) then
                        some ((1 : Int32), σ231)
                      else
                        L_act_720 E σ231
                    else
                      L_act_720 E σ231)
          else
            ob (gcl σ l0 10) fun _ =>
            ob (X12_conditionCount_f E σ l0) fun x248 =>
            if x248 = (8 : Int32) then
              ob (gcl σ l0 10) fun _ =>
              ob (X12_strictestCondition_f E σ l0) fun x271 =>
              if x271 < 0 then
                some ((0 : Int32), σ)
              else
                some ((1 : Int32), σ)
            else
              ob (gcl σ l0 10) fun _ =>
              ob (X12_selectedCount_f E σ l0) fun x251 =>
              if (15 : Int32) ≤ l3 then
                if (17 : Int32) ≤ l3 then
                  ob (gcl σ l0 10) fun _ =>
                  ob (X12_addGreater_f E l0 l7 s0 σ) fun x254 =>
                  gtry x254 (fun _ _ => none) (fun x258 σ257 =>
                    L_act_551 E l0 l3 l7 s0 x248 x251 x258 σ257)
                else
                  ob (gcl σ l0 10) fun _ =>
                  ob (X12_addEqual_f E l0 l7 s0 σ) fun x259 =>
                  gtry x259 (fun _ _ => none) (fun x263 σ262 =>
                    L_act_551 E l0 l3 l7 s0 x248 x251 x263 σ262)
              else
                ob (gcl σ l0 10) fun _ =>
                ob (X12_addLess_f E l0 l7 s0 σ) fun x265 =>
                gtry x265 (fun _ _ => none) (fun x269 σ268 =>
                  L_act_551 E l0 l3 l7 s0 x248 x251 x269 σ268)
        else
          ob (L_most_f E σ (l4 >>> ((5 : Int32) &&& 31)) (2 : Int32)) fun x277 =>
          if x277 = 0 then
            L_act_330 E l0 l5 l7 (1 : Int32) σ
          else
            L_act_330 E l0 l5 l7 (0 : Int32) σ
      else
        ob (gcl σ l0 10) fun _ =>
        ob (X12_value_f E l0 l7 x133 σ) fun x281 =>
        gtry x281 (fun _ _ => none) (fun x285 σ284 =>
          ob (gcl σ284 l0 10) fun _ =>
          ob (X12_bitWidthWith_f E l0 l7 s0 σ284) fun x286 =>
          gtry x286 (fun _ _ => none) (fun x290 σ289 =>
            ob (gcl σ289 l0 10) fun _ =>
            ob (X12_setValue_f E l0 l7 x133 s0 σ289) fun x291 =>
            gtry x291 (fun _ _ => none) (fun x295 σ294 =>
              if x295 = x285 then
                ob (gcl σ294 l0 10) fun _ =>
                ob (X12_value_f E l0 l7 x133 σ294) fun x296 =>
                gtry x296 (fun _ _ => none) (fun x300 σ299 =>
                  if x300 = s0 then
                    ob (gcl σ299 l0 10) fun _ =>
                    ob (X12_bitWidth_f E l0 l7 σ299) fun x301 =>
                    gtry x301 (fun _ _ => none) (fun x305 σ304 =>
                      if x305 = x290 then
                        some ((1 : Int32), σ304)
                      else
                        L_act_306 E σ304)
                  else
                    L_act_306 E σ299)
              else
                L_act_306 E σ294)))
set_option maxHeartbeats 4000000 in
set_option maxRecDepth 100000 in
theorem L_act_70_W {σ : gS} {l0 : Nat} {l1 : Nat} {l3 : Int32} {l4 : Int32} {l5 : Int32} {l6 : Int32} {l7 : Int32} {s0 : Int32} {res : (Int32 × gS)} {ls : Array Slot} (hC : gC E D A p R s m args meth c cL_act 18 RL "act" 10 223) (hQ : gQI E D A p l e R s m args below meth c Q cL_act FieldType.boolean res) (hst : l.stackTraces = false) (hf : L_act_70 E l0 l1 l3 l4 l5 l6 l7 s0 σ = some res) (hw : gW E D A s σ H locs) (hl : lv_has ls 18 [(0, .ref l0), (1, .ref l1), (3, .int l3), (4, .int l4), (5, .int l5), (6, .int l6), (7, .int l7)]) : W p l e R s m args below meth c H locs cells slots Q (F0 m 70 ls [.int s0]) := by
  have hC0 := hC
  obtain ⟨hx, hb, hml, hown, hts, -⟩ := hC0
  unfold L_act_70 at hf
  refine lv_istore (lv' := [(8, .int s0), (0, .ref l0), (1, .ref l1), (3, .int l3), (4, .int l4), (5, .int l5), (6, .int l6), (7, .int l7)]) hx hb dL_act_70 hl (by decide) rfl (fun ls hl => ?_)
  refine lv_iload_n hx hb dL_act_72 rfl (lv_at hl 3 rfl) ?_
  refine lv_bipush (v := 6) hx hb dL_act_73 (by decide) ?_
  refine lv_icmp_lt (tgt := 83) hx hb dL_act_75 (by decide) (fun c311 => ?_) (fun c311 => ?_)
  · replace hf := (if_pos c311).symm.trans hf
    exact L_act_83_W hC hQ hst hf hw (lv_sub hl [1, 2, 4, 5, 6] rfl)
  · replace hf := (if_neg c311).symm.trans hf
    refine lv_iload hx hb dL_act_78 (lv_at hl 6 rfl) ?_
    refine lv_if_ne (tgt := 226) hx hb dL_act_80 (by decide) (fun c310 => ?_) (fun c310 => ?_)
    · replace hf := (if_neg c310).symm.trans hf
      refine lv_iload hx hb dL_act_226 (lv_at hl 4 rfl) ?_
      refine lv_iconst (v := 1) hx hb dL_act_228 (by decide) ?_
      refine lv_ishr hx hb dL_act_229 ?_
      refine lv_iload hx hb dL_act_230 (lv_at hl 6 rfl) ?_
      obtain ⟨x133, h134, hf⟩ := ob_some hf
      refine gg_cSI (As := [.int (l4 >>> ((1 : Int32) &&& 31)), .int l6]) hC hw (L_most_M l hst E D A h134) g_ml_L_146 hd_L_most.2 (Nat.le_of_ble_eq_true rfl) (Nat.le_of_ble_eq_true rfl) hl.1 rfl (Nat.le_of_ble_eq_true rfl) dL_act_232 (fun H locs cells slots hw => ?_)
      refine lv_istore (lv' := [(9, .int x133), (8, .int s0), (0, .ref l0), (1, .ref l1), (3, .int l3), (4, .int l4), (5, .int l5), (6, .int l6), (7, .int l7)]) hx hb dL_act_235 hl (by decide) rfl (fun ls hl => ?_)
      refine lv_iload_n hx hb dL_act_237 rfl (lv_at hl 4 rfl) ?_
      refine lv_bipush (v := 10) hx hb dL_act_238 (by decide) ?_
      refine lv_icmp_ge (tgt := 308) hx hb dL_act_240 (by decide) (fun c309 => ?_) (fun c309 => ?_)
      · replace hf := (if_pos c309).symm.trans hf
        refine lv_iload_n hx hb dL_act_308 rfl (lv_at hl 4 rfl) ?_
        refine lv_bipush (v := 13) hx hb dL_act_309 (by decide) ?_
        refine lv_icmp_ge (tgt := 471) hx hb dL_act_311 (by decide) (fun c280 => ?_) (fun c280 => ?_)
        · replace hf := (if_pos c280).symm.trans hf
          refine lv_iload_n hx hb dL_act_471 rfl (lv_at hl 4 rfl) ?_
          refine lv_bipush (v := 19) hx hb dL_act_472 (by decide) ?_
          refine lv_icmp_ge (tgt := 638) hx hb dL_act_474 (by decide) (fun c276 => ?_) (fun c276 => ?_)
          · replace hf := (if_pos c276).symm.trans hf
            refine lv_iload_n hx hb dL_act_638 rfl (lv_at hl 4 rfl) ?_
            refine lv_bipush (v := 22) hx hb dL_act_639 (by decide) ?_
            refine lv_icmp_ge (tgt := 722) hx hb dL_act_641 (by decide) (fun c247 => ?_) (fun c247 => ?_)
            · replace hf := (if_pos c247).symm.trans hf
              refine lv_iload_n hx hb dL_act_722 rfl (lv_at hl 4 rfl) ?_
              refine lv_bipush (v := 22) hx hb dL_act_723 (by decide) ?_
              refine lv_icmp_ne (tgt := 790) hx hb dL_act_725 (by decide) (fun c219 => ?_) (fun c219 => ?_)
              · replace hf := (if_neg c219).symm.trans hf
                refine lv_iload_n hx hb dL_act_790 rfl (lv_at hl 4 rfl) ?_
                refine lv_bipush (v := 23) hx hb dL_act_791 (by decide) ?_
                refine lv_icmp_ne (tgt := 826) hx hb dL_act_793 (by decide) (fun c195 => ?_) (fun c195 => ?_)
                · replace hf := (if_neg c195).symm.trans hf
                  refine lv_aload_n hx hb dL_act_826 rfl (lv_at hl 2 rfl) ?_
                  refine lv_iload hx hb dL_act_827 (lv_at hl 8 rfl) ?_
                  obtain ⟨_, h137, hf⟩ := ob_some hf
                  obtain ⟨x135, h136, hf⟩ := ob_some hf
                  refine gg_yVI (As := [.int l7]) hC hw (X12_staleCount_M l hst E D A h136) h137 rfl g_ml_L_75 hd_X12_staleCount (Nat.le_of_ble_eq_true rfl) (Nat.le_of_ble_eq_true rfl) hl.1 rfl (Nat.le_of_ble_eq_true rfl) dL_act_829 (fun k9 σ9 he => ?_) (fun x139 σ138 he H locs cells slots hw => ?_)
                  · subst he
                    replace hf := gtry_inl.symm.trans hf
                    cases hf
                  · subst he
                    replace hf := gtry_inr.symm.trans hf
                    refine lv_istore (lv' := [(10, .int x139), (9, .int x133), (8, .int s0), (0, .ref l0), (1, .ref l1), (3, .int l3), (4, .int l4), (5, .int l5), (6, .int l6), (7, .int l7)]) hx hb dL_act_832 hl (by decide) rfl (fun ls hl => ?_)
                    refine lv_aload_n hx hb dL_act_834 rfl (lv_at hl 3 rfl) ?_
                    refine lv_iload hx hb dL_act_835 (lv_at hl 9 rfl) ?_
                    obtain ⟨_, h142, hf⟩ := ob_some hf
                    obtain ⟨x140, h141, hf⟩ := ob_some hf
                    refine gg_yVI (As := [.int l7]) hC hw (X12_dictionarySize_M l hst E D A h141) h142 rfl g_ml_L_36 hd_X12_dictionarySize (Nat.le_of_ble_eq_true rfl) (Nat.le_of_ble_eq_true rfl) hl.1 rfl (Nat.le_of_ble_eq_true rfl) dL_act_837 (fun k9 σ9 he => ?_) (fun x144 σ143 he H locs cells slots hw => ?_)
                    · subst he
                      replace hf := gtry_inl.symm.trans hf
                      cases hf
                    · subst he
                      replace hf := gtry_inr.symm.trans hf
                      refine lv_istore (lv' := [(11, .int x144), (10, .int x139), (9, .int x133), (8, .int s0), (0, .ref l0), (1, .ref l1), (3, .int l3), (4, .int l4), (5, .int l5), (6, .int l6), (7, .int l7)]) hx hb dL_act_840 hl (by decide) rfl (fun ls hl => ?_)
                      refine lv_aload_n hx hb dL_act_842 rfl (lv_at hl 4 rfl) ?_
                      refine lv_iload hx hb dL_act_843 (lv_at hl 10 rfl) ?_
                      obtain ⟨_, h147, hf⟩ := ob_some hf
                      obtain ⟨x145, h146, hf⟩ := ob_some hf
                      refine gg_yVI (As := [.int l7]) hC hw (X12_bitWidthCompacted_M l hst E D A h146) h147 rfl g_ml_L_81 hd_X12_bitWidthCompacted (Nat.le_of_ble_eq_true rfl) (Nat.le_of_ble_eq_true rfl) hl.1 rfl (Nat.le_of_ble_eq_true rfl) dL_act_845 (fun k9 σ9 he => ?_) (fun x149 σ148 he H locs cells slots hw => ?_)
                      · subst he
                        replace hf := gtry_inl.symm.trans hf
                        cases hf
                      · subst he
                        replace hf := gtry_inr.symm.trans hf
                        refine lv_istore (lv' := [(12, .int x149), (11, .int x144), (10, .int x139), (9, .int x133), (8, .int s0), (0, .ref l0), (1, .ref l1), (3, .int l3), (4, .int l4), (5, .int l5), (6, .int l6), (7, .int l7)]) hx hb dL_act_848 hl (by decide) rfl (fun ls hl => ?_)
                        refine lv_aload_n hx hb dL_act_850 rfl (lv_at hl 5 rfl) ?_
                        refine lv_iload hx hb dL_act_851 (lv_at hl 11 rfl) ?_
                        refine lv_iload hx hb dL_act_853 (lv_at hl 3 rfl) ?_
                        obtain ⟨_, h152, hf⟩ := ob_some hf
                        obtain ⟨x150, h151, hf⟩ := ob_some hf
                        refine gg_yVI (As := [.int l7, .int x133]) hC hw (X12_value_M l hst E D A h151) h152 rfl g_ml_L_43 hd_X12_value (Nat.le_of_ble_eq_true rfl) (Nat.le_of_ble_eq_true rfl) hl.1 rfl (Nat.le_of_ble_eq_true rfl) dL_act_855 (fun k9 σ9 he => ?_) (fun x154 σ153 he H locs cells slots hw => ?_)
                        · subst he
                          replace hf := gtry_inl.symm.trans hf
                          cases hf
                        · subst he
                          replace hf := gtry_inr.symm.trans hf
                          refine lv_istore (lv' := [(13, .int x154), (12, .int x149), (11, .int x144), (10, .int x139), (9, .int x133), (8, .int s0), (0, .ref l0), (1, .ref l1), (3, .int l3), (4, .int l4), (5, .int l5), (6, .int l6), (7, .int l7)]) hx hb dL_act_858 hl (by decide) rfl (fun ls hl => ?_)
                          refine lv_aload_n hx hb dL_act_860 rfl (lv_at hl 6 rfl) ?_
                          refine lv_iload hx hb dL_act_861 (lv_at hl 12 rfl) ?_
                          obtain ⟨_, h157, hf⟩ := ob_some hf
                          obtain ⟨x155, h156, hf⟩ := ob_some hf
                          refine gg_yVI (As := [.int l7]) hC hw (X12_compact_M l hst E D A h156) h157 rfl g_ml_L_207 hd_X12_compact (Nat.le_of_ble_eq_true rfl) (Nat.le_of_ble_eq_true rfl) hl.1 rfl (Nat.le_of_ble_eq_true rfl) dL_act_863 (fun k9 σ9 he => ?_) (fun x159 σ158 he H locs cells slots hw => ?_)
                          · subst he
                            replace hf := gtry_inl.symm.trans hf
                            cases hf
                          · subst he
                            replace hf := gtry_inr.symm.trans hf
                            refine lv_iload hx hb dL_act_866 (lv_at hl 3 rfl) ?_
                            refine lv_icmp_ne (tgt := 922) hx hb dL_act_868 (by decide) (fun c184 => ?_) (fun c184 => ?_)
                            · replace hf := (if_neg c184).symm.trans hf
                              exact L_act_922_W hC hQ hst hf hw (lv_sub hl [] rfl)
                            · replace hf := (if_pos c184).symm.trans hf
                              refine lv_aload_n hx hb dL_act_871 rfl (lv_at hl 6 rfl) ?_
                              refine lv_iload hx hb dL_act_872 (lv_at hl 12 rfl) ?_
                              obtain ⟨_, h162, hf⟩ := ob_some hf
                              obtain ⟨x160, h161, hf⟩ := ob_some hf
                              refine gg_yVI (As := [.int l7]) hC hw (X12_dictionarySize_M l hst E D A h161) h162 rfl g_ml_L_36 hd_X12_dictionarySize (Nat.le_of_ble_eq_true rfl) (Nat.le_of_ble_eq_true rfl) hl.1 rfl (Nat.le_of_ble_eq_true rfl) dL_act_874 (fun k9 σ9 he => ?_) (fun x164 σ163 he H locs cells slots hw => ?_)
                              · subst he
                                replace hf := gtry_inl.symm.trans hf
                                cases hf
                              · subst he
                                replace hf := gtry_inr.symm.trans hf
                                refine lv_iload hx hb dL_act_877 (lv_at hl 2 rfl) ?_
                                refine lv_iload hx hb dL_act_879 (lv_at hl 3 rfl) ?_
                                refine lv_isub hx hb dL_act_881 ?_
                                refine lv_icmp_ne (tgt := 922) hx hb dL_act_882 (by decide) (fun c183 => ?_) (fun c183 => ?_)
                                · replace hf := (if_neg c183).symm.trans hf
                                  exact L_act_922_W hC hQ hst hf hw (lv_sub hl [] rfl)
                                · replace hf := (if_pos c183).symm.trans hf
                                  refine lv_aload_n hx hb dL_act_885 rfl (lv_at hl 6 rfl) ?_
                                  refine lv_iload hx hb dL_act_886 (lv_at hl 12 rfl) ?_
                                  obtain ⟨_, h167, hf⟩ := ob_some hf
                                  obtain ⟨x165, h166, hf⟩ := ob_some hf
                                  refine gg_yVI (As := [.int l7]) hC hw (X12_bitWidth_M l hst E D A h166) h167 rfl g_ml_L_59 hd_X12_bitWidth (Nat.le_of_ble_eq_true rfl) (Nat.le_of_ble_eq_true rfl) hl.1 rfl (Nat.le_of_ble_eq_true rfl) dL_act_888 (fun k9 σ9 he => ?_) (fun x169 σ168 he H locs cells slots hw => ?_)
                                  · subst he
                                    replace hf := gtry_inl.symm.trans hf
                                    cases hf
                                  · subst he
                                    replace hf := gtry_inr.symm.trans hf
                                    refine lv_iload hx hb dL_act_891 (lv_at hl 1 rfl) ?_
                                    refine lv_icmp_ne (tgt := 922) hx hb dL_act_893 (by decide) (fun c182 => ?_) (fun c182 => ?_)
                                    · replace hf := (if_neg c182).symm.trans hf
                                      exact L_act_922_W hC hQ hst hf hw (lv_sub hl [] rfl)
                                    · replace hf := (if_pos c182).symm.trans hf
                                      refine lv_aload_n hx hb dL_act_896 rfl (lv_at hl 6 rfl) ?_
                                      refine lv_iload hx hb dL_act_897 (lv_at hl 12 rfl) ?_
                                      obtain ⟨_, h172, hf⟩ := ob_some hf
                                      obtain ⟨x170, h171, hf⟩ := ob_some hf
                                      refine gg_yVI (As := [.int l7]) hC hw (X12_staleCount_M l hst E D A h171) h172 rfl g_ml_L_75 hd_X12_staleCount (Nat.le_of_ble_eq_true rfl) (Nat.le_of_ble_eq_true rfl) hl.1 rfl (Nat.le_of_ble_eq_true rfl) dL_act_899 (fun k9 σ9 he => ?_) (fun x174 σ173 he H locs cells slots hw => ?_)
                                      · subst he
                                        replace hf := gtry_inl.symm.trans hf
                                        cases hf
                                      · subst he
                                        replace hf := gtry_inr.symm.trans hf
                                        refine lv_if_ne (tgt := 922) hx hb dL_act_902 (by decide) (fun c181 => ?_) (fun c181 => ?_)
                                        · replace hf := (if_neg c181).symm.trans hf
                                          exact L_act_922_W hC hQ hst hf hw (lv_sub hl [] rfl)
                                        · replace hf := (if_pos c181).symm.trans hf
                                          refine lv_aload_n hx hb dL_act_905 rfl (lv_at hl 6 rfl) ?_
                                          refine lv_iload hx hb dL_act_906 (lv_at hl 12 rfl) ?_
                                          refine lv_iload hx hb dL_act_908 (lv_at hl 4 rfl) ?_
                                          obtain ⟨_, h177, hf⟩ := ob_some hf
                                          obtain ⟨x175, h176, hf⟩ := ob_some hf
                                          refine gg_yVI (As := [.int l7, .int x133]) hC hw (X12_value_M l hst E D A h176) h177 rfl g_ml_L_43 hd_X12_value (Nat.le_of_ble_eq_true rfl) (Nat.le_of_ble_eq_true rfl) hl.1 rfl (Nat.le_of_ble_eq_true rfl) dL_act_910 (fun k9 σ9 he => ?_) (fun x179 σ178 he H locs cells slots hw => ?_)
                                          · subst he
                                            replace hf := gtry_inl.symm.trans hf
                                            cases hf
                                          · subst he
                                            replace hf := gtry_inr.symm.trans hf
                                            refine lv_iload hx hb dL_act_913 (lv_at hl 0 rfl) ?_
                                            refine lv_icmp_ne (tgt := 922) hx hb dL_act_915 (by decide) (fun c180 => ?_) (fun c180 => ?_)
                                            · replace hf := (if_neg c180).symm.trans hf
                                              exact L_act_922_W hC hQ hst hf hw (lv_sub hl [] rfl)
                                            · replace hf := (if_pos c180).symm.trans hf
                                              refine lv_iconst (v := 1) hx hb dL_act_918 (by decide) ?_
                                              refine lv_goto (tgt := 923) hx hb dL_act_919 (by decide) ?_
                                              cases hf
                                              exact hQ _ _ _ _ _ _ dL_act_923 gz1 hw
                · replace hf := (if_pos c195).symm.trans hf
                  refine lv_aload_n hx hb dL_act_796 rfl (lv_at hl 2 rfl) ?_
                  refine lv_iload hx hb dL_act_797 (lv_at hl 0 rfl) ?_
                  obtain ⟨_, h187, hf⟩ := ob_some hf
                  obtain ⟨x185, h186, hf⟩ := ob_some hf
                  refine gg_yVI (As := [.int x133]) hC hw (X12_removeRow_M l hst E D A h186) h187 rfl g_ml_L_204 hd_X12_removeRow (Nat.le_of_ble_eq_true rfl) (Nat.le_of_ble_eq_true rfl) hl.1 rfl (Nat.le_of_ble_eq_true rfl) dL_act_799 (fun k9 σ9 he => ?_) (fun x189 σ188 he H locs cells slots hw => ?_)
                  · subst he
                    replace hf := gtry_inl.symm.trans hf
                    cases hf
                  · subst he
                    replace hf := gtry_inr.symm.trans hf
                    refine lv_iload hx hb dL_act_802 (lv_at hl 7 rfl) ?_
                    refine lv_iconst (v := 1) hx hb dL_act_804 (by decide) ?_
                    refine lv_isub hx hb dL_act_805 ?_
                    refine lv_icmp_ne (tgt := 824) hx hb dL_act_806 (by decide) (fun c194 => ?_) (fun c194 => ?_)
                    · replace hf := (if_neg c194).symm.trans hf
                      exact L_act_824_W hC hQ hst hf hw (lv_sub hl [] rfl)
                    · replace hf := (if_pos c194).symm.trans hf
                      refine lv_aload_n hx hb dL_act_809 rfl (lv_at hl 2 rfl) ?_
                      obtain ⟨_, h192, hf⟩ := ob_some hf
                      obtain ⟨x190, h191, hf⟩ := ob_some hf
                      refine gg_cVI (As := []) hC hw (X12_rowCount_M l E D A h191) h192 rfl g_ml_L_33 hd_X12_rowCount (Nat.le_of_ble_eq_true rfl) (Nat.le_of_ble_eq_true rfl) hl.1 rfl (Nat.le_of_ble_eq_true rfl) dL_act_810 (fun H locs cells slots hw => ?_)
                      refine lv_iload hx hb dL_act_813 (lv_at hl 7 rfl) ?_
                      refine lv_iconst (v := 1) hx hb dL_act_815 (by decide) ?_
                      refine lv_isub hx hb dL_act_816 ?_
                      refine lv_icmp_ne (tgt := 824) hx hb dL_act_817 (by decide) (fun c193 => ?_) (fun c193 => ?_)
                      · replace hf := (if_neg c193).symm.trans hf
                        exact L_act_824_W hC hQ hst hf hw (lv_sub hl [] rfl)
                      · replace hf := (if_pos c193).symm.trans hf
                        refine lv_iconst (v := 1) hx hb dL_act_820 (by decide) ?_
                        refine lv_goto (tgt := 825) hx hb dL_act_821 (by decide) ?_
                        cases hf
                        exact hQ _ _ _ _ _ _ dL_act_825 gz1 hw
              · replace hf := (if_pos c219).symm.trans hf
                refine lv_aload_n hx hb dL_act_728 rfl (lv_at hl 2 rfl) ?_
                obtain ⟨_, h198, hf⟩ := ob_some hf
                obtain ⟨x196, h197, hf⟩ := ob_some hf
                refine gg_cVI (As := []) hC hw (X12_conditionCount_M l E D A h197) h198 rfl g_ml_L_40 hd_X12_conditionCount (Nat.le_of_ble_eq_true rfl) (Nat.le_of_ble_eq_true rfl) hl.1 rfl (Nat.le_of_ble_eq_true rfl) dL_act_729 (fun H locs cells slots hw => ?_)
                refine lv_if_ne (tgt := 750) hx hb dL_act_732 (by decide) (fun c218 => ?_) (fun c218 => ?_)
                · replace hf := (if_neg c218).symm.trans hf
                  refine lv_aload_n hx hb dL_act_750 rfl (lv_at hl 2 rfl) ?_
                  obtain ⟨_, h201, hf⟩ := ob_some hf
                  obtain ⟨x199, h200, hf⟩ := ob_some hf
                  refine gg_cVI (As := []) hC hw (X12_selectedCount_M l E D A h200) h201 rfl g_ml_L_140 hd_X12_selectedCount (Nat.le_of_ble_eq_true rfl) (Nat.le_of_ble_eq_true rfl) hl.1 rfl (Nat.le_of_ble_eq_true rfl) dL_act_751 (fun H locs cells slots hw => ?_)
                  refine lv_istore (lv' := [(10, .int x199), (9, .int x133), (8, .int s0), (0, .ref l0), (1, .ref l1), (3, .int l3), (4, .int l4), (5, .int l5), (6, .int l6), (7, .int l7)]) hx hb dL_act_754 hl (by decide) rfl (fun ls hl => ?_)
                  refine lv_aload_n hx hb dL_act_756 rfl (lv_at hl 3 rfl) ?_
                  obtain ⟨_, h204, hf⟩ := ob_some hf
                  obtain ⟨x202, h203, hf⟩ := ob_some hf
                  refine gg_cVI (As := []) hC hw (X12_deleteSelected_M l E D A h203) h204 rfl g_ml_L_149 hd_X12_deleteSelected (Nat.le_of_ble_eq_true rfl) (Nat.le_of_ble_eq_true rfl) hl.1 rfl (Nat.le_of_ble_eq_true rfl) dL_act_757 (fun H locs cells slots hw => ?_)
                  refine lv_iload hx hb dL_act_760 (lv_at hl 0 rfl) ?_
                  refine lv_icmp_ne (tgt := 788) hx hb dL_act_762 (by decide) (fun c213 => ?_) (fun c213 => ?_)
                  · replace hf := (if_neg c213).symm.trans hf
                    exact L_act_788_W hC hQ hst hf hw (lv_sub hl [] rfl)
                  · replace hf := (if_pos c213).symm.trans hf
                    refine lv_aload_n hx hb dL_act_765 rfl (lv_at hl 3 rfl) ?_
                    obtain ⟨_, h207, hf⟩ := ob_some hf
                    obtain ⟨x205, h206, hf⟩ := ob_some hf
                    refine gg_cVI (As := []) hC hw (X12_rowCount_M l E D A h206) h207 rfl g_ml_L_33 hd_X12_rowCount (Nat.le_of_ble_eq_true rfl) (Nat.le_of_ble_eq_true rfl) hl.1 rfl (Nat.le_of_ble_eq_true rfl) dL_act_766 (fun H locs cells slots hw => ?_)
                    refine lv_iload hx hb dL_act_769 (lv_at hl 8 rfl) ?_
                    refine lv_iload hx hb dL_act_771 (lv_at hl 0 rfl) ?_
                    refine lv_isub hx hb dL_act_773 ?_
                    refine lv_icmp_ne (tgt := 788) hx hb dL_act_774 (by decide) (fun c212 => ?_) (fun c212 => ?_)
                    · replace hf := (if_neg c212).symm.trans hf
                      exact L_act_788_W hC hQ hst hf hw (lv_sub hl [] rfl)
                    · replace hf := (if_pos c212).symm.trans hf
                      refine lv_aload_n hx hb dL_act_777 rfl (lv_at hl 3 rfl) ?_
                      obtain ⟨_, h210, hf⟩ := ob_some hf
                      obtain ⟨x208, h209, hf⟩ := ob_some hf
                      refine gg_cVI (As := []) hC hw (X12_selectedCount_M l E D A h209) h210 rfl g_ml_L_140 hd_X12_selectedCount (Nat.le_of_ble_eq_true rfl) (Nat.le_of_ble_eq_true rfl) hl.1 rfl (Nat.le_of_ble_eq_true rfl) dL_act_778 (fun H locs cells slots hw => ?_)
                      refine lv_if_ne (tgt := 788) hx hb dL_act_781 (by decide) (fun c211 => ?_) (fun c211 => ?_)
                      · replace hf := (if_neg c211).symm.trans hf
                        exact L_act_788_W hC hQ hst hf hw (lv_sub hl [] rfl)
                      · replace hf := (if_pos c211).symm.trans hf
                        refine lv_iconst (v := 1) hx hb dL_act_784 (by decide) ?_
                        refine lv_goto (tgt := 789) hx hb dL_act_785 (by decide) ?_
                        cases hf
                        exact hQ _ _ _ _ _ _ dL_act_789 gz1 hw
                · replace hf := (if_pos c218).symm.trans hf
                  refine lv_aload_n hx hb dL_act_735 rfl (lv_at hl 2 rfl) ?_
                  obtain ⟨_, h216, hf⟩ := ob_some hf
                  obtain ⟨x214, h215, hf⟩ := ob_some hf
                  refine gg_cVI (As := []) hC hw (X12_selectedCount_M l E D A h215) h216 rfl g_ml_L_140 hd_X12_selectedCount (Nat.le_of_ble_eq_true rfl) (Nat.le_of_ble_eq_true rfl) hl.1 rfl (Nat.le_of_ble_eq_true rfl) dL_act_736 (fun H locs cells slots hw => ?_)
                  refine lv_iload hx hb dL_act_739 (lv_at hl 7 rfl) ?_
                  refine lv_icmp_ne (tgt := 748) hx hb dL_act_741 (by decide) (fun c217 => ?_) (fun c217 => ?_)
                  · replace hf := (if_neg c217).symm.trans hf
                    refine lv_iconst (v := 0) hx hb dL_act_748 (by decide) ?_
                    cases hf
                    exact hQ _ _ _ _ _ _ dL_act_749 gz0 hw
                  · replace hf := (if_pos c217).symm.trans hf
                    refine lv_iconst (v := 1) hx hb dL_act_744 (by decide) ?_
                    refine lv_goto (tgt := 749) hx hb dL_act_745 (by decide) ?_
                    cases hf
                    exact hQ _ _ _ _ _ _ dL_act_749 gz1 hw
            · replace hf := (if_neg c247).symm.trans hf
              refine lv_aload_n hx hb dL_act_644 rfl (lv_at hl 2 rfl) ?_
              obtain ⟨_, h222, hf⟩ := ob_some hf
              obtain ⟨x220, h221, hf⟩ := ob_some hf
              refine gg_cVI (As := []) hC hw (X12_conditionCount_M l E D A h221) h222 rfl g_ml_L_40 hd_X12_conditionCount (Nat.le_of_ble_eq_true rfl) (Nat.le_of_ble_eq_true rfl) hl.1 rfl (Nat.le_of_ble_eq_true rfl) dL_act_645 (fun H locs cells slots hw => ?_)
              refine lv_istore (lv' := [(10, .int x220), (9, .int x133), (8, .int s0), (0, .ref l0), (1, .ref l1), (3, .int l3), (4, .int l4), (5, .int l5), (6, .int l6), (7, .int l7)]) hx hb dL_act_648 hl (by decide) rfl (fun ls hl => ?_)
              refine lv_iload hx hb dL_act_650 (lv_at hl 0 rfl) ?_
              refine lv_if_ne (tgt := 670) hx hb dL_act_652 (by decide) (fun c246 => ?_) (fun c246 => ?_)
              · replace hf := (if_neg c246).symm.trans hf
                refine lv_aload_n hx hb dL_act_670 rfl (lv_at hl 3 rfl) ?_
                obtain ⟨_, h225, hf⟩ := ob_some hf
                obtain ⟨x223, h224, hf⟩ := ob_some hf
                refine gg_cVI (As := []) hC hw (X12_selectedCount_M l E D A h224) h225 rfl g_ml_L_140 hd_X12_selectedCount (Nat.le_of_ble_eq_true rfl) (Nat.le_of_ble_eq_true rfl) hl.1 rfl (Nat.le_of_ble_eq_true rfl) dL_act_671 (fun H locs cells slots hw => ?_)
                refine lv_istore (lv' := [(11, .int x223), (10, .int x220), (9, .int x133), (8, .int s0), (0, .ref l0), (1, .ref l1), (3, .int l3), (4, .int l4), (5, .int l5), (6, .int l6), (7, .int l7)]) hx hb dL_act_674 hl (by decide) rfl (fun ls hl => ?_)
                refine lv_aload_n hx hb dL_act_676 rfl (lv_at hl 4 rfl) ?_
                refine lv_iload hx hb dL_act_677 (lv_at hl 7 rfl) ?_
                refine lv_iload hx hb dL_act_679 (lv_at hl 1 rfl) ?_
                obtain ⟨x226, h227, hf⟩ := ob_some hf
                refine gg_cSI (As := [.int l4, .int x220]) hC hw (L_most_M l hst E D A h227) g_ml_L_146 hd_L_most.2 (Nat.le_of_ble_eq_true rfl) (Nat.le_of_ble_eq_true rfl) hl.1 rfl (Nat.le_of_ble_eq_true rfl) dL_act_681 (fun H locs cells slots hw => ?_)
                obtain ⟨_, h230, hf⟩ := ob_some hf
                obtain ⟨x228, h229, hf⟩ := ob_some hf
                refine gg_yVI (As := [.int x226]) hC hw (X12_removeCondition_M l hst E D A h229) h230 rfl g_ml_L_201 hd_X12_removeCondition (Nat.le_of_ble_eq_true rfl) (Nat.le_of_ble_eq_true rfl) hl.1 rfl (Nat.le_of_ble_eq_true rfl) dL_act_684 (fun k9 σ9 he => ?_) (fun x232 σ231 he H locs cells slots hw => ?_)
                · subst he
                  replace hf := gtry_inl.symm.trans hf
                  cases hf
                · subst he
                  replace hf := gtry_inr.symm.trans hf
                  refine lv_istore (lv' := [(12, .int x232), (11, .int x223), (10, .int x220), (9, .int x133), (8, .int s0), (0, .ref l0), (1, .ref l1), (3, .int l3), (4, .int l4), (5, .int l5), (6, .int l6), (7, .int l7)]) hx hb dL_act_687 hl (by decide) rfl (fun ls hl => ?_)
                  refine lv_iload hx hb dL_act_689 (lv_at hl 0 rfl) ?_
                  refine lv_iload hx hb dL_act_691 (lv_at hl 1 rfl) ?_
                  refine lv_icmp_lt (tgt := 720) hx hb dL_act_693 (by decide) (fun c241 => ?_) (fun c241 => ?_)
                  · replace hf := (if_pos c241).symm.trans hf
                    exact L_act_720_W hC hQ hst hf hw (lv_sub hl [] rfl)
                  · replace hf := (if_neg c241).symm.trans hf
                    refine lv_iload hx hb dL_act_696 (lv_at hl 0 rfl) ?_
                    refine lv_aload_n hx hb dL_act_698 rfl (lv_at hl 5 rfl) ?_
                    obtain ⟨_, h235, hf⟩ := ob_some hf
                    obtain ⟨x233, h234, hf⟩ := ob_some hf
                    refine gg_cVI (As := []) hC hw (X12_selectedCount_M l E D A h234) h235 rfl g_ml_L_140 hd_X12_selectedCount (Nat.le_of_ble_eq_true rfl) (Nat.le_of_ble_eq_true rfl) hl.1 rfl (Nat.le_of_ble_eq_true rfl) dL_act_699 (fun H locs cells slots hw => ?_)
                    refine lv_icmp_ne (tgt := 720) hx hb dL_act_702 (by decide) (fun c240 => ?_) (fun c240 => ?_)
                    · replace hf := (if_neg c240).symm.trans hf
                      exact L_act_720_W hC hQ hst hf hw (lv_sub hl [] rfl)
                    · replace hf := (if_pos c240).symm.trans hf
                      refine lv_aload_n hx hb dL_act_705 rfl (lv_at hl 5 rfl) ?_
                      obtain ⟨_, h238, hf⟩ := ob_some hf
                      obtain ⟨x236, h237, hf⟩ := ob_some hf
                      refine gg_cVI (As := []) hC hw (X12_conditionCount_M l E D A h237) h238 rfl g_ml_L_40 hd_X12_conditionCount (Nat.le_of_ble_eq_true rfl) (Nat.le_of_ble_eq_true rfl) hl.1 rfl (Nat.le_of_ble_eq_true rfl) dL_act_706 (fun H locs cells slots hw => ?_)
                      refine lv_iload hx hb dL_act_709 (lv_at hl 2 rfl) ?_
                      refine lv_iconst (v := 1) hx hb dL_act_711 (by decide) ?_
                      refine lv_isub hx hb dL_act_712 ?_
                      refine lv_icmp_ne (tgt := 720) hx hb dL_act_713 (by decide) (fun c239 => ?_) (fun c239 => ?_)
                      · replace hf := (if_neg c239).symm.trans hf
                        exact L_act_720_W hC hQ hst hf hw (lv_sub hl [] rfl)
                      · replace hf := (if_pos c239).symm.trans hf
                        refine lv_iconst (v := 1) hx hb dL_act_716 (by decide) ?_
                        refine lv_goto (tgt := 721) hx hb dL_act_717 (by decide) ?_
                        cases hf
                        exact hQ _ _ _ _ _ _ dL_act_721 gz1 hw
              · replace hf := (if_pos c246).symm.trans hf
                refine lv_aload_n hx hb dL_act_655 rfl (lv_at hl 3 rfl) ?_
                obtain ⟨_, h244, hf⟩ := ob_some hf
                obtain ⟨x242, h243, hf⟩ := ob_some hf
                refine gg_cVI (As := []) hC hw (X12_selectedCount_M l E D A h243) h244 rfl g_ml_L_140 hd_X12_selectedCount (Nat.le_of_ble_eq_true rfl) (Nat.le_of_ble_eq_true rfl) hl.1 rfl (Nat.le_of_ble_eq_true rfl) dL_act_656 (fun H locs cells slots hw => ?_)
                refine lv_iload hx hb dL_act_659 (lv_at hl 8 rfl) ?_
                refine lv_icmp_ne (tgt := 668) hx hb dL_act_661 (by decide) (fun c245 => ?_) (fun c245 => ?_)
                · replace hf := (if_neg c245).symm.trans hf
                  refine lv_iconst (v := 0) hx hb dL_act_668 (by decide) ?_
                  cases hf
                  exact hQ _ _ _ _ _ _ dL_act_669 gz0 hw
                · replace hf := (if_pos c245).symm.trans hf
                  refine lv_iconst (v := 1) hx hb dL_act_664 (by decide) ?_
                  refine lv_goto (tgt := 669) hx hb dL_act_665 (by decide) ?_
                  cases hf
                  exact hQ _ _ _ _ _ _ dL_act_669 gz1 hw
          · replace hf := (if_neg c276).symm.trans hf
            refine lv_aload_n hx hb dL_act_477 rfl (lv_at hl 2 rfl) ?_
            obtain ⟨_, h250, hf⟩ := ob_some hf
            obtain ⟨x248, h249, hf⟩ := ob_some hf
            refine gg_cVI (As := []) hC hw (X12_conditionCount_M l E D A h249) h250 rfl g_ml_L_40 hd_X12_conditionCount (Nat.le_of_ble_eq_true rfl) (Nat.le_of_ble_eq_true rfl) hl.1 rfl (Nat.le_of_ble_eq_true rfl) dL_act_478 (fun H locs cells slots hw => ?_)
            refine lv_istore (lv' := [(10, .int x248), (9, .int x133), (8, .int s0), (0, .ref l0), (1, .ref l1), (3, .int l3), (4, .int l4), (5, .int l5), (6, .int l6), (7, .int l7)]) hx hb dL_act_481 hl (by decide) rfl (fun ls hl => ?_)
            refine lv_iload hx hb dL_act_483 (lv_at hl 0 rfl) ?_
            refine lv_bipush (v := 8) hx hb dL_act_485 (by decide) ?_
            refine lv_icmp_ne (tgt := 503) hx hb dL_act_487 (by decide) (fun c275 => ?_) (fun c275 => ?_)
            · replace hf := (if_neg c275).symm.trans hf
              refine lv_aload_n hx hb dL_act_503 rfl (lv_at hl 3 rfl) ?_
              obtain ⟨_, h253, hf⟩ := ob_some hf
              obtain ⟨x251, h252, hf⟩ := ob_some hf
              refine gg_cVI (As := []) hC hw (X12_selectedCount_M l E D A h252) h253 rfl g_ml_L_140 hd_X12_selectedCount (Nat.le_of_ble_eq_true rfl) (Nat.le_of_ble_eq_true rfl) hl.1 rfl (Nat.le_of_ble_eq_true rfl) dL_act_504 (fun H locs cells slots hw => ?_)
              refine lv_istore (lv' := [(11, .int x251), (10, .int x248), (9, .int x133), (8, .int s0), (0, .ref l0), (1, .ref l1), (3, .int l3), (4, .int l4), (5, .int l5), (6, .int l6), (7, .int l7)]) hx hb dL_act_507 hl (by decide) rfl (fun ls hl => ?_)
              refine lv_iload_n hx hb dL_act_509 rfl (lv_at hl 6 rfl) ?_
              refine lv_bipush (v := 15) hx hb dL_act_510 (by decide) ?_
              refine lv_icmp_ge (tgt := 526) hx hb dL_act_512 (by decide) (fun c270 => ?_) (fun c270 => ?_)
              · replace hf := (if_pos c270).symm.trans hf
                refine lv_iload_n hx hb dL_act_526 rfl (lv_at hl 6 rfl) ?_
                refine lv_bipush (v := 17) hx hb dL_act_527 (by decide) ?_
                refine lv_icmp_ge (tgt := 543) hx hb dL_act_529 (by decide) (fun c264 => ?_) (fun c264 => ?_)
                · replace hf := (if_pos c264).symm.trans hf
                  refine lv_aload_n hx hb dL_act_543 rfl (lv_at hl 4 rfl) ?_
                  refine lv_iload hx hb dL_act_544 (lv_at hl 10 rfl) ?_
                  refine lv_iload hx hb dL_act_546 (lv_at hl 3 rfl) ?_
                  obtain ⟨_, h256, hf⟩ := ob_some hf
                  obtain ⟨x254, h255, hf⟩ := ob_some hf
                  refine gg_yVI (As := [.int l7, .int s0]) hC hw (X12_addGreater_M l hst E D A h255) h256 rfl g_ml_L_198 hd_X12_addGreater (Nat.le_of_ble_eq_true rfl) (Nat.le_of_ble_eq_true rfl) hl.1 rfl (Nat.le_of_ble_eq_true rfl) dL_act_548 (fun k9 σ9 he => ?_) (fun x258 σ257 he H locs cells slots hw => ?_)
                  · subst he
                    replace hf := gtry_inl.symm.trans hf
                    cases hf
                  · subst he
                    replace hf := gtry_inr.symm.trans hf
                    exact L_act_551_W hC hQ hst hf hw (lv_sub hl [4, 6, 10, 3, 1, 0] rfl)
                · replace hf := (if_neg c264).symm.trans hf
                  refine lv_aload_n hx hb dL_act_532 rfl (lv_at hl 4 rfl) ?_
                  refine lv_iload hx hb dL_act_533 (lv_at hl 10 rfl) ?_
                  refine lv_iload hx hb dL_act_535 (lv_at hl 3 rfl) ?_
                  obtain ⟨_, h261, hf⟩ := ob_some hf
                  obtain ⟨x259, h260, hf⟩ := ob_some hf
                  refine gg_yVI (As := [.int l7, .int s0]) hC hw (X12_addEqual_M l hst E D A h260) h261 rfl g_ml_L_195 hd_X12_addEqual (Nat.le_of_ble_eq_true rfl) (Nat.le_of_ble_eq_true rfl) hl.1 rfl (Nat.le_of_ble_eq_true rfl) dL_act_537 (fun k9 σ9 he => ?_) (fun x263 σ262 he H locs cells slots hw => ?_)
                  · subst he
                    replace hf := gtry_inl.symm.trans hf
                    cases hf
                  · subst he
                    replace hf := gtry_inr.symm.trans hf
                    refine lv_goto (tgt := 551) hx hb dL_act_540 (by decide) ?_
                    exact L_act_551_W hC hQ hst hf hw (lv_sub hl [4, 6, 10, 3, 1, 0] rfl)
              · replace hf := (if_neg c270).symm.trans hf
                refine lv_aload_n hx hb dL_act_515 rfl (lv_at hl 4 rfl) ?_
                refine lv_iload hx hb dL_act_516 (lv_at hl 10 rfl) ?_
                refine lv_iload hx hb dL_act_518 (lv_at hl 3 rfl) ?_
                obtain ⟨_, h267, hf⟩ := ob_some hf
                obtain ⟨x265, h266, hf⟩ := ob_some hf
                refine gg_yVI (As := [.int l7, .int s0]) hC hw (X12_addLess_M l hst E D A h266) h267 rfl g_ml_L_192 hd_X12_addLess (Nat.le_of_ble_eq_true rfl) (Nat.le_of_ble_eq_true rfl) hl.1 rfl (Nat.le_of_ble_eq_true rfl) dL_act_520 (fun k9 σ9 he => ?_) (fun x269 σ268 he H locs cells slots hw => ?_)
                · subst he
                  replace hf := gtry_inl.symm.trans hf
                  cases hf
                · subst he
                  replace hf := gtry_inr.symm.trans hf
                  refine lv_goto (tgt := 551) hx hb dL_act_523 (by decide) ?_
                  exact L_act_551_W hC hQ hst hf hw (lv_sub hl [4, 6, 10, 3, 1, 0] rfl)
            · replace hf := (if_pos c275).symm.trans hf
              refine lv_aload_n hx hb dL_act_490 rfl (lv_at hl 3 rfl) ?_
              obtain ⟨_, h273, hf⟩ := ob_some hf
              obtain ⟨x271, h272, hf⟩ := ob_some hf
              refine gg_cVI (As := []) hC hw (X12_strictestCondition_M l E D A h272) h273 rfl g_ml_L_124 hd_X12_strictestCondition (Nat.le_of_ble_eq_true rfl) (Nat.le_of_ble_eq_true rfl) hl.1 rfl (Nat.le_of_ble_eq_true rfl) dL_act_491 (fun H locs cells slots hw => ?_)
              refine lv_if_lt (tgt := 501) hx hb dL_act_494 (by decide) (fun c274 => ?_) (fun c274 => ?_)
              · replace hf := (if_pos c274).symm.trans hf
                refine lv_iconst (v := 0) hx hb dL_act_501 (by decide) ?_
                cases hf
                exact hQ _ _ _ _ _ _ dL_act_502 gz0 hw
              · replace hf := (if_neg c274).symm.trans hf
                refine lv_iconst (v := 1) hx hb dL_act_497 (by decide) ?_
                refine lv_goto (tgt := 502) hx hb dL_act_498 (by decide) ?_
                cases hf
                exact hQ _ _ _ _ _ _ dL_act_502 gz1 hw
        · replace hf := (if_neg c280).symm.trans hf
          refine lv_iload hx hb dL_act_314 (lv_at hl 5 rfl) ?_
          refine lv_iconst (v := 5) hx hb dL_act_316 (by decide) ?_
          refine lv_ishr hx hb dL_act_317 ?_
          refine lv_iconst (v := 2) hx hb dL_act_318 (by decide) ?_
          obtain ⟨x277, h278, hf⟩ := ob_some hf
          refine gg_cSI (As := [.int (l4 >>> ((5 : Int32) &&& 31)), .int (2 : Int32)]) hC hw (L_most_M l hst E D A h278) g_ml_L_146 hd_L_most.2 (Nat.le_of_ble_eq_true rfl) (Nat.le_of_ble_eq_true rfl) hl.1 rfl (Nat.le_of_ble_eq_true rfl) dL_act_319 (fun H locs cells slots hw => ?_)
          refine lv_if_ne (tgt := 329) hx hb dL_act_322 (by decide) (fun c279 => ?_) (fun c279 => ?_)
          · replace hf := (if_neg c279).symm.trans hf
            refine lv_iconst (v := 0) hx hb dL_act_329 (by decide) ?_
            exact L_act_330_W hC hQ hst hf hw (lv_sub hl [2, 6, 8] rfl)
          · replace hf := (if_pos c279).symm.trans hf
            refine lv_iconst (v := 1) hx hb dL_act_325 (by decide) ?_
            refine lv_goto (tgt := 330) hx hb dL_act_326 (by decide) ?_
            exact L_act_330_W hC hQ hst hf hw (lv_sub hl [2, 6, 8] rfl)
      · replace hf := (if_neg c309).symm.trans hf
        refine lv_aload_n hx hb dL_act_243 rfl (lv_at hl 2 rfl) ?_
        refine lv_iload hx hb dL_act_244 (lv_at hl 8 rfl) ?_
        refine lv_iload hx hb dL_act_246 (lv_at hl 0 rfl) ?_
        obtain ⟨_, h283, hf⟩ := ob_some hf
        obtain ⟨x281, h282, hf⟩ := ob_some hf
        refine gg_yVI (As := [.int l7, .int x133]) hC hw (X12_value_M l hst E D A h282) h283 rfl g_ml_L_43 hd_X12_value (Nat.le_of_ble_eq_true rfl) (Nat.le_of_ble_eq_true rfl) hl.1 rfl (Nat.le_of_ble_eq_true rfl) dL_act_248 (fun k9 σ9 he => ?_) (fun x285 σ284 he H locs cells slots hw => ?_)
        · subst he
          replace hf := gtry_inl.symm.trans hf
          cases hf
        · subst he
          replace hf := gtry_inr.symm.trans hf
          refine lv_istore (lv' := [(10, .int x285), (9, .int x133), (8, .int s0), (0, .ref l0), (1, .ref l1), (3, .int l3), (4, .int l4), (5, .int l5), (6, .int l6), (7, .int l7)]) hx hb dL_act_251 hl (by decide) rfl (fun ls hl => ?_)
          refine lv_aload_n hx hb dL_act_253 rfl (lv_at hl 3 rfl) ?_
          refine lv_iload hx hb dL_act_254 (lv_at hl 9 rfl) ?_
          refine lv_iload hx hb dL_act_256 (lv_at hl 2 rfl) ?_
          obtain ⟨_, h288, hf⟩ := ob_some hf
          obtain ⟨x286, h287, hf⟩ := ob_some hf
          refine gg_yVI (As := [.int l7, .int s0]) hC hw (X12_bitWidthWith_M l hst E D A h287) h288 rfl g_ml_L_181 hd_X12_bitWidthWith (Nat.le_of_ble_eq_true rfl) (Nat.le_of_ble_eq_true rfl) hl.1 rfl (Nat.le_of_ble_eq_true rfl) dL_act_258 (fun k9 σ9 he => ?_) (fun x290 σ289 he H locs cells slots hw => ?_)
          · subst he
            replace hf := gtry_inl.symm.trans hf
            cases hf
          · subst he
            replace hf := gtry_inr.symm.trans hf
            refine lv_istore (lv' := [(11, .int x290), (10, .int x285), (9, .int x133), (8, .int s0), (0, .ref l0), (1, .ref l1), (3, .int l3), (4, .int l4), (5, .int l5), (6, .int l6), (7, .int l7)]) hx hb dL_act_261 hl (by decide) rfl (fun ls hl => ?_)
            refine lv_aload_n hx hb dL_act_263 rfl (lv_at hl 4 rfl) ?_
            refine lv_iload hx hb dL_act_264 (lv_at hl 10 rfl) ?_
            refine lv_iload hx hb dL_act_266 (lv_at hl 2 rfl) ?_
            refine lv_iload hx hb dL_act_268 (lv_at hl 3 rfl) ?_
            obtain ⟨_, h293, hf⟩ := ob_some hf
            obtain ⟨x291, h292, hf⟩ := ob_some hf
            refine gg_yVI (As := [.int l7, .int x133, .int s0]) hC hw (X12_setValue_M l hst E D A h292) h293 rfl g_ml_L_184 hd_X12_setValue (Nat.le_of_ble_eq_true rfl) (Nat.le_of_ble_eq_true rfl) hl.1 rfl (Nat.le_of_ble_eq_true rfl) dL_act_270 (fun k9 σ9 he => ?_) (fun x295 σ294 he H locs cells slots hw => ?_)
            · subst he
              replace hf := gtry_inl.symm.trans hf
              cases hf
            · subst he
              replace hf := gtry_inr.symm.trans hf
              refine lv_iload hx hb dL_act_273 (lv_at hl 1 rfl) ?_
              refine lv_icmp_ne (tgt := 306) hx hb dL_act_275 (by decide) (fun c308 => ?_) (fun c308 => ?_)
              · replace hf := (if_neg c308).symm.trans hf
                exact L_act_306_W hC hQ hst hf hw (lv_sub hl [] rfl)
              · replace hf := (if_pos c308).symm.trans hf
                refine lv_aload_n hx hb dL_act_278 rfl (lv_at hl 4 rfl) ?_
                refine lv_iload hx hb dL_act_279 (lv_at hl 10 rfl) ?_
                refine lv_iload hx hb dL_act_281 (lv_at hl 2 rfl) ?_
                obtain ⟨_, h298, hf⟩ := ob_some hf
                obtain ⟨x296, h297, hf⟩ := ob_some hf
                refine gg_yVI (As := [.int l7, .int x133]) hC hw (X12_value_M l hst E D A h297) h298 rfl g_ml_L_43 hd_X12_value (Nat.le_of_ble_eq_true rfl) (Nat.le_of_ble_eq_true rfl) hl.1 rfl (Nat.le_of_ble_eq_true rfl) dL_act_283 (fun k9 σ9 he => ?_) (fun x300 σ299 he H locs cells slots hw => ?_)
                · subst he
                  replace hf := gtry_inl.symm.trans hf
                  cases hf
                · subst he
                  replace hf := gtry_inr.symm.trans hf
                  refine lv_iload hx hb dL_act_286 (lv_at hl 3 rfl) ?_
                  refine lv_icmp_ne (tgt := 306) hx hb dL_act_288 (by decide) (fun c307 => ?_) (fun c307 => ?_)
                  · replace hf := (if_neg c307).symm.trans hf
                    exact L_act_306_W hC hQ hst hf hw (lv_sub hl [] rfl)
                  · replace hf := (if_pos c307).symm.trans hf
                    refine lv_aload_n hx hb dL_act_291 rfl (lv_at hl 4 rfl) ?_
                    refine lv_iload hx hb dL_act_292 (lv_at hl 10 rfl) ?_
                    obtain ⟨_, h303, hf⟩ := ob_some hf
                    obtain ⟨x301, h302, hf⟩ := ob_some hf
                    refine gg_yVI (As := [.int l7]) hC hw (X12_bitWidth_M l hst E D A h302) h303 rfl g_ml_L_59 hd_X12_bitWidth (Nat.le_of_ble_eq_true rfl) (Nat.le_of_ble_eq_true rfl) hl.1 rfl (Nat.le_of_ble_eq_true rfl) dL_act_294 (fun k9 σ9 he => ?_) (fun x305 σ304 he H locs cells slots hw => ?_)
                    · subst he
                      replace hf := gtry_inl.symm.trans hf
                      cases hf
                    · subst he
                      replace hf := gtry_inr.symm.trans hf
                      refine lv_iload hx hb dL_act_297 (lv_at hl 0 rfl) ?_
                      refine lv_icmp_ne (tgt := 306) hx hb dL_act_299 (by decide) (fun c306 => ?_) (fun c306 => ?_)
                      · replace hf := (if_neg c306).symm.trans hf
                        exact L_act_306_W hC hQ hst hf hw (lv_sub hl [] rfl)
                      · replace hf := (if_pos c306).symm.trans hf
                        refine lv_iconst (v := 1) hx hb dL_act_302 (by decide) ?_
                        refine lv_goto (tgt := 307) hx hb dL_act_303 (by decide) ?_
                        cases hf
                        exact hQ _ _ _ _ _ _ dL_act_307 gz1 hw
    · replace hf := (if_pos c310).symm.trans hf
      exact L_act_83_W hC hQ hst hf hw (lv_sub hl [1, 2, 4, 5, 6] rfl)

def L_act (E : gE) (l0 : Nat) (l1 : Nat) (l2 : Int32) (σ : gS) : Option (Int32 × gS) :=
  ob (L_most_f E σ l2 (26 : Int32)) fun x312 =>
  ob (gcl σ l0 10) fun _ =>
  ob (X12_columnCount_f E σ l0) fun x314 =>
  ob (gcl σ l0 10) fun _ =>
  ob (X12_rowCount_f E σ l0) fun x317 =>
  ob (L_most_f E σ (l2 >>> ((4 : Int32) &&& 31)) x314) fun x320 =>
  ob (L_most_f E σ ((l2 >>> ((4 : Int32) &&& 31)) >>> ((2 : Int32) &&& 31)) (3 : Int32)) fun x322 =>
  if x322 = 0 then
    ob (L_most_f E σ (l2 >>> ((4 : Int32) &&& 31)) (400 : Int32)) fun x326 =>
    L_act_70 E l0 l1 x312 (l2 >>> ((4 : Int32) &&& 31)) x314 x317 x320 (x326 - (200 : Int32)) σ
  else
    ob (L_most_f E σ ((l2 >>> ((4 : Int32) &&& 31)) >>> ((3 : Int32) &&& 31)) (7 : Int32)) fun x324 =>
    L_act_70 E l0 l1 x312 (l2 >>> ((4 : Int32) &&& 31)) x314 x317 x320 (x324 - (3 : Int32)) σ
set_option maxHeartbeats 4000000 in
set_option maxRecDepth 100000 in
theorem L_act_W {σ : gS} {l0 : Nat} {l1 : Nat} {l2 : Int32} {res : (Int32 × gS)} {ls : Array Slot} (hC : gC E D A p R s m args meth c cL_act 18 RL "act" 10 223) (hQ : gQI E D A p l e R s m args below meth c Q cL_act FieldType.boolean res) (hst : l.stackTraces = false) (hf : L_act E l0 l1 l2 σ = some res) (hw : gW E D A s σ H locs) (hl : lv_has ls 18 [(0, .ref l0), (1, .ref l1), (2, .int l2)]) : W p l e R s m args below meth c H locs cells slots Q (F0 m 0 ls []) := by
  have hC0 := hC
  obtain ⟨hx, hb, hml, hown, hts, -⟩ := hC0
  unfold L_act at hf
  refine lv_iload_n hx hb dL_act_0 rfl (lv_at hl 2 rfl) ?_
  refine lv_bipush (v := 26) hx hb dL_act_1 (by decide) ?_
  obtain ⟨x312, h313, hf⟩ := ob_some hf
  refine gg_cSI (As := [.int l2, .int (26 : Int32)]) hC hw (L_most_M l hst E D A h313) g_ml_L_146 hd_L_most.2 (Nat.le_of_ble_eq_true rfl) (Nat.le_of_ble_eq_true rfl) hl.1 rfl (Nat.le_of_ble_eq_true rfl) dL_act_3 (fun H locs cells slots hw => ?_)
  refine lv_istore_n (lv' := [(3, .int x312), (0, .ref l0), (1, .ref l1), (2, .int l2)]) hx hb dL_act_6 rfl hl (by decide) rfl (fun ls hl => ?_)
  refine lv_iload_n hx hb dL_act_7 rfl (lv_at hl 3 rfl) ?_
  refine lv_iconst (v := 4) hx hb dL_act_8 (by decide) ?_
  refine lv_ishr hx hb dL_act_9 ?_
  refine lv_istore (lv' := [(4, .int (l2 >>> ((4 : Int32) &&& 31))), (3, .int x312), (0, .ref l0), (1, .ref l1), (2, .int l2)]) hx hb dL_act_10 hl (by decide) rfl (fun ls hl => ?_)
  refine lv_aload_n hx hb dL_act_12 rfl (lv_at hl 2 rfl) ?_
  obtain ⟨_, h316, hf⟩ := ob_some hf
  obtain ⟨x314, h315, hf⟩ := ob_some hf
  refine gg_cVI (As := []) hC hw (X12_columnCount_M l E D A h315) h316 rfl g_ml_L_30 hd_X12_columnCount (Nat.le_of_ble_eq_true rfl) (Nat.le_of_ble_eq_true rfl) hl.1 rfl (Nat.le_of_ble_eq_true rfl) dL_act_13 (fun H locs cells slots hw => ?_)
  refine lv_istore (lv' := [(5, .int x314), (4, .int (l2 >>> ((4 : Int32) &&& 31))), (3, .int x312), (0, .ref l0), (1, .ref l1), (2, .int l2)]) hx hb dL_act_16 hl (by decide) rfl (fun ls hl => ?_)
  refine lv_aload_n hx hb dL_act_18 rfl (lv_at hl 3 rfl) ?_
  obtain ⟨_, h319, hf⟩ := ob_some hf
  obtain ⟨x317, h318, hf⟩ := ob_some hf
  refine gg_cVI (As := []) hC hw (X12_rowCount_M l E D A h318) h319 rfl g_ml_L_33 hd_X12_rowCount (Nat.le_of_ble_eq_true rfl) (Nat.le_of_ble_eq_true rfl) hl.1 rfl (Nat.le_of_ble_eq_true rfl) dL_act_19 (fun H locs cells slots hw => ?_)
  refine lv_istore (lv' := [(6, .int x317), (5, .int x314), (4, .int (l2 >>> ((4 : Int32) &&& 31))), (3, .int x312), (0, .ref l0), (1, .ref l1), (2, .int l2)]) hx hb dL_act_22 hl (by decide) rfl (fun ls hl => ?_)
  refine lv_iload hx hb dL_act_24 (lv_at hl 2 rfl) ?_
  refine lv_iload hx hb dL_act_26 (lv_at hl 1 rfl) ?_
  obtain ⟨x320, h321, hf⟩ := ob_some hf
  refine gg_cSI (As := [.int (l2 >>> ((4 : Int32) &&& 31)), .int x314]) hC hw (L_most_M l hst E D A h321) g_ml_L_146 hd_L_most.2 (Nat.le_of_ble_eq_true rfl) (Nat.le_of_ble_eq_true rfl) hl.1 rfl (Nat.le_of_ble_eq_true rfl) dL_act_28 (fun H locs cells slots hw => ?_)
  refine lv_istore (lv' := [(7, .int x320), (6, .int x317), (5, .int x314), (4, .int (l2 >>> ((4 : Int32) &&& 31))), (3, .int x312), (0, .ref l0), (1, .ref l1), (2, .int l2)]) hx hb dL_act_31 hl (by decide) rfl (fun ls hl => ?_)
  refine lv_iload hx hb dL_act_33 (lv_at hl 3 rfl) ?_
  refine lv_iconst (v := 2) hx hb dL_act_35 (by decide) ?_
  refine lv_ishr hx hb dL_act_36 ?_
  refine lv_iconst (v := 3) hx hb dL_act_37 (by decide) ?_
  obtain ⟨x322, h323, hf⟩ := ob_some hf
  refine gg_cSI (As := [.int ((l2 >>> ((4 : Int32) &&& 31)) >>> ((2 : Int32) &&& 31)), .int (3 : Int32)]) hC hw (L_most_M l hst E D A h323) g_ml_L_146 hd_L_most.2 (Nat.le_of_ble_eq_true rfl) (Nat.le_of_ble_eq_true rfl) hl.1 rfl (Nat.le_of_ble_eq_true rfl) dL_act_38 (fun H locs cells slots hw => ?_)
  refine lv_if_ne (tgt := 59) hx hb dL_act_41 (by decide) (fun c328 => ?_) (fun c328 => ?_)
  · replace hf := (if_neg c328).symm.trans hf
    refine lv_iload hx hb dL_act_59 (lv_at hl 3 rfl) ?_
    refine lv_iconst (v := 3) hx hb dL_act_61 (by decide) ?_
    refine lv_ishr hx hb dL_act_62 ?_
    refine lv_bipush (v := 7) hx hb dL_act_63 (by decide) ?_
    obtain ⟨x324, h325, hf⟩ := ob_some hf
    refine gg_cSI (As := [.int ((l2 >>> ((4 : Int32) &&& 31)) >>> ((3 : Int32) &&& 31)), .int (7 : Int32)]) hC hw (L_most_M l hst E D A h325) g_ml_L_146 hd_L_most.2 (Nat.le_of_ble_eq_true rfl) (Nat.le_of_ble_eq_true rfl) hl.1 rfl (Nat.le_of_ble_eq_true rfl) dL_act_65 (fun H locs cells slots hw => ?_)
    refine lv_iconst (v := 3) hx hb dL_act_68 (by decide) ?_
    refine lv_isub hx hb dL_act_69 ?_
    exact L_act_70_W hC hQ hst hf hw (lv_sub hl [5, 6, 4, 3, 2, 1, 0] rfl)
  · replace hf := (if_pos c328).symm.trans hf
    refine lv_iload hx hb dL_act_44 (lv_at hl 3 rfl) ?_
    refine lv_sipush (v := 400) hx hb dL_act_46 (by decide) ?_
    obtain ⟨x326, h327, hf⟩ := ob_some hf
    refine gg_cSI (As := [.int (l2 >>> ((4 : Int32) &&& 31)), .int (400 : Int32)]) hC hw (L_most_M l hst E D A h327) g_ml_L_146 hd_L_most.2 (Nat.le_of_ble_eq_true rfl) (Nat.le_of_ble_eq_true rfl) hl.1 rfl (Nat.le_of_ble_eq_true rfl) dL_act_49 (fun H locs cells slots hw => ?_)
    refine lv_sipush (v := 200) hx hb dL_act_52 (by decide) ?_
    refine lv_isub hx hb dL_act_55 ?_
    refine lv_goto (tgt := 70) hx hb dL_act_56 (by decide) ?_
    exact L_act_70_W hC hQ hst hf hw (lv_sub hl [5, 6, 4, 3, 2, 1, 0] rfl)

def L_act_f (E : gE) (l0 : Nat) (l1 : Nat) (l2 : Int32) (σ : gS) : Option (Int32 × gS) := L_act E l0 l1 l2 σ
set_option maxRecDepth 100000 in
theorem L_act_M (l : Launch) (hst : l.stackTraces = false) (E : gE) (D : va_G) (A : Nat → Prop) {l0 : Nat} {l1 : Nat} {l2 : Int32} {σ : gS} {res : (Int32 × gS)} (hf : L_act_f E l0 l1 l2 σ = some res) : gCI l E D A yL_act cL_act 18 10 223 (some FieldType.boolean) [.ref l0, .ref l1, .int l2] σ res := by
  refine gg_entI (own := RL) (nm := "act") (ty := FieldType.boolean) (by decide +kernel) rfl rfl (Nat.le_of_ble_eq_true rfl) rfl ?_
  intro p e R s m args below meth c Q ls hC hw hQ hl
  have hl : lv_has ls 18 [(0, .ref l0), (1, .ref l1), (2, .int l2)] := hl
  exact L_act_W hC hQ hst hf hw hl

end MN3
