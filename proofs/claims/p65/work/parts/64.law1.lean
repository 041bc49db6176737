/-! decompiled: the law -/
section ML0
variable {p : Program} {l : Launch} {e : Env} {R : Room} {s : State} {m : MethodId} {args : Array Value} {below : List Frame} {meth : Method} {c : Code} {H : Heap} {locs : List Loc} {cells slots : Nat} {Q : State → Prop} {nm : String} {E : gE} {D : va_G} {A : Nat → Prop}
def L_law_93 (E : gE) (r_62 : Nat → Nat → Nat → Int32 → Int32 → Nat → Int32 → gS → Option (Int32 × gS)) (r_72 : Nat → Nat → Nat → Int32 → Int32 → Nat → Int32 → Int32 → gS → Option (Int32 × gS)) (l0 : Nat) (l1 : Nat) (l2 : Nat) (l4 : Int32) (l5 : Int32) (l6 : Nat) (l7 : Int32) (l8 : Int32) (s0 : Nat) (s1 : Nat) (σ : gS) : Option (Int32 × gS) :=
  ob (gcl σ s1 11) fun _ =>
  ob (J4_append_15ec4_f E s1 s0 σ) fun x1 =>
  ob (L_cell_f E x1.2 l0 ((1 : Int32) + l7)) fun x4 =>
  ob (L_most_f E x1.2 ((x4 >>> ((l8 * (2 : Int32)) &&& 31)) + ((3 : Int32) * l8)) (9 : Int32)) fun x6 =>
  ob (gcl x1.2 x1.1 11) fun _ =>
  ob (J4_append_bf812_f E x1.1 (x6 - (4 : Int32)) x1.2) fun x8 =>
  r_72 l0 l1 l2 l4 l5 l6 l7 (l8 + 1) x8.2
set_option maxHeartbeats 4000000 in
set_option maxRecDepth 100000 in
theorem L_law_93_W {σ : gS} {l0 : Nat} {l1 : Nat} {l2 : Nat} {l4 : Int32} {l5 : Int32} {l6 : Nat} {l7 : Int32} {l8 : Int32} {s0 : Nat} {s1 : Nat} {res : (Int32 × gS)} {ls : Array Slot} (hC : gC E D A p R s m args meth c cL_law 12 RL nm 13 289) (hQ : gQI E D A p l e R s m args below meth c Q cL_law FieldType.boolean res) (hst : l.stackTraces = false) {r_62 : Nat → Nat → Nat → Int32 → Int32 → Nat → Int32 → gS → Option (Int32 × gS)} (h_62 : ∀ {l0 : Nat} {l1 : Nat} {l2 : Nat} {l4 : Int32} {l5 : Int32} {l6 : Nat} {l7 : Int32} {σ : gS} {H : Heap} {locs : List Loc} {cells slots : Nat} {ls : Array Slot}, r_62 l0 l1 l2 l4 l5 l6 l7 σ = some res → gW E D A s σ H locs → lv_has ls 12 [(0, .ref l0), (1, .ref l1), (2, .ref l2), (4, .int l4), (5, .int l5), (6, .ref l6), (7, .int l7)] → W p l e R s m args below meth c H locs cells slots Q (F0 m 62 ls [])) {r_72 : Nat → Nat → Nat → Int32 → Int32 → Nat → Int32 → Int32 → gS → Option (Int32 × gS)} (h_72 : ∀ {l0 : Nat} {l1 : Nat} {l2 : Nat} {l4 : Int32} {l5 : Int32} {l6 : Nat} {l7 : Int32} {l8 : Int32} {σ : gS} {H : Heap} {locs : List Loc} {cells slots : Nat} {ls : Array Slot}, r_72 l0 l1 l2 l4 l5 l6 l7 l8 σ = some res → gW E D A s σ H locs → lv_has ls 12 [(0, .ref l0), (1, .ref l1), (2, .ref l2), (4, .int l4), (5, .int l5), (6, .ref l6), (7, .int l7), (8, .int l8)] → W p l e R s m args below meth c H locs cells slots Q (F0 m 72 ls [])) (hf : L_law_93 E r_62 r_72 l0 l1 l2 l4 l5 l6 l7 l8 s0 s1 σ = some res) (hw : gW E D A s σ H locs) (hl : lv_has ls 12 [(0, .ref l0), (1, .ref l1), (2, .ref l2), (4, .int l4), (5, .int l5), (6, .ref l6), (7, .int l7), (8, .int l8)]) : W p l e R s m args below meth c H locs cells slots Q (F0 m 93 ls [.ref s0, .ref s1]) := by
  have hC0 := hC
  obtain ⟨hx, hb, hml, hown, hts, -⟩ := hC0
  unfold L_law_93 at hf
  obtain ⟨_, h3, hf⟩ := ob_some hf
  obtain ⟨x1, h2, hf⟩ := ob_some hf
  refine gg_cVR (As := [.ref s0]) hC hw (J4_append_15ec4_M l E D A h2) h3 rfl g_ml_L_159 hd_J4_append_15ec4 (Nat.le_of_ble_eq_true rfl) (Nat.le_of_ble_eq_true rfl) hl.1 rfl (Nat.le_of_ble_eq_true rfl) dL_law_93 (fun H locs cells slots hw => ?_)
  refine lv_aload_n hx hb dL_law_96 rfl (lv_at hl 0 rfl) ?_
  refine lv_iconst (v := 1) hx hb dL_law_97 (by decide) ?_
  refine lv_iload hx hb dL_law_98 (lv_at hl 6 rfl) ?_
  refine lv_iadd hx hb dL_law_100 ?_
  obtain ⟨x4, h5, hf⟩ := ob_some hf
  refine gg_cSI (As := [.ref l0, .int ((1 : Int32) + l7)]) hC hw (L_cell_M l hst E D A h5) g_ml_L_211 hd_L_cell.2 (Nat.le_of_ble_eq_true rfl) (Nat.le_of_ble_eq_true rfl) hl.1 rfl (Nat.le_of_ble_eq_true rfl) dL_law_101 (fun H locs cells slots hw => ?_)
  refine lv_iload hx hb dL_law_104 (lv_at hl 7 rfl) ?_
  refine lv_iconst (v := 2) hx hb dL_law_106 (by decide) ?_
  refine lv_imul hx hb dL_law_107 ?_
  refine lv_ishr hx hb dL_law_108 ?_
  refine lv_iconst (v := 3) hx hb dL_law_109 (by decide) ?_
  refine lv_iload hx hb dL_law_110 (lv_at hl 7 rfl) ?_
  refine lv_imul hx hb dL_law_112 ?_
  refine lv_iadd hx hb dL_law_113 ?_
  refine lv_bipush (v := 9) hx hb dL_law_114 (by decide) ?_
  obtain ⟨x6, h7, hf⟩ := ob_some hf
  refine gg_cSI (As := [.int ((x4 >>> ((l8 * (2 : Int32)) &&& 31)) + ((3 : Int32) * l8)), .int (9 : Int32)]) hC hw (L_most_M l hst E D A h7) g_ml_L_146 hd_L_most.2 (Nat.le_of_ble_eq_true rfl) (Nat.le_of_ble_eq_true rfl) hl.1 rfl (Nat.le_of_ble_eq_true rfl) dL_law_116 (fun H locs cells slots hw => ?_)
  refine lv_iconst (v := 4) hx hb dL_law_119 (by decide) ?_
  refine lv_isub hx hb dL_law_120 ?_
  obtain ⟨_, h10, hf⟩ := ob_some hf
  obtain ⟨x8, h9, hf⟩ := ob_some hf
  refine gg_cVR (As := [.int (x6 - (4 : Int32))]) hC hw (J4_append_bf812_M l E D A h9) h10 rfl g_ml_L_163 hd_J4_append_bf812 (Nat.le_of_ble_eq_true rfl) (Nat.le_of_ble_eq_true rfl) hl.1 rfl (Nat.le_of_ble_eq_true rfl) dL_law_121 (fun H locs cells slots hw => ?_)
  refine lv_pop hx hb dL_law_124 rfl ?_
  refine lv_iinc (v := (l8 + 1)) (lv' := [(8, .int (l8 + 1)), (0, .ref l0), (1, .ref l1), (2, .ref l2), (4, .int l4), (5, .int l5), (6, .ref l6), (7, .int l7)]) hx hb dL_law_125 hl (k := 7) rfl rfl (by decide) rfl (fun ls hl => ?_)
  refine lv_goto (tgt := 72) hx hb dL_law_128 (by decide) ?_
  exact h_72 hf hw (lv_sub hl [1, 2, 3, 4, 5, 6, 7, 0] rfl)

def L_law_72_s (E : gE) (r_62 : Nat → Nat → Nat → Int32 → Int32 → Nat → Int32 → gS → Option (Int32 × gS)) (r_72 : Nat → Nat → Nat → Int32 → Int32 → Nat → Int32 → Int32 → gS → Option (Int32 × gS)) (l0 : Nat) (l1 : Nat) (l2 : Nat) (l4 : Int32) (l5 : Int32) (l6 : Nat) (l7 : Int32) (l8 : Int32) (σ : gS) : Option (Int32 × gS) :=
  if l4 ≤ l8 then
    ob (gcl σ l6 11) fun _ =>
    ob (J4_append_cf468_f E l6 (59 : Int32) σ) fun x11 =>
    r_62 l0 l1 l2 l4 l5 l6 (l7 + 1) x11.2
  else
    if l8 ≤ 0 then
      L_law_93 E r_62 r_72 l0 l1 l2 l4 l5 l6 l7 l8 (gst E 2) l6 σ
    else
      L_law_93 E r_62 r_72 l0 l1 l2 l4 l5 l6 l7 l8 (gst E 1) l6 σ
set_option maxHeartbeats 4000000 in
set_option maxRecDepth 100000 in
theorem L_law_72_s_W {σ : gS} {l0 : Nat} {l1 : Nat} {l2 : Nat} {l4 : Int32} {l5 : Int32} {l6 : Nat} {l7 : Int32} {l8 : Int32} {res : (Int32 × gS)} {ls : Array Slot} (hC : gC E D A p R s m args meth c cL_law 12 RL nm 13 289) (hQ : gQI E D A p l e R s m args below meth c Q cL_law FieldType.boolean res) (hst : l.stackTraces = false) {r_62 : Nat → Nat → Nat → Int32 → Int32 → Nat → Int32 → gS → Option (Int32 × gS)} (h_62 : ∀ {l0 : Nat} {l1 : Nat} {l2 : Nat} {l4 : Int32} {l5 : Int32} {l6 : Nat} {l7 : Int32} {σ : gS} {H : Heap} {locs : List Loc} {cells slots : Nat} {ls : Array Slot}, r_62 l0 l1 l2 l4 l5 l6 l7 σ = some res → gW E D A s σ H locs → lv_has ls 12 [(0, .ref l0), (1, .ref l1), (2, .ref l2), (4, .int l4), (5, .int l5), (6, .ref l6), (7, .int l7)] → W p l e R s m args below meth c H locs cells slots Q (F0 m 62 ls [])) {r_72 : Nat → Nat → Nat → Int32 → Int32 → Nat → Int32 → Int32 → gS → Option (Int32 × gS)} (h_72 : ∀ {l0 : Nat} {l1 : Nat} {l2 : Nat} {l4 : Int32} {l5 : Int32} {l6 : Nat} {l7 : Int32} {l8 : Int32} {σ : gS} {H : Heap} {locs : List Loc} {cells slots : Nat} {ls : Array Slot}, r_72 l0 l1 l2 l4 l5 l6 l7 l8 σ = some res → gW E D A s σ H locs → lv_has ls 12 [(0, .ref l0), (1, .ref l1), (2, .ref l2), (4, .int l4), (5, .int l5), (6, .ref l6), (7, .int l7), (8, .int l8)] → W p l e R s m args below meth c H locs cells slots Q (F0 m 72 ls [])) (hf : L_law_72_s E r_62 r_72 l0 l1 l2 l4 l5 l6 l7 l8 σ = some res) (hw : gW E D A s σ H locs) (hl : lv_has ls 12 [(0, .ref l0), (1, .ref l1), (2, .ref l2), (4, .int l4), (5, .int l5), (6, .ref l6), (7, .int l7), (8, .int l8)]) : W p l e R s m args below meth c H locs cells slots Q (F0 m 72 ls []) := by
  have hC0 := hC
  obtain ⟨hx, hb, hml, hown, hts, -⟩ := hC0
  unfold L_law_72_s at hf
  refine lv_iload hx hb dL_law_72 (lv_at hl 7 rfl) ?_
  refine lv_iload hx hb dL_law_74 (lv_at hl 3 rfl) ?_
  refine lv_icmp_ge (tgt := 131) hx hb dL_law_76 (by decide) (fun c15 => ?_) (fun c15 => ?_)
  · replace hf := (if_pos c15).symm.trans hf
    refine lv_aload hx hb dL_law_131 (lv_at hl 5 rfl) ?_
    refine lv_bipush (v := 59) hx hb dL_law_133 (by decide) ?_
    obtain ⟨_, h13, hf⟩ := ob_some hf
    obtain ⟨x11, h12, hf⟩ := ob_some hf
    refine gg_cVR (As := [.int (59 : Int32)]) hC hw (J4_append_cf468_M l E D A h12) h13 rfl g_ml_L_220 hd_J4_append_cf468 (Nat.le_of_ble_eq_true rfl) (Nat.le_of_ble_eq_true rfl) hl.1 rfl (Nat.le_of_ble_eq_true rfl) dL_law_135 (fun H locs cells slots hw => ?_)
    refine lv_pop hx hb dL_law_138 rfl ?_
    refine lv_iinc (v := (l7 + 1)) (lv' := [(7, .int (l7 + 1)), (0, .ref l0), (1, .ref l1), (2, .ref l2), (4, .int l4), (5, .int l5), (6, .ref l6), (8, .int l8)]) hx hb dL_law_139 hl (k := 6) rfl rfl (by decide) rfl (fun ls hl => ?_)
    refine lv_goto (tgt := 62) hx hb dL_law_142 (by decide) ?_
    exact h_62 hf hw (lv_sub hl [1, 2, 3, 4, 5, 6, 0] rfl)
  · replace hf := (if_neg c15).symm.trans hf
    refine lv_aload hx hb dL_law_79 (lv_at hl 5 rfl) ?_
    refine lv_iload hx hb dL_law_81 (lv_at hl 7 rfl) ?_
    refine lv_if_le (tgt := 91) hx hb dL_law_83 (by decide) (fun c14 => ?_) (fun c14 => ?_)
    · replace hf := (if_pos c14).symm.trans hf
      refine gg_ldcS hC (k := 2) rfl rfl rfl dL_law_91 ?_
      exact L_law_93_W hC hQ hst h_62 h_72 hf hw (lv_sub hl [0, 1, 2, 3, 4, 5, 6, 7] rfl)
    · replace hf := (if_neg c14).symm.trans hf
      refine gg_ldcS hC (k := 1) rfl rfl rfl dL_law_86 ?_
      refine lv_goto (tgt := 93) hx hb dL_law_88 (by decide) ?_
      exact L_law_93_W hC hQ hst h_62 h_72 hf hw (lv_sub hl [0, 1, 2, 3, 4, 5, 6, 7] rfl)
def L_law_72 (E : gE) (r_62 : Nat → Nat → Nat → Int32 → Int32 → Nat → Int32 → gS → Option (Int32 × gS)) : Nat → Nat → Nat → Nat → Int32 → Int32 → Nat → Int32 → Int32 → gS → Option (Int32 × gS)
  | 0 => fun _ _ _ _ _ _ _ _ _ => none
  | n + 1 => L_law_72_s E r_62 (L_law_72 E r_62 n)
theorem L_law_72_W {res : (Int32 × gS)} (hC : gC E D A p R s m args meth c cL_law 12 RL nm 13 289) (hQ : gQI E D A p l e R s m args below meth c Q cL_law FieldType.boolean res) (hst : l.stackTraces = false) {r_62 : Nat → Nat → Nat → Int32 → Int32 → Nat → Int32 → gS → Option (Int32 × gS)} (h_62 : ∀ {l0 : Nat} {l1 : Nat} {l2 : Nat} {l4 : Int32} {l5 : Int32} {l6 : Nat} {l7 : Int32} {σ : gS} {H : Heap} {locs : List Loc} {cells slots : Nat} {ls : Array Slot}, r_62 l0 l1 l2 l4 l5 l6 l7 σ = some res → gW E D A s σ H locs → lv_has ls 12 [(0, .ref l0), (1, .ref l1), (2, .ref l2), (4, .int l4), (5, .int l5), (6, .ref l6), (7, .int l7)] → W p l e R s m args below meth c H locs cells slots Q (F0 m 62 ls [])) : ∀ (n : Nat), ∀ {l0 : Nat} {l1 : Nat} {l2 : Nat} {l4 : Int32} {l5 : Int32} {l6 : Nat} {l7 : Int32} {l8 : Int32} {σ : gS} {H : Heap} {locs : List Loc} {cells slots : Nat} {ls : Array Slot}, L_law_72 E r_62 n l0 l1 l2 l4 l5 l6 l7 l8 σ = some res → gW E D A s σ H locs → lv_has ls 12 [(0, .ref l0), (1, .ref l1), (2, .ref l2), (4, .int l4), (5, .int l5), (6, .ref l6), (7, .int l7), (8, .int l8)] → W p l e R s m args below meth c H locs cells slots Q (F0 m 72 ls []) := by
  intro n
  induction n with
  | zero =>
    intros
    rename_i hf _ _
    exact absurd hf (fun h => by cases (show (none : Option (Int32 × gS)) = some res from h))
  | succ n ih =>
    intros
    rename_i hf hw hl
    exact L_law_72_s_W hC hQ hst h_62 ih hf hw hl

def L_law_176 (E : gE) (σ : gS) : Option (Int32 × gS) :=
  some ((0 : Int32), σ)
set_option maxHeartbeats 4000000 in
set_option maxRecDepth 100000 in
theorem L_law_176_W {σ : gS} {res : (Int32 × gS)} {ls : Array Slot} (hC : gC E D A p R s m args meth c cL_law 12 RL nm 13 289) (hQ : gQI E D A p l e R s m args below meth c Q cL_law FieldType.boolean res) (hst : l.stackTraces = false) (hf : L_law_176 E σ = some res) (hw : gW E D A s σ H locs) (hl : lv_has ls 12 []) : W p l e R s m args below meth c H locs cells slots Q (F0 m 176 ls []) := by
  have hC0 := hC
  obtain ⟨hx, hb, hml, hown, hts, -⟩ := hC0
  unfold L_law_176 at hf
  refine lv_iconst (v := 0) hx hb dL_law_176 (by decide) ?_
  cases hf
  exact hQ _ _ _ _ _ _ dL_law_177 gz0 hw

def L_law_231 (E : gE) (σ : gS) : Option (Int32 × gS) :=
  some ((0 : Int32), σ)
set_option maxHeartbeats 4000000 in
set_option maxRecDepth 100000 in
theorem L_law_231_W {σ : gS} {res : (Int32 × gS)} {ls : Array Slot} (hC : gC E D A p R s m args meth c cL_law 12 RL nm 13 289) (hQ : gQI E D A p l e R s m args below meth c Q cL_law FieldType.boolean res) (hst : l.stackTraces = false) (hf : L_law_231 E σ = some res) (hw : gW E D A s σ H locs) (hl : lv_has ls 12 []) : W p l e R s m args below meth c H locs cells slots Q (F0 m 231 ls []) := by
  have hC0 := hC
  obtain ⟨hx, hb, hml, hown, hts, -⟩ := hC0
  unfold L_law_231 at hf
  refine lv_iconst (v := 0) hx hb dL_law_231 (by decide) ?_
  cases hf
  exact hQ _ _ _ _ _ _ dL_law_232 gz0 hw

def L_law_324 (E : gE) (σ : gS) : Option (Int32 × gS) :=
  some ((0 : Int32), σ)
set_option maxHeartbeats 4000000 in
set_option maxRecDepth 100000 in
theorem L_law_324_W {σ : gS} {res : (Int32 × gS)} {ls : Array Slot} (hC : gC E D A p R s m args meth c cL_law 12 RL nm 13 289) (hQ : gQI E D A p l e R s m args below meth c Q cL_law FieldType.boolean res) (hst : l.stackTraces = false) (hf : L_law_324 E σ = some res) (hw : gW E D A s σ H locs) (hl : lv_has ls 12 []) : W p l e R s m args below meth c H locs cells slots Q (F0 m 324 ls []) := by
  have hC0 := hC
  obtain ⟨hx, hb, hml, hown, hts, -⟩ := hC0
  unfold L_law_324 at hf
  refine lv_iconst (v := 0) hx hb dL_law_324 (by decide) ?_
  cases hf
  exact hQ _ _ _ _ _ _ dL_law_325 gz0 hw

def L_law_354 (E : gE) (r_181 : Nat → Nat → Nat → Int32 → gS → Option (Int32 × gS)) (l0 : Nat) (l1 : Nat) (l2 : Nat) (l7 : Int32) (σ : gS) : Option (Int32 × gS) :=
  r_181 l0 l1 l2 (l7 + 1) σ
set_option maxHeartbeats 4000000 in
set_option maxRecDepth 100000 in
theorem L_law_354_W {σ : gS} {l0 : Nat} {l1 : Nat} {l2 : Nat} {l7 : Int32} {res : (Int32 × gS)} {ls : Array Slot} (hC : gC E D A p R s m args meth c cL_law 12 RL nm 13 289) (hQ : gQI E D A p l e R s m args below meth c Q cL_law FieldType.boolean res) (hst : l.stackTraces = false) {r_181 : Nat → Nat → Nat → Int32 → gS → Option (Int32 × gS)} (h_181 : ∀ {l0 : Nat} {l1 : Nat} {l2 : Nat} {l7 : Int32} {σ : gS} {H : Heap} {locs : List Loc} {cells slots : Nat} {ls : Array Slot}, r_181 l0 l1 l2 l7 σ = some res → gW E D A s σ H locs → lv_has ls 12 [(0, .ref l0), (1, .ref l1), (2, .ref l2), (7, .int l7)] → W p l e R s m args below meth c H locs cells slots Q (F0 m 181 ls [])) (hf : L_law_354 E r_181 l0 l1 l2 l7 σ = some res) (hw : gW E D A s σ H locs) (hl : lv_has ls 12 [(0, .ref l0), (1, .ref l1), (2, .ref l2), (7, .int l7)]) : W p l e R s m args below meth c H locs cells slots Q (F0 m 354 ls []) := by
  have hC0 := hC
  obtain ⟨hx, hb, hml, hown, hts, -⟩ := hC0
  unfold L_law_354 at hf
  refine lv_iinc (v := (l7 + 1)) (lv' := [(7, .int (l7 + 1)), (0, .ref l0), (1, .ref l1), (2, .ref l2)]) hx hb dL_law_354 hl (k := 3) rfl rfl (by decide) rfl (fun ls hl => ?_)
  refine lv_goto (tgt := 181) hx hb dL_law_357 (by decide) ?_
  exact h_181 hf hw (lv_sub hl [1, 2, 3, 0] rfl)

def L_law_326 (E : gE) (r_181 : Nat → Nat → Nat → Int32 → gS → Option (Int32 × gS)) (l0 : Nat) (l1 : Nat) (l2 : Nat) (l7 : Int32) (l9 : Nat) (l10 : Int32) (l11 : Nat) (σ : gS) : Option (Int32 × gS) :=
  ob (gcl σ l1 10) fun _ =>
  ob (X12_undoableCount_f E σ l1) fun x16 =>
  if x16 = l10 then
    if (8 : Int32) ≤ l10 then
      L_law_354 E r_181 l0 l1 l2 l7 σ
    else
      ob (L_alike_f E σ l9 l11) fun x19 =>
      if x19 = 0 then
        some ((0 : Int32), σ)
      else
        L_law_354 E r_181 l0 l1 l2 l7 σ
  else
    L_law_354 E r_181 l0 l1 l2 l7 σ
set_option maxHeartbeats 4000000 in
set_option maxRecDepth 100000 in
theorem L_law_326_W {σ : gS} {l0 : Nat} {l1 : Nat} {l2 : Nat} {l7 : Int32} {l9 : Nat} {l10 : Int32} {l11 : Nat} {res : (Int32 × gS)} {ls : Array Slot} (hC : gC E D A p R s m args meth c cL_law 12 RL nm 13 289) (hQ : gQI E D A p l e R s m args below meth c Q cL_law FieldType.boolean res) (hst : l.stackTraces = false) {r_181 : Nat → Nat → Nat → Int32 → gS → Option (Int32 × gS)} (h_181 : ∀ {l0 : Nat} {l1 : Nat} {l2 : Nat} {l7 : Int32} {σ : gS} {H : Heap} {locs : List Loc} {cells slots : Nat} {ls : Array Slot}, r_181 l0 l1 l2 l7 σ = some res → gW E D A s σ H locs → lv_has ls 12 [(0, .ref l0), (1, .ref l1), (2, .ref l2), (7, .int l7)] → W p l e R s m args below meth c H locs cells slots Q (F0 m 181 ls [])) (hf : L_law_326 E r_181 l0 l1 l2 l7 l9 l10 l11 σ = some res) (hw : gW E D A s σ H locs) (hl : lv_has ls 12 [(0, .ref l0), (1, .ref l1), (2, .ref l2), (7, .int l7), (9, .ref l9), (10, .int l10), (11, .ref l11)]) : W p l e R s m args below meth c H locs cells slots Q (F0 m 326 ls []) := by
  have hC0 := hC
  obtain ⟨hx, hb, hml, hown, hts, -⟩ := hC0
  unfold L_law_326 at hf
  refine lv_aload_n hx hb dL_law_326 rfl (lv_at hl 1 rfl) ?_
  obtain ⟨_, h18, hf⟩ := ob_some hf
  obtain ⟨x16, h17, hf⟩ := ob_some hf
  refine gg_cVI (As := []) hC hw (X12_undoableCount_M l E D A h17) h18 rfl g_ml_L_226 hd_X12_undoableCount (Nat.le_of_ble_eq_true rfl) (Nat.le_of_ble_eq_true rfl) hl.1 rfl (Nat.le_of_ble_eq_true rfl) dL_law_327 (fun H locs cells slots hw => ?_)
  refine lv_iload hx hb dL_law_330 (lv_at hl 5 rfl) ?_
  refine lv_icmp_ne (tgt := 354) hx hb dL_law_332 (by decide) (fun c23 => ?_) (fun c23 => ?_)
  · replace hf := (if_neg c23).symm.trans hf
    exact L_law_354_W hC hQ hst h_181 hf hw (lv_sub hl [0, 1, 2, 3] rfl)
  · replace hf := (if_pos c23).symm.trans hf
    refine lv_iload hx hb dL_law_335 (lv_at hl 5 rfl) ?_
    refine lv_bipush (v := 8) hx hb dL_law_337 (by decide) ?_
    refine lv_icmp_ge (tgt := 354) hx hb dL_law_339 (by decide) (fun c22 => ?_) (fun c22 => ?_)
    · replace hf := (if_pos c22).symm.trans hf
      exact L_law_354_W hC hQ hst h_181 hf hw (lv_sub hl [0, 1, 2, 3] rfl)
    · replace hf := (if_neg c22).symm.trans hf
      refine lv_aload hx hb dL_law_342 (lv_at hl 4 rfl) ?_
      refine lv_aload hx hb dL_law_344 (lv_at hl 6 rfl) ?_
      obtain ⟨x19, h20, hf⟩ := ob_some hf
      refine gg_cSI (As := [.ref l9, .ref l11]) hC hw (L_alike_M l hst E D A h20) g_ml_L_247 hd_L_alike.2 (Nat.le_of_ble_eq_true rfl) (Nat.le_of_ble_eq_true rfl) hl.1 rfl (Nat.le_of_ble_eq_true rfl) dL_law_346 (fun H locs cells slots hw => ?_)
      refine lv_if_ne (tgt := 354) hx hb dL_law_349 (by decide) (fun c21 => ?_) (fun c21 => ?_)
      · replace hf := (if_neg c21).symm.trans hf
        exact L_law_354_W hC hQ hst h_181 hf hw (lv_sub hl [0, 1, 2, 3] rfl)
      · replace hf := (if_pos c21).symm.trans hf
        refine lv_iconst (v := 0) hx hb dL_law_352 (by decide) ?_
        cases hf
        exact hQ _ _ _ _ _ _ dL_law_353 gz0 hw

def L_law_224 (E : gE) (r_181 : Nat → Nat → Nat → Int32 → gS → Option (Int32 × gS)) (l0 : Nat) (l1 : Nat) (l2 : Nat) (l7 : Int32) (l8 : Int32) (σ : gS) : Option (Int32 × gS) :=
  ob (L_isFilter_f E l1 σ) fun x24 =>
  if x24.1 = 0 then
    L_law_231 E x24.2
  else
    ob (L_all_f E l1 x24.2) fun x26 =>
    ob (gcl x26.2 l1 10) fun _ =>
    ob (X12_undoableCount_f E x26.2 l1) fun x28 =>
    ob (L_act_f E l1 l2 l8 x26.2) fun x31 =>
    if x31.1 = 0 then
      some ((0 : Int32), x31.2)
    else
      ob (L_all_f E l1 x31.2) fun x33 =>
      ob (gcl x33.2 l1 10) fun _ =>
      ob (X12_undoableCount_f E x33.2 l1) fun x35 =>
      if x35 = (x28 + (1 : Int32)) then
        if (l7 - l7 / (3 : Int32) * (3 : Int32)) = 0 then
          ob (gcl x33.2 l1 10) fun _ =>
          ob (X12_undo_f E l1 x33.2) fun x38 =>
          gtry x38 (fun _ _ => none) (fun x42 σ41 =>
            if x42 = x28 then
              ob (L_all_f E l1 σ41) fun x43 =>
              ob (L_alike_f E x43.2 x43.1 x26.1) fun x45 =>
              if x45 = 0 then
                L_law_324 E x43.2
              else
                ob (L_act_f E l1 l2 l8 x43.2) fun x47 =>
                if x47.1 = 0 then
                  L_law_324 E x47.2
                else
                  ob (L_all_f E l1 x47.2) fun x49 =>
                  ob (L_alike_f E x49.2 x49.1 x33.1) fun x51 =>
                  if x51 = 0 then
                    L_law_324 E x49.2
                  else
                    L_law_326 E r_181 l0 l1 l2 l7 x26.1 x28 x33.1 x49.2
            else
              L_law_324 E σ41)
        else
          L_law_326 E r_181 l0 l1 l2 l7 x26.1 x28 x33.1 x33.2
      else
        L_law_326 E r_181 l0 l1 l2 l7 x26.1 x28 x33.1 x33.2
set_option maxHeartbeats 4000000 in
set_option maxRecDepth 100000 in
theorem L_law_224_W {σ : gS} {l0 : Nat} {l1 : Nat} {l2 : Nat} {l7 : Int32} {l8 : Int32} {res : (Int32 × gS)} {ls : Array Slot} (hC : gC E D A p R s m args meth c cL_law 12 RL nm 13 289) (hQ : gQI E D A p l e R s m args below meth c Q cL_law FieldType.boolean res) (hst : l.stackTraces = false) {r_181 : Nat → Nat → Nat → Int32 → gS → Option (Int32 × gS)} (h_181 : ∀ {l0 : Nat} {l1 : Nat} {l2 : Nat} {l7 : Int32} {σ : gS} {H : Heap} {locs : List Loc} {cells slots : Nat} {ls : Array Slot}, r_181 l0 l1 l2 l7 σ = some res → gW E D A s σ H locs → lv_has ls 12 [(0, .ref l0), (1, .ref l1), (2, .ref l2), (7, .int l7)] → W p l e R s m args below meth c H locs cells slots Q (F0 m 181 ls [])) (hf : L_law_224 E r_181 l0 l1 l2 l7 l8 σ = some res) (hw : gW E D A s σ H locs) (hl : lv_has ls 12 [(0, .ref l0), (1, .ref l1), (2, .ref l2), (7, .int l7), (8, .int l8)]) : W p l e R s m args below meth c H locs cells slots Q (F0 m 224 ls []) := by
  have hC0 := hC
  obtain ⟨hx, hb, hml, hown, hts, -⟩ := hC0
  unfold L_law_224 at hf
  refine lv_aload_n hx hb dL_law_224 rfl (lv_at hl 1 rfl) ?_
  obtain ⟨x24, h25, hf⟩ := ob_some hf
  refine gg_cSI (As := [.ref l1]) hC hw (L_isFilter_M l hst E D A h25) g_ml_L_233 hd_L_isFilter.2 (Nat.le_of_ble_eq_true rfl) (Nat.le_of_ble_eq_true rfl) hl.1 rfl (Nat.le_of_ble_eq_true rfl) dL_law_225 (fun H locs cells slots hw => ?_)
  refine lv_if_ne (tgt := 233) hx hb dL_law_228 (by decide) (fun c60 => ?_) (fun c60 => ?_)
  · replace hf := (if_neg c60).symm.trans hf
    refine lv_aload_n hx hb dL_law_233 rfl (lv_at hl 1 rfl) ?_
    obtain ⟨x26, h27, hf⟩ := ob_some hf
    refine gg_cSR (As := [.ref l1]) hC hw (L_all_M l hst E D A h27) g_ml_L_236 hd_L_all.2 (Nat.le_of_ble_eq_true rfl) (Nat.le_of_ble_eq_true rfl) hl.1 rfl (Nat.le_of_ble_eq_true rfl) dL_law_234 (fun H locs cells slots hw => ?_)
    refine lv_astore (lv' := [(9, .ref x26.1), (0, .ref l0), (1, .ref l1), (2, .ref l2), (7, .int l7), (8, .int l8)]) hx hb dL_law_237 hl (by decide) rfl (fun ls hl => ?_)
    refine lv_aload_n hx hb dL_law_239 rfl (lv_at hl 2 rfl) ?_
    obtain ⟨_, h30, hf⟩ := ob_some hf
    obtain ⟨x28, h29, hf⟩ := ob_some hf
    refine gg_cVI (As := []) hC hw (X12_undoableCount_M l E D A h29) h30 rfl g_ml_L_226 hd_X12_undoableCount (Nat.le_of_ble_eq_true rfl) (Nat.le_of_ble_eq_true rfl) hl.1 rfl (Nat.le_of_ble_eq_true rfl) dL_law_240 (fun H locs cells slots hw => ?_)
    refine lv_istore (lv' := [(10, .int x28), (9, .ref x26.1), (0, .ref l0), (1, .ref l1), (2, .ref l2), (7, .int l7), (8, .int l8)]) hx hb dL_law_243 hl (by decide) rfl (fun ls hl => ?_)
    refine lv_aload_n hx hb dL_law_245 rfl (lv_at hl 3 rfl) ?_
    refine lv_aload_n hx hb dL_law_246 rfl (lv_at hl 4 rfl) ?_
    refine lv_iload hx hb dL_law_247 (lv_at hl 6 rfl) ?_
    obtain ⟨x31, h32, hf⟩ := ob_some hf
    refine gg_cSI (As := [.ref l1, .ref l2, .int l8]) hC hw (L_act_M l hst E D A h32) g_ml_L_240 hd_L_act.2 (Nat.le_of_ble_eq_true rfl) (Nat.le_of_ble_eq_true rfl) hl.1 rfl (Nat.le_of_ble_eq_true rfl) dL_law_249 (fun H locs cells slots hw => ?_)
    refine lv_if_ne (tgt := 257) hx hb dL_law_252 (by decide) (fun c59 => ?_) (fun c59 => ?_)
    · replace hf := (if_neg c59).symm.trans hf
      refine lv_aload_n hx hb dL_law_257 rfl (lv_at hl 3 rfl) ?_
      obtain ⟨x33, h34, hf⟩ := ob_some hf
      refine gg_cSR (As := [.ref l1]) hC hw (L_all_M l hst E D A h34) g_ml_L_236 hd_L_all.2 (Nat.le_of_ble_eq_true rfl) (Nat.le_of_ble_eq_true rfl) hl.1 rfl (Nat.le_of_ble_eq_true rfl) dL_law_258 (fun H locs cells slots hw => ?_)
      refine lv_astore (lv' := [(11, .ref x33.1), (10, .int x28), (9, .ref x26.1), (0, .ref l0), (1, .ref l1), (2, .ref l2), (7, .int l7), (8, .int l8)]) hx hb dL_law_261 hl (by decide) rfl (fun ls hl => ?_)
      refine lv_aload_n hx hb dL_law_263 rfl (lv_at hl 4 rfl) ?_
      obtain ⟨_, h37, hf⟩ := ob_some hf
      obtain ⟨x35, h36, hf⟩ := ob_some hf
      refine gg_cVI (As := []) hC hw (X12_undoableCount_M l E D A h36) h37 rfl g_ml_L_226 hd_X12_undoableCount (Nat.le_of_ble_eq_true rfl) (Nat.le_of_ble_eq_true rfl) hl.1 rfl (Nat.le_of_ble_eq_true rfl) dL_law_264 (fun H locs cells slots hw => ?_)
      refine lv_iload hx hb dL_law_267 (lv_at hl 1 rfl) ?_
      refine lv_iconst (v := 1) hx hb dL_law_269 (by decide) ?_
      refine lv_iadd hx hb dL_law_270 ?_
      refine lv_icmp_ne (tgt := 326) hx hb dL_law_271 (by decide) (fun c58 => ?_) (fun c58 => ?_)
      · replace hf := (if_neg c58).symm.trans hf
        exact L_law_326_W hC hQ hst h_181 hf hw (lv_sub hl [3, 4, 5, 6, 2, 1, 0] rfl)
      · replace hf := (if_pos c58).symm.trans hf
        refine lv_iload hx hb dL_law_274 (lv_at hl 6 rfl) ?_
        refine lv_iconst (v := 3) hx hb dL_law_276 (by decide) ?_
        refine lv_irem hx hb dL_law_277 (by decide) ?_
        refine lv_if_ne (tgt := 326) hx hb dL_law_278 (by decide) (fun c57 => ?_) (fun c57 => ?_)
        · replace hf := (if_neg c57).symm.trans hf
          exact L_law_326_W hC hQ hst h_181 hf hw (lv_sub hl [3, 4, 5, 6, 2, 1, 0] rfl)
        · replace hf := (if_pos c57).symm.trans hf
          refine lv_aload_n hx hb dL_law_281 rfl (lv_at hl 4 rfl) ?_
          obtain ⟨_, h40, hf⟩ := ob_some hf
          obtain ⟨x38, h39, hf⟩ := ob_some hf
          refine gg_yVI (As := []) hC hw (X12_undo_M l hst E D A h39) h40 rfl g_ml_L_244 hd_X12_undo (Nat.le_of_ble_eq_true rfl) (Nat.le_of_ble_eq_true rfl) hl.1 rfl (Nat.le_of_ble_eq_true rfl) dL_law_282 (fun k9 σ9 he => ?_) (fun x42 σ41 he H locs cells slots hw => ?_)
          · subst he
            replace hf := gtry_inl.symm.trans hf
            cases hf
          · subst he
            replace hf := gtry_inr.symm.trans hf
            refine lv_iload hx hb dL_law_285 (lv_at hl 1 rfl) ?_
            refine lv_icmp_ne (tgt := 324) hx hb dL_law_287 (by decide) (fun c56 => ?_) (fun c56 => ?_)
            · replace hf := (if_neg c56).symm.trans hf
              exact L_law_324_W hC hQ hst hf hw (lv_sub hl [] rfl)
            · replace hf := (if_pos c56).symm.trans hf
              refine lv_aload_n hx hb dL_law_290 rfl (lv_at hl 4 rfl) ?_
              obtain ⟨x43, h44, hf⟩ := ob_some hf
              refine gg_cSR (As := [.ref l1]) hC hw (L_all_M l hst E D A h44) g_ml_L_236 hd_L_all.2 (Nat.le_of_ble_eq_true rfl) (Nat.le_of_ble_eq_true rfl) hl.1 rfl (Nat.le_of_ble_eq_true rfl) dL_law_291 (fun H locs cells slots hw => ?_)
              refine lv_aload hx hb dL_law_294 (lv_at hl 2 rfl) ?_
              obtain ⟨x45, h46, hf⟩ := ob_some hf
              refine gg_cSI (As := [.ref x43.1, .ref x26.1]) hC hw (L_alike_M l hst E D A h46) g_ml_L_247 hd_L_alike.2 (Nat.le_of_ble_eq_true rfl) (Nat.le_of_ble_eq_true rfl) hl.1 rfl (Nat.le_of_ble_eq_true rfl) dL_law_296 (fun H locs cells slots hw => ?_)
              refine lv_if_eq (tgt := 324) hx hb dL_law_299 (by decide) (fun c55 => ?_) (fun c55 => ?_)
              · replace hf := (if_pos c55).symm.trans hf
                exact L_law_324_W hC hQ hst hf hw (lv_sub hl [] rfl)
              · replace hf := (if_neg c55).symm.trans hf
                refine lv_aload_n hx hb dL_law_302 rfl (lv_at hl 4 rfl) ?_
                refine lv_aload_n hx hb dL_law_303 rfl (lv_at hl 5 rfl) ?_
                refine lv_iload hx hb dL_law_304 (lv_at hl 7 rfl) ?_
                obtain ⟨x47, h48, hf⟩ := ob_some hf
                refine gg_cSI (As := [.ref l1, .ref l2, .int l8]) hC hw (L_act_M l hst E D A h48) g_ml_L_240 hd_L_act.2 (Nat.le_of_ble_eq_true rfl) (Nat.le_of_ble_eq_true rfl) hl.1 rfl (Nat.le_of_ble_eq_true rfl) dL_law_306 (fun H locs cells slots hw => ?_)
                refine lv_if_eq (tgt := 324) hx hb dL_law_309 (by decide) (fun c54 => ?_) (fun c54 => ?_)
                · replace hf := (if_pos c54).symm.trans hf
                  exact L_law_324_W hC hQ hst hf hw (lv_sub hl [] rfl)
                · replace hf := (if_neg c54).symm.trans hf
                  refine lv_aload_n hx hb dL_law_312 rfl (lv_at hl 4 rfl) ?_
                  obtain ⟨x49, h50, hf⟩ := ob_some hf
                  refine gg_cSR (As := [.ref l1]) hC hw (L_all_M l hst E D A h50) g_ml_L_236 hd_L_all.2 (Nat.le_of_ble_eq_true rfl) (Nat.le_of_ble_eq_true rfl) hl.1 rfl (Nat.le_of_ble_eq_true rfl) dL_law_313 (fun H locs cells slots hw => ?_)
                  refine lv_aload hx hb dL_law_316 (lv_at hl 0 rfl) ?_
                  obtain ⟨x51, h52, hf⟩ := ob_some hf
                  refine gg_cSI (As := [.ref x49.1, .ref x33.1]) hC hw (L_alike_M l hst E D A h52) g_ml_L_247 hd_L_alike.2 (Nat.le_of_ble_eq_true rfl) (Nat.le_of_ble_eq_true rfl) hl.1 rfl (Nat.le_of_ble_eq_true rfl) dL_law_318 (fun H locs cells slots hw => ?_)
                  refine lv_if_ne (tgt := 326) hx hb dL_law_321 (by decide) (fun c53 => ?_) (fun c53 => ?_)
                  · replace hf := (if_neg c53).symm.trans hf
                    exact L_law_326_W hC hQ hst h_181 hf hw (lv_sub hl [3, 4, 5, 6, 2, 1, 0] rfl)
                  · replace hf := (if_pos c53).symm.trans hf
                    exact L_law_324_W hC hQ hst hf hw (lv_sub hl [] rfl)
    · replace hf := (if_pos c59).symm.trans hf
      refine lv_iconst (v := 0) hx hb dL_law_255 (by decide) ?_
      cases hf
      exact hQ _ _ _ _ _ _ dL_law_256 gz0 hw
  · replace hf := (if_pos c60).symm.trans hf
    exact L_law_231_W hC hQ hst hf hw (lv_sub hl [] rfl)

def L_law_438 (E : gE) (σ : gS) : Option (Int32 × gS) :=
  some ((0 : Int32), σ)
set_option maxHeartbeats 4000000 in
set_option maxRecDepth 100000 in
theorem L_law_438_W {σ : gS} {res : (Int32 × gS)} {ls : Array Slot} (hC : gC E D A p R s m args meth c cL_law 12 RL nm 13 289) (hQ : gQI E D A p l e R s m args below meth c Q cL_law FieldType.boolean res) (hst : l.stackTraces = false) (hf : L_law_438 E σ = some res) (hw : gW E D A s σ H locs) (hl : lv_has ls 12 []) : W p l e R s m args below meth c H locs cells slots Q (F0 m 438 ls []) := by
  have hC0 := hC
  obtain ⟨hx, hb, hml, hown, hts, -⟩ := hC0
  unfold L_law_438 at hf
  refine lv_iconst (v := 0) hx hb dL_law_438 (by decide) ?_
  cases hf
  exact hQ _ _ _ _ _ _ dL_law_439 gz0 hw

def L_law_373_s (E : gE) (r_373 : Nat → Nat → Nat → Nat → Int32 → gS → Option (Int32 × gS)) (l0 : Nat) (l1 : Nat) (l2 : Nat) (l7 : Nat) (l8 : Int32) (σ : gS) : Option (Int32 × gS) :=
  if (5 : Int32) ≤ l8 then
    ob (gcl σ l1 10) fun _ =>
    ob (X12_restoreSnapshot_f E l1 σ) fun x61 =>
    gtry x61 (fun _ _ => none) (fun x65 σ64 =>
      ob (graI E 0 σ64 l7 (1 : Int32)) fun x66 =>
      if x65 = x66 then
        ob (L_all_f E l1 σ64) fun x68 =>
        ob (L_alike_f E x68.2 x68.1 l7) fun x70 =>
        if x70 = 0 then
          L_law_438 E x68.2
        else
          ob (gcl x68.2 l1 10) fun _ =>
          ob (X12_undoableCount_f E x68.2 l1) fun x72 =>
          if x72 = 0 then
            some ((1 : Int32), x68.2)
          else
            L_law_438 E x68.2
      else
        L_law_438 E σ64)
  else
    ob (L_cell_f E σ l0 ((36 : Int32) + l8)) fun x78 =>
    ob (L_act_f E l1 l2 x78 σ) fun x80 =>
    if x80.1 = 0 then
      some ((0 : Int32), x80.2)
    else
      r_373 l0 l1 l2 l7 (l8 + 1) x80.2
set_option maxHeartbeats 4000000 in
set_option maxRecDepth 100000 in
theorem L_law_373_s_W {σ : gS} {l0 : Nat} {l1 : Nat} {l2 : Nat} {l7 : Nat} {l8 : Int32} {res : (Int32 × gS)} {ls : Array Slot} (hC : gC E D A p R s m args meth c cL_law 12 RL nm 13 289) (hQ : gQI E D A p l e R s m args below meth c Q cL_law FieldType.boolean res) (hst : l.stackTraces = false) {r_373 : Nat → Nat → Nat → Nat → Int32 → gS → Option (Int32 × gS)} (h_373 : ∀ {l0 : Nat} {l1 : Nat} {l2 : Nat} {l7 : Nat} {l8 : Int32} {σ : gS} {H : Heap} {locs : List Loc} {cells slots : Nat} {ls : Array Slot}, r_373 l0 l1 l2 l7 l8 σ = some res → gW E D A s σ H locs → lv_has ls 12 [(0, .ref l0), (1, .ref l1), (2, .ref l2), (7, .ref l7), (8, .int l8)] → W p l e R s m args below meth c H locs cells slots Q (F0 m 373 ls [])) (hf : L_law_373_s E r_373 l0 l1 l2 l7 l8 σ = some res) (hw : gW E D A s σ H locs) (hl : lv_has ls 12 [(0, .ref l0), (1, .ref l1), (2, .ref l2), (7, .ref l7), (8, .int l8)]) : W p l e R s m args below meth c H locs cells slots Q (F0 m 373 ls []) := by
  have hC0 := hC
  obtain ⟨hx, hb, hml, hown, hts, -⟩ := hC0
  unfold L_law_373_s at hf
  refine lv_iload hx hb dL_law_373 (lv_at hl 4 rfl) ?_
  refine lv_iconst (v := 5) hx hb dL_law_375 (by decide) ?_
  refine lv_icmp_ge (tgt := 404) hx hb dL_law_376 (by decide) (fun c83 => ?_) (fun c83 => ?_)
  · replace hf := (if_pos c83).symm.trans hf
    refine lv_aload_n hx hb dL_law_404 rfl (lv_at hl 1 rfl) ?_
    obtain ⟨_, h63, hf⟩ := ob_some hf
    obtain ⟨x61, h62, hf⟩ := ob_some hf
    refine gg_yVI (As := []) hC hw (X12_restoreSnapshot_M l hst E D A h62) h63 rfl g_ml_L_254 hd_X12_restoreSnapshot (Nat.le_of_ble_eq_true rfl) (Nat.le_of_ble_eq_true rfl) hl.1 rfl (Nat.le_of_ble_eq_true rfl) dL_law_405 (fun k9 σ9 he => ?_) (fun x65 σ64 he H locs cells slots hw => ?_)
    · subst he
      replace hf := gtry_inl.symm.trans hf
      cases hf
    · subst he
      replace hf := gtry_inr.symm.trans hf
      refine lv_aload hx hb dL_law_408 (lv_at hl 3 rfl) ?_
      refine lv_iconst (v := 1) hx hb dL_law_410 (by decide) ?_
      obtain ⟨x66, h67, hf⟩ := ob_some hf
      refine gg_aldI hC hw h67 dL_law_411 ?_
      refine lv_icmp_ne (tgt := 438) hx hb dL_law_412 (by decide) (fun c77 => ?_) (fun c77 => ?_)
      · replace hf := (if_neg c77).symm.trans hf
        exact L_law_438_W hC hQ hst hf hw (lv_sub hl [] rfl)
      · replace hf := (if_pos c77).symm.trans hf
        refine lv_aload_n hx hb dL_law_415 rfl (lv_at hl 1 rfl) ?_
        obtain ⟨x68, h69, hf⟩ := ob_some hf
        refine gg_cSR (As := [.ref l1]) hC hw (L_all_M l hst E D A h69) g_ml_L_236 hd_L_all.2 (Nat.le_of_ble_eq_true rfl) (Nat.le_of_ble_eq_true rfl) hl.1 rfl (Nat.le_of_ble_eq_true rfl) dL_law_416 (fun H locs cells slots hw => ?_)
        refine lv_aload hx hb dL_law_419 (lv_at hl 3 rfl) ?_
        obtain ⟨x70, h71, hf⟩ := ob_some hf
        refine gg_cSI (As := [.ref x68.1, .ref l7]) hC hw (L_alike_M l hst E D A h71) g_ml_L_247 hd_L_alike.2 (Nat.le_of_ble_eq_true rfl) (Nat.le_of_ble_eq_true rfl) hl.1 rfl (Nat.le_of_ble_eq_true rfl) dL_law_421 (fun H locs cells slots hw => ?_)
        refine lv_if_eq (tgt := 438) hx hb dL_law_424 (by decide) (fun c76 => ?_) (fun c76 => ?_)
        · replace hf := (if_pos c76).symm.trans hf
          exact L_law_438_W hC hQ hst hf hw (lv_sub hl [] rfl)
        · replace hf := (if_neg c76).symm.trans hf
          refine lv_aload_n hx hb dL_law_427 rfl (lv_at hl 1 rfl) ?_
          obtain ⟨_, h74, hf⟩ := ob_some hf
          obtain ⟨x72, h73, hf⟩ := ob_some hf
          refine gg_cVI (As := []) hC hw (X12_undoableCount_M l E D A h73) h74 rfl g_ml_L_226 hd_X12_undoableCount (Nat.le_of_ble_eq_true rfl) (Nat.le_of_ble_eq_true rfl) hl.1 rfl (Nat.le_of_ble_eq_true rfl) dL_law_428 (fun H locs cells slots hw => ?_)
          refine lv_if_ne (tgt := 438) hx hb dL_law_431 (by decide) (fun c75 => ?_) (fun c75 => ?_)
          · replace hf := (if_neg c75).symm.trans hf
            exact L_law_438_W hC hQ hst hf hw (lv_sub hl [] rfl)
          · replace hf := (if_pos c75).symm.trans hf
            refine lv_iconst (v := 1) hx hb dL_law_434 (by decide) ?_
            refine lv_goto (tgt := 439) hx hb dL_law_435 (by decide) ?_
            cases hf
            exact hQ _ _ _ _ _ _ dL_law_439 gz1 hw
  · replace hf := (if_neg c83).symm.trans hf
    refine lv_aload_n hx hb dL_law_379 rfl (lv_at hl 1 rfl) ?_
    refine lv_aload_n hx hb dL_law_380 rfl (lv_at hl 2 rfl) ?_
    refine lv_aload_n hx hb dL_law_381 rfl (lv_at hl 0 rfl) ?_
    refine lv_bipush (v := 36) hx hb dL_law_382 (by decide) ?_
    refine lv_iload hx hb dL_law_384 (lv_at hl 4 rfl) ?_
    refine lv_iadd hx hb dL_law_386 ?_
    obtain ⟨x78, h79, hf⟩ := ob_some hf
    refine gg_cSI (As := [.ref l0, .int ((36 : Int32) + l8)]) hC hw (L_cell_M l hst E D A h79) g_ml_L_211 hd_L_cell.2 (Nat.le_of_ble_eq_true rfl) (Nat.le_of_ble_eq_true rfl) hl.1 rfl (Nat.le_of_ble_eq_true rfl) dL_law_387 (fun H locs cells slots hw => ?_)
    obtain ⟨x80, h81, hf⟩ := ob_some hf
    refine gg_cSI (As := [.ref l1, .ref l2, .int x78]) hC hw (L_act_M l hst E D A h81) g_ml_L_240 hd_L_act.2 (Nat.le_of_ble_eq_true rfl) (Nat.le_of_ble_eq_true rfl) hl.1 rfl (Nat.le_of_ble_eq_true rfl) dL_law_390 (fun H locs cells slots hw => ?_)
    refine lv_if_ne (tgt := 398) hx hb dL_law_393 (by decide) (fun c82 => ?_) (fun c82 => ?_)
    · replace hf := (if_neg c82).symm.trans hf
      refine lv_iinc (v := (l8 + 1)) (lv' := [(8, .int (l8 + 1)), (0, .ref l0), (1, .ref l1), (2, .ref l2), (7, .ref l7)]) hx hb dL_law_398 hl (k := 4) rfl rfl (by decide) rfl (fun ls hl => ?_)
      refine lv_goto (tgt := 373) hx hb dL_law_401 (by decide) ?_
      exact h_373 hf hw (lv_sub hl [1, 2, 3, 4, 0] rfl)
    · replace hf := (if_pos c82).symm.trans hf
      refine lv_iconst (v := 0) hx hb dL_law_396 (by decide) ?_
      cases hf
      exact hQ _ _ _ _ _ _ dL_law_397 gz0 hw
def L_law_373 (E : gE) : Nat → Nat → Nat → Nat → Nat → Int32 → gS → Option (Int32 × gS)
  | 0 => fun _ _ _ _ _ _ => none
  | n + 1 => L_law_373_s E (L_law_373 E n)
theorem L_law_373_W {res : (Int32 × gS)} (hC : gC E D A p R s m args meth c cL_law 12 RL nm 13 289) (hQ : gQI E D A p l e R s m args below meth c Q cL_law FieldType.boolean res) (hst : l.stackTraces = false) : ∀ (n : Nat), ∀ {l0 : Nat} {l1 : Nat} {l2 : Nat} {l7 : Nat} {l8 : Int32} {σ : gS} {H : Heap} {locs : List Loc} {cells slots : Nat} {ls : Array Slot}, L_law_373 E n l0 l1 l2 l7 l8 σ = some res → gW E D A s σ H locs → lv_has ls 12 [(0, .ref l0), (1, .ref l1), (2, .ref l2), (7, .ref l7), (8, .int l8)] → W p l e R s m args below meth c H locs cells slots Q (F0 m 373 ls []) := by
  intro n
  induction n with
  | zero =>
    intros
    rename_i hf _ _
    exact absurd hf (fun h => by cases (show (none : Option (Int32 × gS)) = some res from h))
  | succ n ih =>
    intros
    rename_i hf hw hl
    exact L_law_373_s_W hC hQ hst ih hf hw hl

def L_law_181_s (E : gE) (r_181 : Nat → Nat → Nat → Int32 → gS → Option (Int32 × gS)) (l0 : Nat) (l1 : Nat) (l2 : Nat) (l7 : Int32) (σ : gS) : Option (Int32 × gS) :=
  if (36 : Int32) ≤ l7 then
    ob (gcl σ l1 10) fun _ =>
    ob (X12_saveSnapshot_f E l1 σ) fun x84 =>
    ob (L_all_f E l1 x84) fun x87 =>
    L_law_373 E (gN E) l0 l1 l2 x87.1 (0 : Int32) x87.2
  else
    ob (L_cell_f E σ l0 ((8 : Int32) + (l7 - l7 / (28 : Int32) * (28 : Int32)))) fun x89 =>
    if (l7 - l7 / (3 : Int32) * (3 : Int32)) = 0 then
      ob (L_areColumns_f E l1 σ) fun x91 =>
      if x91.1 = 0 then
        L_law_231 E x91.2
      else
        L_law_224 E r_181 l0 l1 l2 l7 (x89 >>> (((l7 / (28 : Int32)) * (2 : Int32)) &&& 31)) x91.2
    else
      L_law_224 E r_181 l0 l1 l2 l7 (x89 >>> (((l7 / (28 : Int32)) * (2 : Int32)) &&& 31)) σ
set_option maxHeartbeats 4000000 in
set_option maxRecDepth 100000 in
theorem L_law_181_s_W {σ : gS} {l0 : Nat} {l1 : Nat} {l2 : Nat} {l7 : Int32} {res : (Int32 × gS)} {ls : Array Slot} (hC : gC E D A p R s m args meth c cL_law 12 RL nm 13 289) (hQ : gQI E D A p l e R s m args below meth c Q cL_law FieldType.boolean res) (hst : l.stackTraces = false) {r_181 : Nat → Nat → Nat → Int32 → gS → Option (Int32 × gS)} (h_181 : ∀ {l0 : Nat} {l1 : Nat} {l2 : Nat} {l7 : Int32} {σ : gS} {H : Heap} {locs : List Loc} {cells slots : Nat} {ls : Array Slot}, r_181 l0 l1 l2 l7 σ = some res → gW E D A s σ H locs → lv_has ls 12 [(0, .ref l0), (1, .ref l1), (2, .ref l2), (7, .int l7)] → W p l e R s m args below meth c H locs cells slots Q (F0 m 181 ls [])) (hf : L_law_181_s E r_181 l0 l1 l2 l7 σ = some res) (hw : gW E D A s σ H locs) (hl : lv_has ls 12 [(0, .ref l0), (1, .ref l1), (2, .ref l2), (7, .int l7)]) : W p l e R s m args below meth c H locs cells slots Q (F0 m 181 ls []) := by
  have hC0 := hC
  obtain ⟨hx, hb, hml, hown, hts, -⟩ := hC0
  unfold L_law_181_s at hf
  refine lv_iload hx hb dL_law_181 (lv_at hl 3 rfl) ?_
  refine lv_bipush (v := 36) hx hb dL_law_183 (by decide) ?_
  refine lv_icmp_ge (tgt := 360) hx hb dL_law_185 (by decide) (fun c95 => ?_) (fun c95 => ?_)
  · replace hf := (if_pos c95).symm.trans hf
    refine lv_aload_n hx hb dL_law_360 rfl (lv_at hl 1 rfl) ?_
    obtain ⟨_, h86, hf⟩ := ob_some hf
    obtain ⟨x84, h85, hf⟩ := ob_some hf
    refine gg_cVV (As := []) hC hw (X12_saveSnapshot_M l E D A h85) h86 rfl g_ml_L_251 hd_X12_saveSnapshot (Nat.le_of_ble_eq_true rfl) (Nat.le_of_ble_eq_true rfl) hl.1 rfl (Nat.le_of_ble_eq_true rfl) dL_law_361 (fun H locs cells slots hw => ?_)
    refine lv_aload_n hx hb dL_law_364 rfl (lv_at hl 1 rfl) ?_
    obtain ⟨x87, h88, hf⟩ := ob_some hf
    refine gg_cSR (As := [.ref l1]) hC hw (L_all_M l hst E D A h88) g_ml_L_236 hd_L_all.2 (Nat.le_of_ble_eq_true rfl) (Nat.le_of_ble_eq_true rfl) hl.1 rfl (Nat.le_of_ble_eq_true rfl) dL_law_365 (fun H locs cells slots hw => ?_)
    refine lv_astore (lv' := [(7, .ref x87.1), (0, .ref l0), (1, .ref l1), (2, .ref l2)]) hx hb dL_law_368 hl (by decide) rfl (fun ls hl => ?_)
    refine lv_iconst (v := 0) hx hb dL_law_370 (by decide) ?_
    refine lv_istore (lv' := [(8, .int (0 : Int32)), (7, .ref x87.1), (0, .ref l0), (1, .ref l1), (2, .ref l2)]) hx hb dL_law_371 hl (by decide) rfl (fun ls hl => ?_)
    exact L_law_373_W hC hQ hst (gN E) hf hw (lv_sub hl [2, 3, 4, 1, 0] rfl)
  · replace hf := (if_neg c95).symm.trans hf
    refine lv_aload_n hx hb dL_law_188 rfl (lv_at hl 0 rfl) ?_
    refine lv_bipush (v := 8) hx hb dL_law_189 (by decide) ?_
    refine lv_iload hx hb dL_law_191 (lv_at hl 3 rfl) ?_
    refine lv_bipush (v := 28) hx hb dL_law_193 (by decide) ?_
    refine lv_irem hx hb dL_law_195 (by decide) ?_
    refine lv_iadd hx hb dL_law_196 ?_
    obtain ⟨x89, h90, hf⟩ := ob_some hf
    refine gg_cSI (As := [.ref l0, .int ((8 : Int32) + (l7 - l7 / (28 : Int32) * (28 : Int32)))]) hC hw (L_cell_M l hst E D A h90) g_ml_L_211 hd_L_cell.2 (Nat.le_of_ble_eq_true rfl) (Nat.le_of_ble_eq_true rfl) hl.1 rfl (Nat.le_of_ble_eq_true rfl) dL_law_197 (fun H locs cells slots hw => ?_)
    refine lv_iload hx hb dL_law_200 (lv_at hl 3 rfl) ?_
    refine lv_bipush (v := 28) hx hb dL_law_202 (by decide) ?_
    refine lv_idiv hx hb dL_law_204 (by decide) ?_
    refine lv_iconst (v := 2) hx hb dL_law_205 (by decide) ?_
    refine lv_imul hx hb dL_law_206 ?_
    refine lv_ishr hx hb dL_law_207 ?_
    refine lv_istore (lv' := [(8, .int (x89 >>> (((l7 / (28 : Int32)) * (2 : Int32)) &&& 31))), (0, .ref l0), (1, .ref l1), (2, .ref l2), (7, .int l7)]) hx hb dL_law_208 hl (by decide) rfl (fun ls hl => ?_)
    refine lv_iload hx hb dL_law_210 (lv_at hl 4 rfl) ?_
    refine lv_iconst (v := 3) hx hb dL_law_212 (by decide) ?_
    refine lv_irem hx hb dL_law_213 (by decide) ?_
    refine lv_if_ne (tgt := 224) hx hb dL_law_214 (by decide) (fun c94 => ?_) (fun c94 => ?_)
    · replace hf := (if_neg c94).symm.trans hf
      exact L_law_224_W hC hQ hst h_181 hf hw (lv_sub hl [1, 2, 3, 4, 0] rfl)
    · replace hf := (if_pos c94).symm.trans hf
      refine lv_aload_n hx hb dL_law_217 rfl (lv_at hl 2 rfl) ?_
      obtain ⟨x91, h92, hf⟩ := ob_some hf
      refine gg_cSI (As := [.ref l1]) hC hw (L_areColumns_M l hst E D A h92) g_ml_L_229 hd_L_areColumns.2 (Nat.le_of_ble_eq_true rfl) (Nat.le_of_ble_eq_true rfl) hl.1 rfl (Nat.le_of_ble_eq_true rfl) dL_law_218 (fun H locs cells slots hw => ?_)
      refine lv_if_eq (tgt := 231) hx hb dL_law_221 (by decide) (fun c93 => ?_) (fun c93 => ?_)
      · replace hf := (if_pos c93).symm.trans hf
        exact L_law_231_W hC hQ hst hf hw (lv_sub hl [] rfl)
      · replace hf := (if_neg c93).symm.trans hf
        exact L_law_224_W hC hQ hst h_181 hf hw (lv_sub hl [1, 2, 3, 4, 0] rfl)
def L_law_181 (E : gE) : Nat → Nat → Nat → Nat → Int32 → gS → Option (Int32 × gS)
  | 0 => fun _ _ _ _ _ => none
  | n + 1 => L_law_181_s E (L_law_181 E n)
theorem L_law_181_W {res : (Int32 × gS)} (hC : gC E D A p R s m args meth c cL_law 12 RL nm 13 289) (hQ : gQI E D A p l e R s m args below meth c Q cL_law FieldType.boolean res) (hst : l.stackTraces = false) : ∀ (n : Nat), ∀ {l0 : Nat} {l1 : Nat} {l2 : Nat} {l7 : Int32} {σ : gS} {H : Heap} {locs : List Loc} {cells slots : Nat} {ls : Array Slot}, L_law_181 E n l0 l1 l2 l7 σ = some res → gW E D A s σ H locs → lv_has ls 12 [(0, .ref l0), (1, .ref l1), (2, .ref l2), (7, .int l7)] → W p l e R s m args below meth c H locs cells slots Q (F0 m 181 ls []) := by
  intro n
  induction n with
  | zero =>
    intros
    rename_i hf _ _
    exact absurd hf (fun h => by cases (show (none : Option (Int32 × gS)) = some res from h))
  | succ n ih =>
    intros
    rename_i hf hw hl
    exact L_law_181_s_W hC hQ hst ih hf hw hl

def L_law_62_s (E : gE) (r_62 : Nat → Nat → Nat → Int32 → Int32 → Nat → Int32 → gS → Option (Int32 × gS)) (l0 : Nat) (l1 : Nat) (l2 : Nat) (l4 : Int32) (l5 : Int32) (l6 : Nat) (l7 : Int32) (σ : gS) : Option (Int32 × gS) :=
  if l5 ≤ l7 then
    ob (gcl σ l6 11) fun _ =>
    ob (J4_toString_0e30d_f E l6 σ) fun x96 =>
    ob (L_say_f E l1 l2 x96.1 x96.2) fun x99 =>
    ob (L_end_f E l1 l2 x99) fun x101 =>
    ob (gcl x101.2 l1 10) fun _ =>
    ob (X12_loadTable_f E l1 x101.1 x101.2) fun x103 =>
    gtry x103 (fun _ _ => none) (fun x107 σ106 =>
      if x107 = l5 then
        ob (gcl σ106 l1 10) fun _ =>
        ob (X12_undoableCount_f E σ106 l1) fun x108 =>
        if x108 = 0 then
          L_law_181 E (gN E) l0 l1 l2 (0 : Int32) σ106
        else
          L_law_176 E σ106
      else
        L_law_176 E σ106)
  else
    L_law_72 E r_62 (gN E) l0 l1 l2 l4 l5 l6 l7 (0 : Int32) σ
set_option maxHeartbeats 4000000 in
set_option maxRecDepth 100000 in
theorem L_law_62_s_W {σ : gS} {l0 : Nat} {l1 : Nat} {l2 : Nat} {l4 : Int32} {l5 : Int32} {l6 : Nat} {l7 : Int32} {res : (Int32 × gS)} {ls : Array Slot} (hC : gC E D A p R s m args meth c cL_law 12 RL nm 13 289) (hQ : gQI E D A p l e R s m args below meth c Q cL_law FieldType.boolean res) (hst : l.stackTraces = false) {r_62 : Nat → Nat → Nat → Int32 → Int32 → Nat → Int32 → gS → Option (Int32 × gS)} (h_62 : ∀ {l0 : Nat} {l1 : Nat} {l2 : Nat} {l4 : Int32} {l5 : Int32} {l6 : Nat} {l7 : Int32} {σ : gS} {H : Heap} {locs : List Loc} {cells slots : Nat} {ls : Array Slot}, r_62 l0 l1 l2 l4 l5 l6 l7 σ = some res → gW E D A s σ H locs → lv_has ls 12 [(0, .ref l0), (1, .ref l1), (2, .ref l2), (4, .int l4), (5, .int l5), (6, .ref l6), (7, .int l7)] → W p l e R s m args below meth c H locs cells slots Q (F0 m 62 ls [])) (hf : L_law_62_s E r_62 l0 l1 l2 l4 l5 l6 l7 σ = some res) (hw : gW E D A s σ H locs) (hl : lv_has ls 12 [(0, .ref l0), (1, .ref l1), (2, .ref l2), (4, .int l4), (5, .int l5), (6, .ref l6), (7, .int l7)]) : W p l e R s m args below meth c H locs cells slots Q (F0 m 62 ls []) := by
  have hC0 := hC
  obtain ⟨hx, hb, hml, hown, hts, -⟩ := hC0
  unfold L_law_62_s at hf
  refine lv_iload hx hb dL_law_62 (lv_at hl 6 rfl) ?_
  refine lv_iload hx hb dL_law_64 (lv_at hl 4 rfl) ?_
  refine lv_icmp_ge (tgt := 145) hx hb dL_law_66 (by decide) (fun c113 => ?_) (fun c113 => ?_)
  · replace hf := (if_pos c113).symm.trans hf
    refine lv_aload_n hx hb dL_law_145 rfl (lv_at hl 1 rfl) ?_
    refine lv_aload_n hx hb dL_law_146 rfl (lv_at hl 2 rfl) ?_
    refine lv_aload hx hb dL_law_147 (lv_at hl 5 rfl) ?_
    obtain ⟨_, h98, hf⟩ := ob_some hf
    obtain ⟨x96, h97, hf⟩ := ob_some hf
    refine gg_cVR (As := []) hC hw (J4_toString_0e30d_M l E D A h97) h98 rfl g_ml_L_166 hd_J4_toString_0e30d (Nat.le_of_ble_eq_true rfl) (Nat.le_of_ble_eq_true rfl) hl.1 rfl (Nat.le_of_ble_eq_true rfl) dL_law_149 (fun H locs cells slots hw => ?_)
    obtain ⟨x99, h100, hf⟩ := ob_some hf
    refine gg_cSV (As := [.ref l1, .ref l2, .ref x96.1]) hC hw (L_say_M l hst E D A h100) g_ml_L_170 hd_L_say.2 (Nat.le_of_ble_eq_true rfl) (Nat.le_of_ble_eq_true rfl) hl.1 rfl (Nat.le_of_ble_eq_true rfl) dL_law_152 (fun H locs cells slots hw => ?_)
    refine lv_aload_n hx hb dL_law_155 rfl (lv_at hl 1 rfl) ?_
    refine lv_aload_n hx hb dL_law_156 rfl (lv_at hl 1 rfl) ?_
    refine lv_aload_n hx hb dL_law_157 rfl (lv_at hl 2 rfl) ?_
    obtain ⟨x101, h102, hf⟩ := ob_some hf
    refine gg_cSI (As := [.ref l1, .ref l2]) hC hw (L_end_M l hst E D A h102) g_ml_L_174 hd_L_end.2 (Nat.le_of_ble_eq_true rfl) (Nat.le_of_ble_eq_true rfl) hl.1 rfl (Nat.le_of_ble_eq_true rfl) dL_law_158 (fun H locs cells slots hw => ?_)
    obtain ⟨_, h105, hf⟩ := ob_some hf
    obtain ⟨x103, h104, hf⟩ := ob_some hf
    refine gg_yVI (As := [.int x101.1]) hC hw (X12_loadTable_M l hst E D A h104) h105 rfl g_ml_L_223 hd_X12_loadTable (Nat.le_of_ble_eq_true rfl) (Nat.le_of_ble_eq_true rfl) hl.1 rfl (Nat.le_of_ble_eq_true rfl) dL_law_161 (fun k9 σ9 he => ?_) (fun x107 σ106 he H locs cells slots hw => ?_)
    · subst he
      replace hf := gtry_inl.symm.trans hf
      cases hf
    · subst he
      replace hf := gtry_inr.symm.trans hf
      refine lv_iload hx hb dL_law_164 (lv_at hl 4 rfl) ?_
      refine lv_icmp_ne (tgt := 176) hx hb dL_law_166 (by decide) (fun c112 => ?_) (fun c112 => ?_)
      · replace hf := (if_neg c112).symm.trans hf
        exact L_law_176_W hC hQ hst hf hw (lv_sub hl [] rfl)
      · replace hf := (if_pos c112).symm.trans hf
        refine lv_aload_n hx hb dL_law_169 rfl (lv_at hl 1 rfl) ?_
        obtain ⟨_, h110, hf⟩ := ob_some hf
        obtain ⟨x108, h109, hf⟩ := ob_some hf
        refine gg_cVI (As := []) hC hw (X12_undoableCount_M l E D A h109) h110 rfl g_ml_L_226 hd_X12_undoableCount (Nat.le_of_ble_eq_true rfl) (Nat.le_of_ble_eq_true rfl) hl.1 rfl (Nat.le_of_ble_eq_true rfl) dL_law_170 (fun H locs cells slots hw => ?_)
        refine lv_if_eq (tgt := 178) hx hb dL_law_173 (by decide) (fun c111 => ?_) (fun c111 => ?_)
        · replace hf := (if_pos c111).symm.trans hf
          refine lv_iconst (v := 0) hx hb dL_law_178 (by decide) ?_
          refine lv_istore (lv' := [(7, .int (0 : Int32)), (0, .ref l0), (1, .ref l1), (2, .ref l2), (4, .int l4), (5, .int l5), (6, .ref l6)]) hx hb dL_law_179 hl (by decide) rfl (fun ls hl => ?_)
          exact L_law_181_W hC hQ hst (gN E) hf hw (lv_sub hl [1, 2, 3, 0] rfl)
        · replace hf := (if_neg c111).symm.trans hf
          exact L_law_176_W hC hQ hst hf hw (lv_sub hl [] rfl)
  · replace hf := (if_neg c113).symm.trans hf
    refine lv_iconst (v := 0) hx hb dL_law_69 (by decide) ?_
    refine lv_istore (lv' := [(8, .int (0 : Int32)), (0, .ref l0), (1, .ref l1), (2, .ref l2), (4, .int l4), (5, .int l5), (6, .ref l6), (7, .int l7)]) hx hb dL_law_70 hl (by decide) rfl (fun ls hl => ?_)
    exact L_law_72_W hC hQ hst h_62 (gN E) hf hw (lv_sub hl [1, 2, 3, 4, 5, 6, 7, 0] rfl)
def L_law_62 (E : gE) : Nat → Nat → Nat → Nat → Int32 → Int32 → Nat → Int32 → gS → Option (Int32 × gS)
  | 0 => fun _ _ _ _ _ _ _ _ => none
  | n + 1 => L_law_62_s E (L_law_62 E n)
theorem L_law_62_W {res : (Int32 × gS)} (hC : gC E D A p R s m args meth c cL_law 12 RL nm 13 289) (hQ : gQI E D A p l e R s m args below meth c Q cL_law FieldType.boolean res) (hst : l.stackTraces = false) : ∀ (n : Nat), ∀ {l0 : Nat} {l1 : Nat} {l2 : Nat} {l4 : Int32} {l5 : Int32} {l6 : Nat} {l7 : Int32} {σ : gS} {H : Heap} {locs : List Loc} {cells slots : Nat} {ls : Array Slot}, L_law_62 E n l0 l1 l2 l4 l5 l6 l7 σ = some res → gW E D A s σ H locs → lv_has ls 12 [(0, .ref l0), (1, .ref l1), (2, .ref l2), (4, .int l4), (5, .int l5), (6, .ref l6), (7, .int l7)] → W p l e R s m args below meth c H locs cells slots Q (F0 m 62 ls []) := by
  intro n
  induction n with
  | zero =>
    intros
    rename_i hf _ _
    exact absurd hf (fun h => by cases (show (none : Option (Int32 × gS)) = some res from h))
  | succ n ih =>
    intros
    rename_i hf hw hl
    exact L_law_62_s_W hC hQ hst ih hf hw hl

def L_law (E : gE) (l0 : Nat) (σ : gS) : Option (Int32 × gS) :=
  ob (gnew E σ 10 [.null, .null, .int 0, .null, .null, .null, .null, .int 0, .null, .null, .null]) fun q114 =>
  ob (X12_init_f E q114.1 q114.2) fun x116 =>
  ob (gnaI E x116 (6 : Int32)) fun q118 =>
  ob (L_cell_f E q118.2 l0 (0 : Int32)) fun x120 =>
  ob (L_most_f E q118.2 x120 (4 : Int32)) fun x122 =>
  ob (L_most_f E q118.2 (x120 >>> ((2 : Int32) &&& 31)) (12 : Int32)) fun x124 =>
  ob (gnew E q118.2 11 [.null, .int 0, .int 0, .int 0]) fun q126 =>
  ob (J4_init_a7421_f E q126.1 (gst E 3) q126.2) fun x128 =>
  ob (gcl x128 q126.1 11) fun _ =>
  ob (J4_append_bf812_f E q126.1 ((1 : Int32) + x122) x128) fun x130 =>
  ob (gcl x130.2 x130.1 11) fun _ =>
  ob (J4_append_cf468_f E x130.1 (59 : Int32) x130.2) fun x133 =>
  L_law_62 E (gN E) l0 q114.1 q118.1 ((1 : Int32) + x122) x124 x133.1 (0 : Int32) x133.2
set_option maxHeartbeats 4000000 in
set_option maxRecDepth 100000 in
theorem L_law_W {σ : gS} {l0 : Nat} {res : (Int32 × gS)} {ls : Array Slot} (hC : gC E D A p R s m args meth c cL_law 12 RL nm 13 289) (hQ : gQI E D A p l e R s m args below meth c Q cL_law FieldType.boolean res) (hst : l.stackTraces = false) (hf : L_law E l0 σ = some res) (hw : gW E D A s σ H locs) (hl : lv_has ls 12 [(0, .ref l0)]) : W p l e R s m args below meth c H locs cells slots Q (F0 m 0 ls []) := by
  have hC0 := hC
  obtain ⟨hx, hb, hml, hown, hts, -⟩ := hC0
  unfold L_law at hf
  obtain ⟨q114, h115, hf⟩ := ob_some hf
  refine n_cl_L_9 hC hw h115 dL_law_0 (fun H locs cells slots hw => ?_)
  refine lv_dup hx hb dL_law_3 rfl ?_
  obtain ⟨x116, h117, hf⟩ := ob_some hf
  refine gg_cIV (rt := none) (As := []) hC hw (X12_init_M l E D A h117) co_X12_init in_X12 ml_L_210 im_X12_init rfl hd_X12_init.2 (Nat.le_of_ble_eq_true rfl) (Nat.le_of_ble_eq_true rfl) hl.1 rfl (Nat.le_of_ble_eq_true rfl) dL_law_4 (fun H locs cells slots hw => ?_)
  refine lv_astore_n (lv' := [(1, .ref q114.1), (0, .ref l0)]) hx hb dL_law_7 rfl hl (by decide) rfl (fun ls hl => ?_)
  refine lv_bipush (v := 6) hx hb dL_law_8 (by decide) ?_
  obtain ⟨q118, h119, hf⟩ := ob_some hf
  refine gg_naI hC hw h119 dL_law_10 (fun H locs cells slots hw => ?_)
  refine lv_astore_n (lv' := [(2, .ref q118.1), (1, .ref q114.1), (0, .ref l0)]) hx hb dL_law_12 rfl hl (by decide) rfl (fun ls hl => ?_)
  refine lv_aload_n hx hb dL_law_13 rfl (lv_at hl 2 rfl) ?_
  refine lv_iconst (v := 0) hx hb dL_law_14 (by decide) ?_
  obtain ⟨x120, h121, hf⟩ := ob_some hf
  refine gg_cSI (As := [.ref l0, .int (0 : Int32)]) hC hw (L_cell_M l hst E D A h121) g_ml_L_211 hd_L_cell.2 (Nat.le_of_ble_eq_true rfl) (Nat.le_of_ble_eq_true rfl) hl.1 rfl (Nat.le_of_ble_eq_true rfl) dL_law_15 (fun H locs cells slots hw => ?_)
  refine lv_istore_n (lv' := [(3, .int x120), (2, .ref q118.1), (1, .ref q114.1), (0, .ref l0)]) hx hb dL_law_18 rfl hl (by decide) rfl (fun ls hl => ?_)
  refine lv_iconst (v := 1) hx hb dL_law_19 (by decide) ?_
  refine lv_iload_n hx hb dL_law_20 rfl (lv_at hl 0 rfl) ?_
  refine lv_iconst (v := 4) hx hb dL_law_21 (by decide) ?_
  obtain ⟨x122, h123, hf⟩ := ob_some hf
  refine gg_cSI (As := [.int x120, .int (4 : Int32)]) hC hw (L_most_M l hst E D A h123) g_ml_L_146 hd_L_most.2 (Nat.le_of_ble_eq_true rfl) (Nat.le_of_ble_eq_true rfl) hl.1 rfl (Nat.le_of_ble_eq_true rfl) dL_law_22 (fun H locs cells slots hw => ?_)
  refine lv_iadd hx hb dL_law_25 ?_
  refine lv_istore (lv' := [(4, .int ((1 : Int32) + x122)), (3, .int x120), (2, .ref q118.1), (1, .ref q114.1), (0, .ref l0)]) hx hb dL_law_26 hl (by decide) rfl (fun ls hl => ?_)
  refine lv_iload_n hx hb dL_law_28 rfl (lv_at hl 1 rfl) ?_
  refine lv_iconst (v := 2) hx hb dL_law_29 (by decide) ?_
  refine lv_ishr hx hb dL_law_30 ?_
  refine lv_bipush (v := 12) hx hb dL_law_31 (by decide) ?_
  obtain ⟨x124, h125, hf⟩ := ob_some hf
  refine gg_cSI (As := [.int (x120 >>> ((2 : Int32) &&& 31)), .int (12 : Int32)]) hC hw (L_most_M l hst E D A h125) g_ml_L_146 hd_L_most.2 (Nat.le_of_ble_eq_true rfl) (Nat.le_of_ble_eq_true rfl) hl.1 rfl (Nat.le_of_ble_eq_true rfl) dL_law_33 (fun H locs cells slots hw => ?_)
  refine lv_istore (lv' := [(5, .int x124), (4, .int ((1 : Int32) + x122)), (3, .int x120), (2, .ref q118.1), (1, .ref q114.1), (0, .ref l0)]) hx hb dL_law_36 hl (by decide) rfl (fun ls hl => ?_)
  obtain ⟨q126, h127, hf⟩ := ob_some hf
  refine n_cl_L_152 hC hw h127 dL_law_38 (fun H locs cells slots hw => ?_)
  refine lv_dup hx hb dL_law_41 rfl ?_
  refine gg_ldcS hC (k := 3) rfl rfl rfl dL_law_42 ?_
  obtain ⟨x128, h129, hf⟩ := ob_some hf
  refine gg_cIV (rt := none) (As := [.ref (gst E 3)]) hC hw (J4_init_a7421_M l E D A h129) co_J4_init_a7421 in_J4 ml_L_217 im_J4_init_a7421 rfl hd_J4_init_a7421.2 (Nat.le_of_ble_eq_true rfl) (Nat.le_of_ble_eq_true rfl) hl.1 rfl (Nat.le_of_ble_eq_true rfl) dL_law_44 (fun H locs cells slots hw => ?_)
  refine lv_iload hx hb dL_law_47 (lv_at hl 1 rfl) ?_
  obtain ⟨_, h132, hf⟩ := ob_some hf
  obtain ⟨x130, h131, hf⟩ := ob_some hf
  refine gg_cVR (As := [.int ((1 : Int32) + x122)]) hC hw (J4_append_bf812_M l E D A h131) h132 rfl g_ml_L_163 hd_J4_append_bf812 (Nat.le_of_ble_eq_true rfl) (Nat.le_of_ble_eq_true rfl) hl.1 rfl (Nat.le_of_ble_eq_true rfl) dL_law_49 (fun H locs cells slots hw => ?_)
  refine lv_bipush (v := 59) hx hb dL_law_52 (by decide) ?_
  obtain ⟨_, h135, hf⟩ := ob_some hf
  obtain ⟨x133, h134, hf⟩ := ob_some hf
  refine gg_cVR (As := [.int (59 : Int32)]) hC hw (J4_append_cf468_M l E D A h134) h135 rfl g_ml_L_220 hd_J4_append_cf468 (Nat.le_of_ble_eq_true rfl) (Nat.le_of_ble_eq_true rfl) hl.1 rfl (Nat.le_of_ble_eq_true rfl) dL_law_54 (fun H locs cells slots hw => ?_)
  refine lv_astore (lv' := [(6, .ref x133.1), (5, .int x124), (4, .int ((1 : Int32) + x122)), (3, .int x120), (2, .ref q118.1), (1, .ref q114.1), (0, .ref l0)]) hx hb dL_law_57 hl (by decide) rfl (fun ls hl => ?_)
  refine lv_iconst (v := 0) hx hb dL_law_59 (by decide) ?_
  refine lv_istore (lv' := [(7, .int (0 : Int32)), (6, .ref x133.1), (5, .int x124), (4, .int ((1 : Int32) + x122)), (3, .int x120), (2, .ref q118.1), (1, .ref q114.1), (0, .ref l0)]) hx hb dL_law_60 hl (by decide) rfl (fun ls hl => ?_)
  exact L_law_62_W hC hQ hst (gN E) hf hw (lv_sub hl [7, 6, 5, 3, 2, 1, 0] rfl)


end ML0
