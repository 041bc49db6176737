/-! decompiled: L_isFilter -/
section MN2
variable {p : Program} {l : Launch} {e : Env} {R : Room} {s : State} {m : MethodId} {args : Array Value} {below : List Frame} {meth : Method} {c : Code} {H : Heap} {locs : List Loc} {cells slots : Nat} {Q : State → Prop} {E : gE} {D : va_G} {A : Nat → Prop}
def L_isFilter_193 (E : gE) (r_9 : Nat → Int32 → Int32 → Int32 → gS → Option (Int32 × gS)) (r_28 : Nat → Int32 → Int32 → Int32 → Int32 → Int32 → Int32 → gS → Option (Int32 × gS)) (l0 : Nat) (l1 : Int32) (l2 : Int32) (l3 : Int32) (l4 : Int32) (l5 : Int32) (l6 : Int32) (σ : gS) : Option (Int32 × gS) :=
  r_28 l0 l1 l2 l3 l4 l5 (l6 + -1) σ
set_option maxHeartbeats 4000000 in
set_option maxRecDepth 100000 in
theorem L_isFilter_193_W {σ : gS} {l0 : Nat} {l1 : Int32} {l2 : Int32} {l3 : Int32} {l4 : Int32} {l5 : Int32} {l6 : Int32} {res : (Int32 × gS)} {ls : Array Slot} (hC : gC E D A p R s m args meth c cL_isFilter 13 RL "isFilter" 8 167) (hQ : gQI E D A p l e R s m args below meth c Q cL_isFilter FieldType.boolean res) (hst : l.stackTraces = false) {r_9 : Nat → Int32 → Int32 → Int32 → gS → Option (Int32 × gS)} (h_9 : ∀ {l0 : Nat} {l1 : Int32} {l2 : Int32} {l3 : Int32} {σ : gS} {H : Heap} {locs : List Loc} {cells slots : Nat} {ls : Array Slot}, r_9 l0 l1 l2 l3 σ = some res → gW E D A s σ H locs → lv_has ls 13 [(0, .ref l0), (1, .int l1), (2, .int l2), (3, .int l3)] → W p l e R s m args below meth c H locs cells slots Q (F0 m 9 ls [])) {r_28 : Nat → Int32 → Int32 → Int32 → Int32 → Int32 → Int32 → gS → Option (Int32 × gS)} (h_28 : ∀ {l0 : Nat} {l1 : Int32} {l2 : Int32} {l3 : Int32} {l4 : Int32} {l5 : Int32} {l6 : Int32} {σ : gS} {H : Heap} {locs : List Loc} {cells slots : Nat} {ls : Array Slot}, r_28 l0 l1 l2 l3 l4 l5 l6 σ = some res → gW E D A s σ H locs → lv_has ls 13 [(0, .ref l0), (1, .int l1), (2, .int l2), (3, .int l3), (4, .int l4), (5, .int l5), (6, .int l6)] → W p l e R s m args below meth c H locs cells slots Q (F0 m 28 ls [])) (hf : L_isFilter_193 E r_9 r_28 l0 l1 l2 l3 l4 l5 l6 σ = some res) (hw : gW E D A s σ H locs) (hl : lv_has ls 13 [(0, .ref l0), (1, .int l1), (2, .int l2), (3, .int l3), (4, .int l4), (5, .int l5), (6, .int l6)]) : W p l e R s m args below meth c H locs cells slots Q (F0 m 193 ls []) := by
  have hC0 := hC
  obtain ⟨hx, hb, hml, hown, hts, -⟩ := hC0
  unfold L_isFilter_193 at hf
  refine lv_iinc (v := (l6 + -1)) (lv' := [(6, .int (l6 + -1)), (0, .ref l0), (1, .int l1), (2, .int l2), (3, .int l3), (4, .int l4), (5, .int l5)]) hx hb dL_isFilter_193 hl (k := 6) rfl rfl (by decide) rfl (fun ls hl => ?_)
  refine lv_goto (tgt := 28) hx hb dL_isFilter_196 (by decide) ?_
  exact h_28 hf hw (lv_sub hl [1, 2, 3, 4, 5, 6, 0] rfl)

def L_isFilter_182 (E : gE) (r_9 : Nat → Int32 → Int32 → Int32 → gS → Option (Int32 × gS)) (r_28 : Nat → Int32 → Int32 → Int32 → Int32 → Int32 → Int32 → gS → Option (Int32 × gS)) (l0 : Nat) (l1 : Int32) (l2 : Int32) (l3 : Int32) (l5 : Int32) (l6 : Int32) (l9 : Int32) (s0 : Int32) (σ : gS) : Option (Int32 × gS) :=
  if l9 = 0 then
    L_isFilter_193 E r_9 r_28 l0 l1 l2 l3 s0 l6 l6 σ
  else
    L_isFilter_193 E r_9 r_28 l0 l1 l2 l3 s0 l5 l6 σ
set_option maxHeartbeats 4000000 in
set_option maxRecDepth 100000 in
theorem L_isFilter_182_W {σ : gS} {l0 : Nat} {l1 : Int32} {l2 : Int32} {l3 : Int32} {l5 : Int32} {l6 : Int32} {l9 : Int32} {s0 : Int32} {res : (Int32 × gS)} {ls : Array Slot} (hC : gC E D A p R s m args meth c cL_isFilter 13 RL "isFilter" 8 167) (hQ : gQI E D A p l e R s m args below meth c Q cL_isFilter FieldType.boolean res) (hst : l.stackTraces = false) {r_9 : Nat → Int32 → Int32 → Int32 → gS → Option (Int32 × gS)} (h_9 : ∀ {l0 : Nat} {l1 : Int32} {l2 : Int32} {l3 : Int32} {σ : gS} {H : Heap} {locs : List Loc} {cells slots : Nat} {ls : Array Slot}, r_9 l0 l1 l2 l3 σ = some res → gW E D A s σ H locs → lv_has ls 13 [(0, .ref l0), (1, .int l1), (2, .int l2), (3, .int l3)] → W p l e R s m args below meth c H locs cells slots Q (F0 m 9 ls [])) {r_28 : Nat → Int32 → Int32 → Int32 → Int32 → Int32 → Int32 → gS → Option (Int32 × gS)} (h_28 : ∀ {l0 : Nat} {l1 : Int32} {l2 : Int32} {l3 : Int32} {l4 : Int32} {l5 : Int32} {l6 : Int32} {σ : gS} {H : Heap} {locs : List Loc} {cells slots : Nat} {ls : Array Slot}, r_28 l0 l1 l2 l3 l4 l5 l6 σ = some res → gW E D A s σ H locs → lv_has ls 13 [(0, .ref l0), (1, .int l1), (2, .int l2), (3, .int l3), (4, .int l4), (5, .int l5), (6, .int l6)] → W p l e R s m args below meth c H locs cells slots Q (F0 m 28 ls [])) (hf : L_isFilter_182 E r_9 r_28 l0 l1 l2 l3 l5 l6 l9 s0 σ = some res) (hw : gW E D A s σ H locs) (hl : lv_has ls 13 [(0, .ref l0), (1, .int l1), (2, .int l2), (3, .int l3), (5, .int l5), (6, .int l6), (9, .int l9)]) : W p l e R s m args below meth c H locs cells slots Q (F0 m 182 ls [.int s0]) := by
  have hC0 := hC
  obtain ⟨hx, hb, hml, hown, hts, -⟩ := hC0
  unfold L_isFilter_182 at hf
  refine lv_istore (lv' := [(4, .int s0), (0, .ref l0), (1, .int l1), (2, .int l2), (3, .int l3), (5, .int l5), (6, .int l6), (9, .int l9)]) hx hb dL_isFilter_182 hl (by decide) rfl (fun ls hl => ?_)
  refine lv_iload hx hb dL_isFilter_184 (lv_at hl 7 rfl) ?_
  refine lv_if_ne (tgt := 193) hx hb dL_isFilter_186 (by decide) (fun c1 => ?_) (fun c1 => ?_)
  · replace hf := (if_neg c1).symm.trans hf
    exact L_isFilter_193_W hC hQ hst h_9 h_28 hf hw (lv_sub hl [1, 2, 3, 4, 0, 5, 6] rfl)
  · replace hf := (if_pos c1).symm.trans hf
    refine lv_iload hx hb dL_isFilter_189 (lv_at hl 6 rfl) ?_
    refine lv_istore (lv' := [(5, .int l6), (4, .int s0), (0, .ref l0), (1, .int l1), (2, .int l2), (3, .int l3), (6, .int l6), (9, .int l9)]) hx hb dL_isFilter_191 hl (by decide) rfl (fun ls hl => ?_)
    exact L_isFilter_193_W hC hQ hst h_9 h_28 hf hw (lv_sub hl [2, 3, 4, 5, 1, 0, 6] rfl)

def L_isFilter_181 (E : gE) (r_9 : Nat → Int32 → Int32 → Int32 → gS → Option (Int32 × gS)) (r_28 : Nat → Int32 → Int32 → Int32 → Int32 → Int32 → Int32 → gS → Option (Int32 × gS)) (l0 : Nat) (l1 : Int32) (l2 : Int32) (l3 : Int32) (l5 : Int32) (l6 : Int32) (l9 : Int32) (σ : gS) : Option (Int32 × gS) :=
  L_isFilter_182 E r_9 r_28 l0 l1 l2 l3 l5 l6 l9 (0 : Int32) σ
set_option maxHeartbeats 4000000 in
set_option maxRecDepth 100000 in
theorem L_isFilter_181_W {σ : gS} {l0 : Nat} {l1 : Int32} {l2 : Int32} {l3 : Int32} {l5 : Int32} {l6 : Int32} {l9 : Int32} {res : (Int32 × gS)} {ls : Array Slot} (hC : gC E D A p R s m args meth c cL_isFilter 13 RL "isFilter" 8 167) (hQ : gQI E D A p l e R s m args below meth c Q cL_isFilter FieldType.boolean res) (hst : l.stackTraces = false) {r_9 : Nat → Int32 → Int32 → Int32 → gS → Option (Int32 × gS)} (h_9 : ∀ {l0 : Nat} {l1 : Int32} {l2 : Int32} {l3 : Int32} {σ : gS} {H : Heap} {locs : List Loc} {cells slots : Nat} {ls : Array Slot}, r_9 l0 l1 l2 l3 σ = some res → gW E D A s σ H locs → lv_has ls 13 [(0, .ref l0), (1, .int l1), (2, .int l2), (3, .int l3)] → W p l e R s m args below meth c H locs cells slots Q (F0 m 9 ls [])) {r_28 : Nat → Int32 → Int32 → Int32 → Int32 → Int32 → Int32 → gS → Option (Int32 × gS)} (h_28 : ∀ {l0 : Nat} {l1 : Int32} {l2 : Int32} {l3 : Int32} {l4 : Int32} {l5 : Int32} {l6 : Int32} {σ : gS} {H : Heap} {locs : List Loc} {cells slots : Nat} {ls : Array Slot}, r_28 l0 l1 l2 l3 l4 l5 l6 σ = some res → gW E D A s σ H locs → lv_has ls 13 [(0, .ref l0), (1, .int l1), (2, .int l2), (3, .int l3), (4, .int l4), (5, .int l5), (6, .int l6)] → W p l e R s m args below meth c H locs cells slots Q (F0 m 28 ls [])) (hf : L_isFilter_181 E r_9 r_28 l0 l1 l2 l3 l5 l6 l9 σ = some res) (hw : gW E D A s σ H locs) (hl : lv_has ls 13 [(0, .ref l0), (1, .int l1), (2, .int l2), (3, .int l3), (5, .int l5), (6, .int l6), (9, .int l9)]) : W p l e R s m args below meth c H locs cells slots Q (F0 m 181 ls []) := by
  have hC0 := hC
  obtain ⟨hx, hb, hml, hown, hts, -⟩ := hC0
  unfold L_isFilter_181 at hf
  refine lv_iconst (v := 0) hx hb dL_isFilter_181 (by decide) ?_
  exact L_isFilter_182_W hC hQ hst h_9 h_28 hf hw (lv_sub hl [0, 1, 2, 3, 4, 5, 6] rfl)

def L_isFilter_156 (E : gE) (r_9 : Nat → Int32 → Int32 → Int32 → gS → Option (Int32 × gS)) (r_28 : Nat → Int32 → Int32 → Int32 → Int32 → Int32 → Int32 → gS → Option (Int32 × gS)) (l0 : Nat) (l1 : Int32) (l2 : Int32) (l3 : Int32) (l4 : Int32) (l5 : Int32) (l6 : Int32) (l9 : Int32) (s0 : Int32) (σ : gS) : Option (Int32 × gS) :=
  if l9 = s0 then
    if l4 = 0 then
      L_isFilter_181 E r_9 r_28 l0 l1 l2 l3 l5 l6 l9 σ
    else
      if l9 = 0 then
        L_isFilter_181 E r_9 r_28 l0 l1 l2 l3 l5 l6 l9 σ
      else
        L_isFilter_182 E r_9 r_28 l0 l1 l2 l3 l5 l6 l9 (1 : Int32) σ
  else
    some ((0 : Int32), σ)
set_option maxHeartbeats 4000000 in
set_option maxRecDepth 100000 in
theorem L_isFilter_156_W {σ : gS} {l0 : Nat} {l1 : Int32} {l2 : Int32} {l3 : Int32} {l4 : Int32} {l5 : Int32} {l6 : Int32} {l9 : Int32} {s0 : Int32} {res : (Int32 × gS)} {ls : Array Slot} (hC : gC E D A p R s m args meth c cL_isFilter 13 RL "isFilter" 8 167) (hQ : gQI E D A p l e R s m args below meth c Q cL_isFilter FieldType.boolean res) (hst : l.stackTraces = false) {r_9 : Nat → Int32 → Int32 → Int32 → gS → Option (Int32 × gS)} (h_9 : ∀ {l0 : Nat} {l1 : Int32} {l2 : Int32} {l3 : Int32} {σ : gS} {H : Heap} {locs : List Loc} {cells slots : Nat} {ls : Array Slot}, r_9 l0 l1 l2 l3 σ = some res → gW E D A s σ H locs → lv_has ls 13 [(0, .ref l0), (1, .int l1), (2, .int l2), (3, .int l3)] → W p l e R s m args below meth c H locs cells slots Q (F0 m 9 ls [])) {r_28 : Nat → Int32 → Int32 → Int32 → Int32 → Int32 → Int32 → gS → Option (Int32 × gS)} (h_28 : ∀ {l0 : Nat} {l1 : Int32} {l2 : Int32} {l3 : Int32} {l4 : Int32} {l5 : Int32} {l6 : Int32} {σ : gS} {H : Heap} {locs : List Loc} {cells slots : Nat} {ls : Array Slot}, r_28 l0 l1 l2 l3 l4 l5 l6 σ = some res → gW E D A s σ H locs → lv_has ls 13 [(0, .ref l0), (1, .int l1), (2, .int l2), (3, .int l3), (4, .int l4), (5, .int l5), (6, .int l6)] → W p l e R s m args below meth c H locs cells slots Q (F0 m 28 ls [])) (hf : L_isFilter_156 E r_9 r_28 l0 l1 l2 l3 l4 l5 l6 l9 s0 σ = some res) (hw : gW E D A s σ H locs) (hl : lv_has ls 13 [(0, .ref l0), (1, .int l1), (2, .int l2), (3, .int l3), (4, .int l4), (5, .int l5), (6, .int l6), (9, .int l9)]) : W p l e R s m args below meth c H locs cells slots Q (F0 m 156 ls [.int s0]) := by
  have hC0 := hC
  obtain ⟨hx, hb, hml, hown, hts, -⟩ := hC0
  unfold L_isFilter_156 at hf
  refine lv_istore (lv' := [(12, .int s0), (0, .ref l0), (1, .int l1), (2, .int l2), (3, .int l3), (4, .int l4), (5, .int l5), (6, .int l6), (9, .int l9)]) hx hb dL_isFilter_156 hl (by decide) rfl (fun ls hl => ?_)
  refine lv_iload hx hb dL_isFilter_158 (lv_at hl 8 rfl) ?_
  refine lv_iload hx hb dL_isFilter_160 (lv_at hl 0 rfl) ?_
  refine lv_icmp_eq (tgt := 167) hx hb dL_isFilter_162 (by decide) (fun c4 => ?_) (fun c4 => ?_)
  · replace hf := (if_pos c4).symm.trans hf
    refine lv_iload hx hb dL_isFilter_167 (lv_at hl 5 rfl) ?_
    refine lv_if_eq (tgt := 181) hx hb dL_isFilter_169 (by decide) (fun c3 => ?_) (fun c3 => ?_)
    · replace hf := (if_pos c3).symm.trans hf
      exact L_isFilter_181_W hC hQ hst h_9 h_28 hf hw (lv_sub hl [1, 2, 3, 4, 6, 7, 8] rfl)
    · replace hf := (if_neg c3).symm.trans hf
      refine lv_iload hx hb dL_isFilter_172 (lv_at hl 8 rfl) ?_
      refine lv_if_eq (tgt := 181) hx hb dL_isFilter_174 (by decide) (fun c2 => ?_) (fun c2 => ?_)
      · replace hf := (if_pos c2).symm.trans hf
        exact L_isFilter_181_W hC hQ hst h_9 h_28 hf hw (lv_sub hl [1, 2, 3, 4, 6, 7, 8] rfl)
      · replace hf := (if_neg c2).symm.trans hf
        refine lv_iconst (v := 1) hx hb dL_isFilter_177 (by decide) ?_
        refine lv_goto (tgt := 182) hx hb dL_isFilter_178 (by decide) ?_
        exact L_isFilter_182_W hC hQ hst h_9 h_28 hf hw (lv_sub hl [1, 2, 3, 4, 6, 7, 8] rfl)
  · replace hf := (if_neg c4).symm.trans hf
    refine lv_iconst (v := 0) hx hb dL_isFilter_165 (by decide) ?_
    cases hf
    exact hQ _ _ _ _ _ _ dL_isFilter_166 gz0 hw

def L_isFilter_77 (E : gE) (r_9 : Nat → Int32 → Int32 → Int32 → gS → Option (Int32 × gS)) (r_28 : Nat → Int32 → Int32 → Int32 → Int32 → Int32 → Int32 → gS → Option (Int32 × gS)) (l0 : Nat) (l1 : Int32) (l2 : Int32) (l3 : Int32) (l4 : Int32) (l5 : Int32) (l6 : Int32) (l7 : Int32) (s0 : Int32) (σ : gS) : Option (Int32 × gS) :=
  ob (gcl σ l0 10) fun _ =>
  ob (X12_value_f E l0 l7 l3 σ) fun x5 =>
  gtry x5 (fun _ _ => none) (fun x9 σ8 =>
    ob (gcl σ8 l0 10) fun _ =>
    ob (X12_conditionValue_f E l0 l6 σ8) fun x10 =>
    gtry x10 (fun _ _ => none) (fun x14 σ13 =>
      ob (gcl σ13 l0 10) fun _ =>
      ob (X12_conditionDirection_f E l0 l6 σ13) fun x15 =>
      gtry x15 (fun _ _ => none) (fun x19 σ18 =>
        if 0 ≤ x19 then
          ob (gcl σ18 l0 10) fun _ =>
          ob (X12_conditionDirection_f E l0 l6 σ18) fun x20 =>
          gtry x20 (fun _ _ => none) (fun x24 σ23 =>
            if x24 ≤ 0 then
              if x9 = x14 then
                L_isFilter_156 E r_9 r_28 l0 l1 l2 l3 l4 l5 l6 s0 (1 : Int32) σ23
              else
                L_isFilter_156 E r_9 r_28 l0 l1 l2 l3 l4 l5 l6 s0 (0 : Int32) σ23
            else
              if x9 ≤ x14 then
                L_isFilter_156 E r_9 r_28 l0 l1 l2 l3 l4 l5 l6 s0 (0 : Int32) σ23
              else
                L_isFilter_156 E r_9 r_28 l0 l1 l2 l3 l4 l5 l6 s0 (1 : Int32) σ23)
        else
          if x14 ≤ x9 then
            L_isFilter_156 E r_9 r_28 l0 l1 l2 l3 l4 l5 l6 s0 (0 : Int32) σ18
          else
            L_isFilter_156 E r_9 r_28 l0 l1 l2 l3 l4 l5 l6 s0 (1 : Int32) σ18)))
set_option maxHeartbeats 4000000 in
set_option maxRecDepth 100000 in
theorem L_isFilter_77_W {σ : gS} {l0 : Nat} {l1 : Int32} {l2 : Int32} {l3 : Int32} {l4 : Int32} {l5 : Int32} {l6 : Int32} {l7 : Int32} {s0 : Int32} {res : (Int32 × gS)} {ls : Array Slot} (hC : gC E D A p R s m args meth c cL_isFilter 13 RL "isFilter" 8 167) (hQ : gQI E D A p l e R s m args below meth c Q cL_isFilter FieldType.boolean res) (hst : l.stackTraces = false) {r_9 : Nat → Int32 → Int32 → Int32 → gS → Option (Int32 × gS)} (h_9 : ∀ {l0 : Nat} {l1 : Int32} {l2 : Int32} {l3 : Int32} {σ : gS} {H : Heap} {locs : List Loc} {cells slots : Nat} {ls : Array Slot}, r_9 l0 l1 l2 l3 σ = some res → gW E D A s σ H locs → lv_has ls 13 [(0, .ref l0), (1, .int l1), (2, .int l2), (3, .int l3)] → W p l e R s m args below meth c H locs cells slots Q (F0 m 9 ls [])) {r_28 : Nat → Int32 → Int32 → Int32 → Int32 → Int32 → Int32 → gS → Option (Int32 × gS)} (h_28 : ∀ {l0 : Nat} {l1 : Int32} {l2 : Int32} {l3 : Int32} {l4 : Int32} {l5 : Int32} {l6 : Int32} {σ : gS} {H : Heap} {locs : List Loc} {cells slots : Nat} {ls : Array Slot}, r_28 l0 l1 l2 l3 l4 l5 l6 σ = some res → gW E D A s σ H locs → lv_has ls 13 [(0, .ref l0), (1, .int l1), (2, .int l2), (3, .int l3), (4, .int l4), (5, .int l5), (6, .int l6)] → W p l e R s m args below meth c H locs cells slots Q (F0 m 28 ls [])) (hf : L_isFilter_77 E r_9 r_28 l0 l1 l2 l3 l4 l5 l6 l7 s0 σ = some res) (hw : gW E D A s σ H locs) (hl : lv_has ls 13 [(0, .ref l0), (1, .int l1), (2, .int l2), (3, .int l3), (4, .int l4), (5, .int l5), (6, .int l6), (7, .int l7)]) : W p l e R s m args below meth c H locs cells slots Q (F0 m 77 ls [.int s0]) := by
  have hC0 := hC
  obtain ⟨hx, hb, hml, hown, hts, -⟩ := hC0
  unfold L_isFilter_77 at hf
  refine lv_istore (lv' := [(9, .int s0), (0, .ref l0), (1, .int l1), (2, .int l2), (3, .int l3), (4, .int l4), (5, .int l5), (6, .int l6), (7, .int l7)]) hx hb dL_isFilter_77 hl (by decide) rfl (fun ls hl => ?_)
  refine lv_aload_n hx hb dL_isFilter_79 rfl (lv_at hl 1 rfl) ?_
  refine lv_iload hx hb dL_isFilter_80 (lv_at hl 8 rfl) ?_
  refine lv_iload_n hx hb dL_isFilter_82 rfl (lv_at hl 4 rfl) ?_
  obtain ⟨_, h7, hf⟩ := ob_some hf
  obtain ⟨x5, h6, hf⟩ := ob_some hf
  refine gg_yVI (As := [.int l7, .int l3]) hC hw (X12_value_M l hst E D A h6) h7 rfl g_ml_L_43 hd_X12_value (Nat.le_of_ble_eq_true rfl) (Nat.le_of_ble_eq_true rfl) hl.1 rfl (Nat.le_of_ble_eq_true rfl) dL_isFilter_83 (fun k9 σ9 he => ?_) (fun x9 σ8 he H locs cells slots hw => ?_)
  · subst he
    replace hf := gtry_inl.symm.trans hf
    cases hf
  · subst he
    replace hf := gtry_inr.symm.trans hf
    refine lv_istore (lv' := [(10, .int x9), (9, .int s0), (0, .ref l0), (1, .int l1), (2, .int l2), (3, .int l3), (4, .int l4), (5, .int l5), (6, .int l6), (7, .int l7)]) hx hb dL_isFilter_86 hl (by decide) rfl (fun ls hl => ?_)
    refine lv_aload_n hx hb dL_isFilter_88 rfl (lv_at hl 2 rfl) ?_
    refine lv_iload hx hb dL_isFilter_89 (lv_at hl 8 rfl) ?_
    obtain ⟨_, h12, hf⟩ := ob_some hf
    obtain ⟨x10, h11, hf⟩ := ob_some hf
    refine gg_yVI (As := [.int l6]) hC hw (X12_conditionValue_M l hst E D A h11) h12 rfl g_ml_L_53 hd_X12_conditionValue (Nat.le_of_ble_eq_true rfl) (Nat.le_of_ble_eq_true rfl) hl.1 rfl (Nat.le_of_ble_eq_true rfl) dL_isFilter_91 (fun k9 σ9 he => ?_) (fun x14 σ13 he H locs cells slots hw => ?_)
    · subst he
      replace hf := gtry_inl.symm.trans hf
      cases hf
    · subst he
      replace hf := gtry_inr.symm.trans hf
      refine lv_istore (lv' := [(11, .int x14), (10, .int x9), (9, .int s0), (0, .ref l0), (1, .int l1), (2, .int l2), (3, .int l3), (4, .int l4), (5, .int l5), (6, .int l6), (7, .int l7)]) hx hb dL_isFilter_94 hl (by decide) rfl (fun ls hl => ?_)
      refine lv_aload_n hx hb dL_isFilter_96 rfl (lv_at hl 3 rfl) ?_
      refine lv_iload hx hb dL_isFilter_97 (lv_at hl 9 rfl) ?_
      obtain ⟨_, h17, hf⟩ := ob_some hf
      obtain ⟨x15, h16, hf⟩ := ob_some hf
      refine gg_yVI (As := [.int l6]) hC hw (X12_conditionDirection_M l hst E D A h16) h17 rfl g_ml_L_56 hd_X12_conditionDirection (Nat.le_of_ble_eq_true rfl) (Nat.le_of_ble_eq_true rfl) hl.1 rfl (Nat.le_of_ble_eq_true rfl) dL_isFilter_99 (fun k9 σ9 he => ?_) (fun x19 σ18 he H locs cells slots hw => ?_)
      · subst he
        replace hf := gtry_inl.symm.trans hf
        cases hf
      · subst he
        replace hf := gtry_inr.symm.trans hf
        refine lv_if_ge (tgt := 120) hx hb dL_isFilter_102 (by decide) (fun c29 => ?_) (fun c29 => ?_)
        · replace hf := (if_pos c29).symm.trans hf
          refine lv_aload_n hx hb dL_isFilter_120 rfl (lv_at hl 3 rfl) ?_
          refine lv_iload hx hb dL_isFilter_121 (lv_at hl 9 rfl) ?_
          obtain ⟨_, h22, hf⟩ := ob_some hf
          obtain ⟨x20, h21, hf⟩ := ob_some hf
          refine gg_yVI (As := [.int l6]) hC hw (X12_conditionDirection_M l hst E D A h21) h22 rfl g_ml_L_56 hd_X12_conditionDirection (Nat.le_of_ble_eq_true rfl) (Nat.le_of_ble_eq_true rfl) hl.1 rfl (Nat.le_of_ble_eq_true rfl) dL_isFilter_123 (fun k9 σ9 he => ?_) (fun x24 σ23 he H locs cells slots hw => ?_)
          · subst he
            replace hf := gtry_inl.symm.trans hf
            cases hf
          · subst he
            replace hf := gtry_inr.symm.trans hf
            refine lv_if_le (tgt := 144) hx hb dL_isFilter_126 (by decide) (fun c27 => ?_) (fun c27 => ?_)
            · replace hf := (if_pos c27).symm.trans hf
              refine lv_iload hx hb dL_isFilter_144 (lv_at hl 1 rfl) ?_
              refine lv_iload hx hb dL_isFilter_146 (lv_at hl 0 rfl) ?_
              refine lv_icmp_ne (tgt := 155) hx hb dL_isFilter_148 (by decide) (fun c25 => ?_) (fun c25 => ?_)
              · replace hf := (if_neg c25).symm.trans hf
                refine lv_iconst (v := 0) hx hb dL_isFilter_155 (by decide) ?_
                exact L_isFilter_156_W hC hQ hst h_9 h_28 hf hw (lv_sub hl [3, 4, 5, 6, 7, 8, 9, 2] rfl)
              · replace hf := (if_pos c25).symm.trans hf
                refine lv_iconst (v := 1) hx hb dL_isFilter_151 (by decide) ?_
                refine lv_goto (tgt := 156) hx hb dL_isFilter_152 (by decide) ?_
                exact L_isFilter_156_W hC hQ hst h_9 h_28 hf hw (lv_sub hl [3, 4, 5, 6, 7, 8, 9, 2] rfl)
            · replace hf := (if_neg c27).symm.trans hf
              refine lv_iload hx hb dL_isFilter_129 (lv_at hl 1 rfl) ?_
              refine lv_iload hx hb dL_isFilter_131 (lv_at hl 0 rfl) ?_
              refine lv_icmp_le (tgt := 140) hx hb dL_isFilter_133 (by decide) (fun c26 => ?_) (fun c26 => ?_)
              · replace hf := (if_pos c26).symm.trans hf
                refine lv_iconst (v := 0) hx hb dL_isFilter_140 (by decide) ?_
                refine lv_goto (tgt := 156) hx hb dL_isFilter_141 (by decide) ?_
                exact L_isFilter_156_W hC hQ hst h_9 h_28 hf hw (lv_sub hl [3, 4, 5, 6, 7, 8, 9, 2] rfl)
              · replace hf := (if_neg c26).symm.trans hf
                refine lv_iconst (v := 1) hx hb dL_isFilter_136 (by decide) ?_
                refine lv_goto (tgt := 156) hx hb dL_isFilter_137 (by decide) ?_
                exact L_isFilter_156_W hC hQ hst h_9 h_28 hf hw (lv_sub hl [3, 4, 5, 6, 7, 8, 9, 2] rfl)
        · replace hf := (if_neg c29).symm.trans hf
          refine lv_iload hx hb dL_isFilter_105 (lv_at hl 1 rfl) ?_
          refine lv_iload hx hb dL_isFilter_107 (lv_at hl 0 rfl) ?_
          refine lv_icmp_ge (tgt := 116) hx hb dL_isFilter_109 (by decide) (fun c28 => ?_) (fun c28 => ?_)
          · replace hf := (if_pos c28).symm.trans hf
            refine lv_iconst (v := 0) hx hb dL_isFilter_116 (by decide) ?_
            refine lv_goto (tgt := 156) hx hb dL_isFilter_117 (by decide) ?_
            exact L_isFilter_156_W hC hQ hst h_9 h_28 hf hw (lv_sub hl [3, 4, 5, 6, 7, 8, 9, 2] rfl)
          · replace hf := (if_neg c28).symm.trans hf
            refine lv_iconst (v := 1) hx hb dL_isFilter_112 (by decide) ?_
            refine lv_goto (tgt := 156) hx hb dL_isFilter_113 (by decide) ?_
            exact L_isFilter_156_W hC hQ hst h_9 h_28 hf hw (lv_sub hl [3, 4, 5, 6, 7, 8, 9, 2] rfl)

def L_isFilter_76 (E : gE) (r_9 : Nat → Int32 → Int32 → Int32 → gS → Option (Int32 × gS)) (r_28 : Nat → Int32 → Int32 → Int32 → Int32 → Int32 → Int32 → gS → Option (Int32 × gS)) (l0 : Nat) (l1 : Int32) (l2 : Int32) (l3 : Int32) (l4 : Int32) (l5 : Int32) (l6 : Int32) (l7 : Int32) (σ : gS) : Option (Int32 × gS) :=
  L_isFilter_77 E r_9 r_28 l0 l1 l2 l3 l4 l5 l6 l7 (0 : Int32) σ
set_option maxHeartbeats 4000000 in
set_option maxRecDepth 100000 in
theorem L_isFilter_76_W {σ : gS} {l0 : Nat} {l1 : Int32} {l2 : Int32} {l3 : Int32} {l4 : Int32} {l5 : Int32} {l6 : Int32} {l7 : Int32} {res : (Int32 × gS)} {ls : Array Slot} (hC : gC E D A p R s m args meth c cL_isFilter 13 RL "isFilter" 8 167) (hQ : gQI E D A p l e R s m args below meth c Q cL_isFilter FieldType.boolean res) (hst : l.stackTraces = false) {r_9 : Nat → Int32 → Int32 → Int32 → gS → Option (Int32 × gS)} (h_9 : ∀ {l0 : Nat} {l1 : Int32} {l2 : Int32} {l3 : Int32} {σ : gS} {H : Heap} {locs : List Loc} {cells slots : Nat} {ls : Array Slot}, r_9 l0 l1 l2 l3 σ = some res → gW E D A s σ H locs → lv_has ls 13 [(0, .ref l0), (1, .int l1), (2, .int l2), (3, .int l3)] → W p l e R s m args below meth c H locs cells slots Q (F0 m 9 ls [])) {r_28 : Nat → Int32 → Int32 → Int32 → Int32 → Int32 → Int32 → gS → Option (Int32 × gS)} (h_28 : ∀ {l0 : Nat} {l1 : Int32} {l2 : Int32} {l3 : Int32} {l4 : Int32} {l5 : Int32} {l6 : Int32} {σ : gS} {H : Heap} {locs : List Loc} {cells slots : Nat} {ls : Array Slot}, r_28 l0 l1 l2 l3 l4 l5 l6 σ = some res → gW E D A s σ H locs → lv_has ls 13 [(0, .ref l0), (1, .int l1), (2, .int l2), (3, .int l3), (4, .int l4), (5, .int l5), (6, .int l6)] → W p l e R s m args below meth c H locs cells slots Q (F0 m 28 ls [])) (hf : L_isFilter_76 E r_9 r_28 l0 l1 l2 l3 l4 l5 l6 l7 σ = some res) (hw : gW E D A s σ H locs) (hl : lv_has ls 13 [(0, .ref l0), (1, .int l1), (2, .int l2), (3, .int l3), (4, .int l4), (5, .int l5), (6, .int l6), (7, .int l7)]) : W p l e R s m args below meth c H locs cells slots Q (F0 m 76 ls []) := by
  have hC0 := hC
  obtain ⟨hx, hb, hml, hown, hts, -⟩ := hC0
  unfold L_isFilter_76 at hf
  refine lv_iconst (v := 0) hx hb dL_isFilter_76 (by decide) ?_
  exact L_isFilter_77_W hC hQ hst h_9 h_28 hf hw (lv_sub hl [0, 1, 2, 3, 4, 5, 6, 7] rfl)

def L_isFilter_219 (E : gE) (σ : gS) : Option (Int32 × gS) :=
  some ((0 : Int32), σ)
set_option maxHeartbeats 4000000 in
set_option maxRecDepth 100000 in
theorem L_isFilter_219_W {σ : gS} {res : (Int32 × gS)} {ls : Array Slot} (hC : gC E D A p R s m args meth c cL_isFilter 13 RL "isFilter" 8 167) (hQ : gQI E D A p l e R s m args below meth c Q cL_isFilter FieldType.boolean res) (hst : l.stackTraces = false) (hf : L_isFilter_219 E σ = some res) (hw : gW E D A s σ H locs) (hl : lv_has ls 13 []) : W p l e R s m args below meth c H locs cells slots Q (F0 m 219 ls []) := by
  have hC0 := hC
  obtain ⟨hx, hb, hml, hown, hts, -⟩ := hC0
  unfold L_isFilter_219 at hf
  refine lv_iconst (v := 0) hx hb dL_isFilter_219 (by decide) ?_
  cases hf
  exact hQ _ _ _ _ _ _ dL_isFilter_220 gz0 hw

def L_isFilter_240 (E : gE) (r_9 : Nat → Int32 → Int32 → Int32 → gS → Option (Int32 × gS)) (l0 : Nat) (l1 : Int32) (l2 : Int32) (l3 : Int32) (σ : gS) : Option (Int32 × gS) :=
  r_9 l0 l1 l2 (l3 + 1) σ
set_option maxHeartbeats 4000000 in
set_option maxRecDepth 100000 in
theorem L_isFilter_240_W {σ : gS} {l0 : Nat} {l1 : Int32} {l2 : Int32} {l3 : Int32} {res : (Int32 × gS)} {ls : Array Slot} (hC : gC E D A p R s m args meth c cL_isFilter 13 RL "isFilter" 8 167) (hQ : gQI E D A p l e R s m args below meth c Q cL_isFilter FieldType.boolean res) (hst : l.stackTraces = false) {r_9 : Nat → Int32 → Int32 → Int32 → gS → Option (Int32 × gS)} (h_9 : ∀ {l0 : Nat} {l1 : Int32} {l2 : Int32} {l3 : Int32} {σ : gS} {H : Heap} {locs : List Loc} {cells slots : Nat} {ls : Array Slot}, r_9 l0 l1 l2 l3 σ = some res → gW E D A s σ H locs → lv_has ls 13 [(0, .ref l0), (1, .int l1), (2, .int l2), (3, .int l3)] → W p l e R s m args below meth c H locs cells slots Q (F0 m 9 ls [])) (hf : L_isFilter_240 E r_9 l0 l1 l2 l3 σ = some res) (hw : gW E D A s σ H locs) (hl : lv_has ls 13 [(0, .ref l0), (1, .int l1), (2, .int l2), (3, .int l3)]) : W p l e R s m args below meth c H locs cells slots Q (F0 m 240 ls []) := by
  have hC0 := hC
  obtain ⟨hx, hb, hml, hown, hts, -⟩ := hC0
  unfold L_isFilter_240 at hf
  refine lv_iinc (v := (l3 + 1)) (lv' := [(3, .int (l3 + 1)), (0, .ref l0), (1, .int l1), (2, .int l2)]) hx hb dL_isFilter_240 hl (k := 3) rfl rfl (by decide) rfl (fun ls hl => ?_)
  refine lv_goto (tgt := 9) hx hb dL_isFilter_243 (by decide) ?_
  exact h_9 hf hw (lv_sub hl [1, 2, 3, 0] rfl)

def L_isFilter_28_s (E : gE) (r_9 : Nat → Int32 → Int32 → Int32 → gS → Option (Int32 × gS)) (r_28 : Nat → Int32 → Int32 → Int32 → Int32 → Int32 → Int32 → gS → Option (Int32 × gS)) (l0 : Nat) (l1 : Int32) (l2 : Int32) (l3 : Int32) (l4 : Int32) (l5 : Int32) (l6 : Int32) (σ : gS) : Option (Int32 × gS) :=
  if l6 < 0 then
    ob (gcl σ l0 10) fun _ =>
    ob (X12_isSelected_f E l0 l3 σ) fun x30 =>
    gtry x30 (fun _ _ => none) (fun x34 σ33 =>
      if x34 = l4 then
        ob (gcl σ33 l0 10) fun _ =>
        ob (X12_rejectedBy_f E l0 l3 σ33) fun x35 =>
        gtry x35 (fun _ _ => none) (fun x39 σ38 =>
          if x39 = l5 then
            if l4 = 0 then
              L_isFilter_240 E r_9 l0 l1 l2 l3 σ38
            else
              ob (gcl σ38 l0 10) fun _ =>
              ob (X12_selectedRow_f E σ38 l0 l2) fun x40 =>
              if x40 = l3 then
                L_isFilter_240 E r_9 l0 l1 (l2 + 1) l3 σ38
              else
                some ((0 : Int32), σ38)
          else
            L_isFilter_219 E σ38)
      else
        L_isFilter_219 E σ33)
  else
    ob (gcl σ l0 10) fun _ =>
    ob (X12_conditionColumn_f E l0 l6 σ) fun x47 =>
    gtry x47 (fun _ _ => none) (fun x51 σ50 =>
      ob (gcl σ50 l0 10) fun _ =>
      ob (X12_code_f E l0 x51 l3 σ50) fun x52 =>
      gtry x52 (fun _ _ => none) (fun x56 σ55 =>
        ob (gcl σ55 l0 10) fun _ =>
        ob (X12_lowerCode_f E l0 l6 σ55) fun x57 =>
        gtry x57 (fun _ _ => none) (fun x61 σ60 =>
          if x56 < x61 then
            L_isFilter_76 E r_9 r_28 l0 l1 l2 l3 l4 l5 l6 x51 σ60
          else
            ob (gcl σ60 l0 10) fun _ =>
            ob (X12_upperCode_f E l0 l6 σ60) fun x62 =>
            gtry x62 (fun _ _ => none) (fun x66 σ65 =>
              if x66 ≤ x56 then
                L_isFilter_76 E r_9 r_28 l0 l1 l2 l3 l4 l5 l6 x51 σ65
              else
                L_isFilter_77 E r_9 r_28 l0 l1 l2 l3 l4 l5 l6 x51 (1 : Int32) σ65))))
set_option maxHeartbeats 4000000 in
set_option maxRecDepth 100000 in
theorem L_isFilter_28_s_W {σ : gS} {l0 : Nat} {l1 : Int32} {l2 : Int32} {l3 : Int32} {l4 : Int32} {l5 : Int32} {l6 : Int32} {res : (Int32 × gS)} {ls : Array Slot} (hC : gC E D A p R s m args meth c cL_isFilter 13 RL "isFilter" 8 167) (hQ : gQI E D A p l e R s m args below meth c Q cL_isFilter FieldType.boolean res) (hst : l.stackTraces = false) {r_9 : Nat → Int32 → Int32 → Int32 → gS → Option (Int32 × gS)} (h_9 : ∀ {l0 : Nat} {l1 : Int32} {l2 : Int32} {l3 : Int32} {σ : gS} {H : Heap} {locs : List Loc} {cells slots : Nat} {ls : Array Slot}, r_9 l0 l1 l2 l3 σ = some res → gW E D A s σ H locs → lv_has ls 13 [(0, .ref l0), (1, .int l1), (2, .int l2), (3, .int l3)] → W p l e R s m args below meth c H locs cells slots Q (F0 m 9 ls [])) {r_28 : Nat → Int32 → Int32 → Int32 → Int32 → Int32 → Int32 → gS → Option (Int32 × gS)} (h_28 : ∀ {l0 : Nat} {l1 : Int32} {l2 : Int32} {l3 : Int32} {l4 : Int32} {l5 : Int32} {l6 : Int32} {σ : gS} {H : Heap} {locs : List Loc} {cells slots : Nat} {ls : Array Slot}, r_28 l0 l1 l2 l3 l4 l5 l6 σ = some res → gW E D A s σ H locs → lv_has ls 13 [(0, .ref l0), (1, .int l1), (2, .int l2), (3, .int l3), (4, .int l4), (5, .int l5), (6, .int l6)] → W p l e R s m args below meth c H locs cells slots Q (F0 m 28 ls [])) (hf : L_isFilter_28_s E r_9 r_28 l0 l1 l2 l3 l4 l5 l6 σ = some res) (hw : gW E D A s σ H locs) (hl : lv_has ls 13 [(0, .ref l0), (1, .int l1), (2, .int l2), (3, .int l3), (4, .int l4), (5, .int l5), (6, .int l6)]) : W p l e R s m args below meth c H locs cells slots Q (F0 m 28 ls []) := by
  have hC0 := hC
  obtain ⟨hx, hb, hml, hown, hts, -⟩ := hC0
  unfold L_isFilter_28_s at hf
  refine lv_iload hx hb dL_isFilter_28 (lv_at hl 6 rfl) ?_
  refine lv_if_lt (tgt := 199) hx hb dL_isFilter_30 (by decide) (fun c69 => ?_) (fun c69 => ?_)
  · replace hf := (if_pos c69).symm.trans hf
    refine lv_aload_n hx hb dL_isFilter_199 rfl (lv_at hl 0 rfl) ?_
    refine lv_iload_n hx hb dL_isFilter_200 rfl (lv_at hl 3 rfl) ?_
    obtain ⟨_, h32, hf⟩ := ob_some hf
    obtain ⟨x30, h31, hf⟩ := ob_some hf
    refine gg_yVI (As := [.int l3]) hC hw (X12_isSelected_M l hst E D A h31) h32 rfl g_ml_L_112 hd_X12_isSelected (Nat.le_of_ble_eq_true rfl) (Nat.le_of_ble_eq_true rfl) hl.1 rfl (Nat.le_of_ble_eq_true rfl) dL_isFilter_201 (fun k9 σ9 he => ?_) (fun x34 σ33 he H locs cells slots hw => ?_)
    · subst he
      replace hf := gtry_inl.symm.trans hf
      cases hf
    · subst he
      replace hf := gtry_inr.symm.trans hf
      refine lv_iload hx hb dL_isFilter_204 (lv_at hl 4 rfl) ?_
      refine lv_icmp_ne (tgt := 219) hx hb dL_isFilter_206 (by decide) (fun c46 => ?_) (fun c46 => ?_)
      · replace hf := (if_neg c46).symm.trans hf
        exact L_isFilter_219_W hC hQ hst hf hw (lv_sub hl [] rfl)
      · replace hf := (if_pos c46).symm.trans hf
        refine lv_aload_n hx hb dL_isFilter_209 rfl (lv_at hl 0 rfl) ?_
        refine lv_iload_n hx hb dL_isFilter_210 rfl (lv_at hl 3 rfl) ?_
        obtain ⟨_, h37, hf⟩ := ob_some hf
        obtain ⟨x35, h36, hf⟩ := ob_some hf
        refine gg_yVI (As := [.int l3]) hC hw (X12_rejectedBy_M l hst E D A h36) h37 rfl g_ml_L_115 hd_X12_rejectedBy (Nat.le_of_ble_eq_true rfl) (Nat.le_of_ble_eq_true rfl) hl.1 rfl (Nat.le_of_ble_eq_true rfl) dL_isFilter_211 (fun k9 σ9 he => ?_) (fun x39 σ38 he H locs cells slots hw => ?_)
        · subst he
          replace hf := gtry_inl.symm.trans hf
          cases hf
        · subst he
          replace hf := gtry_inr.symm.trans hf
          refine lv_iload hx hb dL_isFilter_214 (lv_at hl 5 rfl) ?_
          refine lv_icmp_eq (tgt := 221) hx hb dL_isFilter_216 (by decide) (fun c45 => ?_) (fun c45 => ?_)
          · replace hf := (if_pos c45).symm.trans hf
            refine lv_iload hx hb dL_isFilter_221 (lv_at hl 4 rfl) ?_
            refine lv_if_eq (tgt := 240) hx hb dL_isFilter_223 (by decide) (fun c44 => ?_) (fun c44 => ?_)
            · replace hf := (if_pos c44).symm.trans hf
              exact L_isFilter_240_W hC hQ hst h_9 hf hw (lv_sub hl [0, 1, 2, 3] rfl)
            · replace hf := (if_neg c44).symm.trans hf
              refine lv_aload_n hx hb dL_isFilter_226 rfl (lv_at hl 0 rfl) ?_
              refine lv_iload_n hx hb dL_isFilter_227 rfl (lv_at hl 2 rfl) ?_
              refine lv_iinc (v := (l2 + 1)) (lv' := [(2, .int (l2 + 1)), (0, .ref l0), (1, .int l1), (3, .int l3), (4, .int l4), (5, .int l5), (6, .int l6)]) hx hb dL_isFilter_228 hl (k := 2) rfl rfl (by decide) rfl (fun ls hl => ?_)
              obtain ⟨_, h42, hf⟩ := ob_some hf
              obtain ⟨x40, h41, hf⟩ := ob_some hf
              refine gg_cVI (As := [.int l2]) hC hw (X12_selectedRow_M l E D A h41) h42 rfl g_ml_L_118 hd_X12_selectedRow (Nat.le_of_ble_eq_true rfl) (Nat.le_of_ble_eq_true rfl) hl.1 rfl (Nat.le_of_ble_eq_true rfl) dL_isFilter_231 (fun H locs cells slots hw => ?_)
              refine lv_iload_n hx hb dL_isFilter_234 rfl (lv_at hl 3 rfl) ?_
              refine lv_icmp_eq (tgt := 240) hx hb dL_isFilter_235 (by decide) (fun c43 => ?_) (fun c43 => ?_)
              · replace hf := (if_pos c43).symm.trans hf
                exact L_isFilter_240_W hC hQ hst h_9 hf hw (lv_sub hl [1, 2, 0, 3] rfl)
              · replace hf := (if_neg c43).symm.trans hf
                refine lv_iconst (v := 0) hx hb dL_isFilter_238 (by decide) ?_
                cases hf
                exact hQ _ _ _ _ _ _ dL_isFilter_239 gz0 hw
          · replace hf := (if_neg c45).symm.trans hf
            exact L_isFilter_219_W hC hQ hst hf hw (lv_sub hl [] rfl)
  · replace hf := (if_neg c69).symm.trans hf
    refine lv_aload_n hx hb dL_isFilter_33 rfl (lv_at hl 0 rfl) ?_
    refine lv_iload hx hb dL_isFilter_34 (lv_at hl 6 rfl) ?_
    obtain ⟨_, h49, hf⟩ := ob_some hf
    obtain ⟨x47, h48, hf⟩ := ob_some hf
    refine gg_yVI (As := [.int l6]) hC hw (X12_conditionColumn_M l hst E D A h48) h49 rfl g_ml_L_50 hd_X12_conditionColumn (Nat.le_of_ble_eq_true rfl) (Nat.le_of_ble_eq_true rfl) hl.1 rfl (Nat.le_of_ble_eq_true rfl) dL_isFilter_36 (fun k9 σ9 he => ?_) (fun x51 σ50 he H locs cells slots hw => ?_)
    · subst he
      replace hf := gtry_inl.symm.trans hf
      cases hf
    · subst he
      replace hf := gtry_inr.symm.trans hf
      refine lv_istore (lv' := [(7, .int x51), (0, .ref l0), (1, .int l1), (2, .int l2), (3, .int l3), (4, .int l4), (5, .int l5), (6, .int l6)]) hx hb dL_isFilter_39 hl (by decide) rfl (fun ls hl => ?_)
      refine lv_aload_n hx hb dL_isFilter_41 rfl (lv_at hl 1 rfl) ?_
      refine lv_iload hx hb dL_isFilter_42 (lv_at hl 0 rfl) ?_
      refine lv_iload_n hx hb dL_isFilter_44 rfl (lv_at hl 4 rfl) ?_
      obtain ⟨_, h54, hf⟩ := ob_some hf
      obtain ⟨x52, h53, hf⟩ := ob_some hf
      refine gg_yVI (As := [.int x51, .int l3]) hC hw (X12_code_M l hst E D A h53) h54 rfl g_ml_L_72 hd_X12_code (Nat.le_of_ble_eq_true rfl) (Nat.le_of_ble_eq_true rfl) hl.1 rfl (Nat.le_of_ble_eq_true rfl) dL_isFilter_45 (fun k9 σ9 he => ?_) (fun x56 σ55 he H locs cells slots hw => ?_)
      · subst he
        replace hf := gtry_inl.symm.trans hf
        cases hf
      · subst he
        replace hf := gtry_inr.symm.trans hf
        refine lv_istore (lv' := [(8, .int x56), (7, .int x51), (0, .ref l0), (1, .int l1), (2, .int l2), (3, .int l3), (4, .int l4), (5, .int l5), (6, .int l6)]) hx hb dL_isFilter_48 hl (by decide) rfl (fun ls hl => ?_)
        refine lv_iload hx hb dL_isFilter_50 (lv_at hl 0 rfl) ?_
        refine lv_aload_n hx hb dL_isFilter_52 rfl (lv_at hl 2 rfl) ?_
        refine lv_iload hx hb dL_isFilter_53 (lv_at hl 8 rfl) ?_
        obtain ⟨_, h59, hf⟩ := ob_some hf
        obtain ⟨x57, h58, hf⟩ := ob_some hf
        refine gg_yVI (As := [.int l6]) hC hw (X12_lowerCode_M l hst E D A h58) h59 rfl g_ml_L_106 hd_X12_lowerCode (Nat.le_of_ble_eq_true rfl) (Nat.le_of_ble_eq_true rfl) hl.1 rfl (Nat.le_of_ble_eq_true rfl) dL_isFilter_55 (fun k9 σ9 he => ?_) (fun x61 σ60 he H locs cells slots hw => ?_)
        · subst he
          replace hf := gtry_inl.symm.trans hf
          cases hf
        · subst he
          replace hf := gtry_inr.symm.trans hf
          refine lv_icmp_lt (tgt := 76) hx hb dL_isFilter_58 (by decide) (fun c68 => ?_) (fun c68 => ?_)
          · replace hf := (if_pos c68).symm.trans hf
            exact L_isFilter_76_W hC hQ hst h_9 h_28 hf hw (lv_sub hl [2, 3, 4, 5, 6, 7, 8, 1] rfl)
          · replace hf := (if_neg c68).symm.trans hf
            refine lv_iload hx hb dL_isFilter_61 (lv_at hl 0 rfl) ?_
            refine lv_aload_n hx hb dL_isFilter_63 rfl (lv_at hl 2 rfl) ?_
            refine lv_iload hx hb dL_isFilter_64 (lv_at hl 8 rfl) ?_
            obtain ⟨_, h64, hf⟩ := ob_some hf
            obtain ⟨x62, h63, hf⟩ := ob_some hf
            refine gg_yVI (As := [.int l6]) hC hw (X12_upperCode_M l hst E D A h63) h64 rfl g_ml_L_109 hd_X12_upperCode (Nat.le_of_ble_eq_true rfl) (Nat.le_of_ble_eq_true rfl) hl.1 rfl (Nat.le_of_ble_eq_true rfl) dL_isFilter_66 (fun k9 σ9 he => ?_) (fun x66 σ65 he H locs cells slots hw => ?_)
            · subst he
              replace hf := gtry_inl.symm.trans hf
              cases hf
            · subst he
              replace hf := gtry_inr.symm.trans hf
              refine lv_icmp_ge (tgt := 76) hx hb dL_isFilter_69 (by decide) (fun c67 => ?_) (fun c67 => ?_)
              · replace hf := (if_pos c67).symm.trans hf
                exact L_isFilter_76_W hC hQ hst h_9 h_28 hf hw (lv_sub hl [2, 3, 4, 5, 6, 7, 8, 1] rfl)
              · replace hf := (if_neg c67).symm.trans hf
                refine lv_iconst (v := 1) hx hb dL_isFilter_72 (by decide) ?_
                refine lv_goto (tgt := 77) hx hb dL_isFilter_73 (by decide) ?_
                exact L_isFilter_77_W hC hQ hst h_9 h_28 hf hw (lv_sub hl [2, 3, 4, 5, 6, 7, 8, 1] rfl)
def L_isFilter_28 (E : gE) (r_9 : Nat → Int32 → Int32 → Int32 → gS → Option (Int32 × gS)) : Nat → Nat → Int32 → Int32 → Int32 → Int32 → Int32 → Int32 → gS → Option (Int32 × gS)
  | 0 => fun _ _ _ _ _ _ _ _ => none
  | n + 1 => L_isFilter_28_s E r_9 (L_isFilter_28 E r_9 n)
theorem L_isFilter_28_W {res : (Int32 × gS)} (hC : gC E D A p R s m args meth c cL_isFilter 13 RL "isFilter" 8 167) (hQ : gQI E D A p l e R s m args below meth c Q cL_isFilter FieldType.boolean res) (hst : l.stackTraces = false) {r_9 : Nat → Int32 → Int32 → Int32 → gS → Option (Int32 × gS)} (h_9 : ∀ {l0 : Nat} {l1 : Int32} {l2 : Int32} {l3 : Int32} {σ : gS} {H : Heap} {locs : List Loc} {cells slots : Nat} {ls : Array Slot}, r_9 l0 l1 l2 l3 σ = some res → gW E D A s σ H locs → lv_has ls 13 [(0, .ref l0), (1, .int l1), (2, .int l2), (3, .int l3)] → W p l e R s m args below meth c H locs cells slots Q (F0 m 9 ls [])) : ∀ (n : Nat), ∀ {l0 : Nat} {l1 : Int32} {l2 : Int32} {l3 : Int32} {l4 : Int32} {l5 : Int32} {l6 : Int32} {σ : gS} {H : Heap} {locs : List Loc} {cells slots : Nat} {ls : Array Slot}, L_isFilter_28 E r_9 n l0 l1 l2 l3 l4 l5 l6 σ = some res → gW E D A s σ H locs → lv_has ls 13 [(0, .ref l0), (1, .int l1), (2, .int l2), (3, .int l3), (4, .int l4), (5, .int l5), (6, .int l6)] → W p l e R s m args below meth c H locs cells slots Q (F0 m 28 ls []) := by
  intro n
  induction n with
  | zero =>
    intros
    rename_i hf _ _
    exact absurd hf (fun h => by cases (show (none : Option (Int32 × gS)) = some res from h))
  | succ n ih =>
    intros
    rename_i hf hw hl
    exact L_isFilter_28_s_W hC hQ hst h_9 ih hf hw hl

def L_isFilter_308 (E : gE) (σ : gS) : Option (Int32 × gS) :=
  some ((0 : Int32), σ)
set_option maxHeartbeats 4000000 in
set_option maxRecDepth 100000 in
theorem L_isFilter_308_W {σ : gS} {res : (Int32 × gS)} {ls : Array Slot} (hC : gC E D A p R s m args meth c cL_isFilter 13 RL "isFilter" 8 167) (hQ : gQI E D A p l e R s m args below meth c Q cL_isFilter FieldType.boolean res) (hst : l.stackTraces = false) (hf : L_isFilter_308 E σ = some res) (hw : gW E D A s σ H locs) (hl : lv_has ls 13 []) : W p l e R s m args below meth c H locs cells slots Q (F0 m 308 ls []) := by
  have hC0 := hC
  obtain ⟨hx, hb, hml, hown, hts, -⟩ := hC0
  unfold L_isFilter_308 at hf
  refine lv_iconst (v := 0) hx hb dL_isFilter_308 (by decide) ?_
  cases hf
  exact hQ _ _ _ _ _ _ dL_isFilter_309 gz0 hw

def L_isFilter_411 (E : gE) (σ : gS) : Option (Int32 × gS) :=
  some ((0 : Int32), σ)
set_option maxHeartbeats 4000000 in
set_option maxRecDepth 100000 in
theorem L_isFilter_411_W {σ : gS} {res : (Int32 × gS)} {ls : Array Slot} (hC : gC E D A p R s m args meth c cL_isFilter 13 RL "isFilter" 8 167) (hQ : gQI E D A p l e R s m args below meth c Q cL_isFilter FieldType.boolean res) (hst : l.stackTraces = false) (hf : L_isFilter_411 E σ = some res) (hw : gW E D A s σ H locs) (hl : lv_has ls 13 []) : W p l e R s m args below meth c H locs cells slots Q (F0 m 411 ls []) := by
  have hC0 := hC
  obtain ⟨hx, hb, hml, hown, hts, -⟩ := hC0
  unfold L_isFilter_411 at hf
  refine lv_iconst (v := 0) hx hb dL_isFilter_411 (by decide) ?_
  cases hf
  exact hQ _ _ _ _ _ _ dL_isFilter_412 gz0 hw

def L_isFilter_408 (E : gE) (r_318 : Nat → Int32 → Int32 → gS → Option (Int32 × gS)) (l0 : Nat) (l2 : Int32) (l3 : Int32) (s0 : Int32) (s1 : Int32) (σ : gS) : Option (Int32 × gS) :=
  if s1 = s0 then
    r_318 l0 l2 (l3 + 1) σ
  else
    L_isFilter_411 E σ
set_option maxHeartbeats 4000000 in
set_option maxRecDepth 100000 in
theorem L_isFilter_408_W {σ : gS} {l0 : Nat} {l2 : Int32} {l3 : Int32} {s0 : Int32} {s1 : Int32} {res : (Int32 × gS)} {ls : Array Slot} (hC : gC E D A p R s m args meth c cL_isFilter 13 RL "isFilter" 8 167) (hQ : gQI E D A p l e R s m args below meth c Q cL_isFilter FieldType.boolean res) (hst : l.stackTraces = false) {r_318 : Nat → Int32 → Int32 → gS → Option (Int32 × gS)} (h_318 : ∀ {l0 : Nat} {l2 : Int32} {l3 : Int32} {σ : gS} {H : Heap} {locs : List Loc} {cells slots : Nat} {ls : Array Slot}, r_318 l0 l2 l3 σ = some res → gW E D A s σ H locs → lv_has ls 13 [(0, .ref l0), (2, .int l2), (3, .int l3)] → W p l e R s m args below meth c H locs cells slots Q (F0 m 318 ls [])) (hf : L_isFilter_408 E r_318 l0 l2 l3 s0 s1 σ = some res) (hw : gW E D A s σ H locs) (hl : lv_has ls 13 [(0, .ref l0), (2, .int l2), (3, .int l3)]) : W p l e R s m args below meth c H locs cells slots Q (F0 m 408 ls [.int s0, .int s1]) := by
  have hC0 := hC
  obtain ⟨hx, hb, hml, hown, hts, -⟩ := hC0
  unfold L_isFilter_408 at hf
  refine lv_icmp_eq (tgt := 413) hx hb dL_isFilter_408 (by decide) (fun c70 => ?_) (fun c70 => ?_)
  · replace hf := (if_pos c70).symm.trans hf
    refine lv_iinc (v := (l3 + 1)) (lv' := [(3, .int (l3 + 1)), (0, .ref l0), (2, .int l2)]) hx hb dL_isFilter_413 hl (k := 2) rfl rfl (by decide) rfl (fun ls hl => ?_)
    refine lv_goto (tgt := 318) hx hb dL_isFilter_416 (by decide) ?_
    exact h_318 hf hw (lv_sub hl [1, 2, 0] rfl)
  · replace hf := (if_neg c70).symm.trans hf
    exact L_isFilter_411_W hC hQ hst hf hw (lv_sub hl [] rfl)

def L_isFilter_394 (E : gE) (r_318 : Nat → Int32 → Int32 → gS → Option (Int32 × gS)) (l0 : Nat) (l2 : Int32) (l3 : Int32) (s0 : Int32) (σ : gS) : Option (Int32 × gS) :=
  ob (gcl σ l0 10) fun _ =>
  ob (X12_distinctSelected_f E l0 l3 σ) fun x71 =>
  gtry x71 (fun _ _ => none) (fun x75 σ74 =>
    if x75 = (1 : Int32) then
      L_isFilter_408 E r_318 l0 l2 l3 (1 : Int32) s0 σ74
    else
      L_isFilter_408 E r_318 l0 l2 l3 (0 : Int32) s0 σ74)
set_option maxHeartbeats 4000000 in
set_option maxRecDepth 100000 in
theorem L_isFilter_394_W {σ : gS} {l0 : Nat} {l2 : Int32} {l3 : Int32} {s0 : Int32} {res : (Int32 × gS)} {ls : Array Slot} (hC : gC E D A p R s m args meth c cL_isFilter 13 RL "isFilter" 8 167) (hQ : gQI E D A p l e R s m args below meth c Q cL_isFilter FieldType.boolean res) (hst : l.stackTraces = false) {r_318 : Nat → Int32 → Int32 → gS → Option (Int32 × gS)} (h_318 : ∀ {l0 : Nat} {l2 : Int32} {l3 : Int32} {σ : gS} {H : Heap} {locs : List Loc} {cells slots : Nat} {ls : Array Slot}, r_318 l0 l2 l3 σ = some res → gW E D A s σ H locs → lv_has ls 13 [(0, .ref l0), (2, .int l2), (3, .int l3)] → W p l e R s m args below meth c H locs cells slots Q (F0 m 318 ls [])) (hf : L_isFilter_394 E r_318 l0 l2 l3 s0 σ = some res) (hw : gW E D A s σ H locs) (hl : lv_has ls 13 [(0, .ref l0), (2, .int l2), (3, .int l3)]) : W p l e R s m args below meth c H locs cells slots Q (F0 m 394 ls [.int s0]) := by
  have hC0 := hC
  obtain ⟨hx, hb, hml, hown, hts, -⟩ := hC0
  unfold L_isFilter_394 at hf
  refine lv_aload_n hx hb dL_isFilter_394 rfl (lv_at hl 0 rfl) ?_
  refine lv_iload_n hx hb dL_isFilter_395 rfl (lv_at hl 2 rfl) ?_
  obtain ⟨_, h73, hf⟩ := ob_some hf
  obtain ⟨x71, h72, hf⟩ := ob_some hf
  refine gg_yVI (As := [.int l3]) hC hw (X12_distinctSelected_M l hst E D A h72) h73 rfl g_ml_L_137 hd_X12_distinctSelected (Nat.le_of_ble_eq_true rfl) (Nat.le_of_ble_eq_true rfl) hl.1 rfl (Nat.le_of_ble_eq_true rfl) dL_isFilter_396 (fun k9 σ9 he => ?_) (fun x75 σ74 he H locs cells slots hw => ?_)
  · subst he
    replace hf := gtry_inl.symm.trans hf
    cases hf
  · subst he
    replace hf := gtry_inr.symm.trans hf
    refine lv_iconst (v := 1) hx hb dL_isFilter_399 (by decide) ?_
    refine lv_icmp_ne (tgt := 407) hx hb dL_isFilter_400 (by decide) (fun c76 => ?_) (fun c76 => ?_)
    · replace hf := (if_neg c76).symm.trans hf
      refine lv_iconst (v := 0) hx hb dL_isFilter_407 (by decide) ?_
      exact L_isFilter_408_W hC hQ hst h_318 hf hw (lv_sub hl [0, 1, 2] rfl)
    · replace hf := (if_pos c76).symm.trans hf
      refine lv_iconst (v := 1) hx hb dL_isFilter_403 (by decide) ?_
      refine lv_goto (tgt := 408) hx hb dL_isFilter_404 (by decide) ?_
      exact L_isFilter_408_W hC hQ hst h_318 hf hw (lv_sub hl [0, 1, 2] rfl)

def L_isFilter_438 (E : gE) (σ : gS) : Option (Int32 × gS) :=
  some ((0 : Int32), σ)
set_option maxHeartbeats 4000000 in
set_option maxRecDepth 100000 in
theorem L_isFilter_438_W {σ : gS} {res : (Int32 × gS)} {ls : Array Slot} (hC : gC E D A p R s m args meth c cL_isFilter 13 RL "isFilter" 8 167) (hQ : gQI E D A p l e R s m args below meth c Q cL_isFilter FieldType.boolean res) (hst : l.stackTraces = false) (hf : L_isFilter_438 E σ = some res) (hw : gW E D A s σ H locs) (hl : lv_has ls 13 []) : W p l e R s m args below meth c H locs cells slots Q (F0 m 438 ls []) := by
  have hC0 := hC
  obtain ⟨hx, hb, hml, hown, hts, -⟩ := hC0
  unfold L_isFilter_438 at hf
  refine lv_iconst (v := 0) hx hb dL_isFilter_438 (by decide) ?_
  cases hf
  exact hQ _ _ _ _ _ _ dL_isFilter_439 gz0 hw

def L_isFilter_419 (E : gE) (l0 : Nat) (l2 : Int32) (σ : gS) : Option (Int32 × gS) :=
  ob (gcl σ l0 10) fun _ =>
  ob (X12_selectedCount_f E σ l0) fun x77 =>
  if l2 = x77 then
    ob (gcl σ l0 10) fun _ =>
    ob (X12_gap_f E l0 σ) fun x80 =>
    if x80.1 = 0 then
      some ((1 : Int32), x80.2)
    else
      L_isFilter_438 E x80.2
  else
    L_isFilter_438 E σ
set_option maxHeartbeats 4000000 in
set_option maxRecDepth 100000 in
theorem L_isFilter_419_W {σ : gS} {l0 : Nat} {l2 : Int32} {res : (Int32 × gS)} {ls : Array Slot} (hC : gC E D A p R s m args meth c cL_isFilter 13 RL "isFilter" 8 167) (hQ : gQI E D A p l e R s m args below meth c Q cL_isFilter FieldType.boolean res) (hst : l.stackTraces = false) (hf : L_isFilter_419 E l0 l2 σ = some res) (hw : gW E D A s σ H locs) (hl : lv_has ls 13 [(0, .ref l0), (2, .int l2)]) : W p l e R s m args below meth c H locs cells slots Q (F0 m 419 ls []) := by
  have hC0 := hC
  obtain ⟨hx, hb, hml, hown, hts, -⟩ := hC0
  unfold L_isFilter_419 at hf
  refine lv_iload_n hx hb dL_isFilter_419 rfl (lv_at hl 1 rfl) ?_
  refine lv_aload_n hx hb dL_isFilter_420 rfl (lv_at hl 0 rfl) ?_
  obtain ⟨_, h79, hf⟩ := ob_some hf
  obtain ⟨x77, h78, hf⟩ := ob_some hf
  refine gg_cVI (As := []) hC hw (X12_selectedCount_M l E D A h78) h79 rfl g_ml_L_140 hd_X12_selectedCount (Nat.le_of_ble_eq_true rfl) (Nat.le_of_ble_eq_true rfl) hl.1 rfl (Nat.le_of_ble_eq_true rfl) dL_isFilter_421 (fun H locs cells slots hw => ?_)
  refine lv_icmp_ne (tgt := 438) hx hb dL_isFilter_424 (by decide) (fun c84 => ?_) (fun c84 => ?_)
  · replace hf := (if_neg c84).symm.trans hf
    exact L_isFilter_438_W hC hQ hst hf hw (lv_sub hl [] rfl)
  · replace hf := (if_pos c84).symm.trans hf
    refine lv_aload_n hx hb dL_isFilter_427 rfl (lv_at hl 0 rfl) ?_
    obtain ⟨_, h82, hf⟩ := ob_some hf
    obtain ⟨x80, h81, hf⟩ := ob_some hf
    refine gg_cVI (As := []) hC hw (X12_gap_M l E D A h81) h82 rfl g_ml_L_143 hd_X12_gap (Nat.le_of_ble_eq_true rfl) (Nat.le_of_ble_eq_true rfl) hl.1 rfl (Nat.le_of_ble_eq_true rfl) dL_isFilter_428 (fun H locs cells slots hw => ?_)
    refine lv_if_ne (tgt := 438) hx hb dL_isFilter_431 (by decide) (fun c83 => ?_) (fun c83 => ?_)
    · replace hf := (if_neg c83).symm.trans hf
      exact L_isFilter_438_W hC hQ hst hf hw (lv_sub hl [] rfl)
    · replace hf := (if_pos c83).symm.trans hf
      refine lv_iconst (v := 1) hx hb dL_isFilter_434 (by decide) ?_
      refine lv_goto (tgt := 439) hx hb dL_isFilter_435 (by decide) ?_
      cases hf
      exact hQ _ _ _ _ _ _ dL_isFilter_439 gz1 hw

def L_isFilter_318_s (E : gE) (r_318 : Nat → Int32 → Int32 → gS → Option (Int32 × gS)) (l0 : Nat) (l2 : Int32) (l3 : Int32) (σ : gS) : Option (Int32 × gS) :=
  ob (gcl σ l0 10) fun _ =>
  ob (X12_columnCount_f E σ l0) fun x85 =>
  if x85 ≤ l3 then
    L_isFilter_419 E l0 l2 σ
  else
    if l2 ≤ 0 then
      L_isFilter_419 E l0 l2 σ
    else
      ob (gcl σ l0 10) fun _ =>
      ob (X12_sumSelected_f E l0 l3 σ) fun x88 =>
      gtry x88 (fun _ _ => none) (fun x92 σ91 =>
        ob (gcl σ91 l0 10) fun _ =>
        ob (X12_smallestSelected_f E l0 l3 σ91) fun x93 =>
        gtry x93 (fun _ _ => none) (fun x97 σ96 =>
          if (lg_cmp x92 (l2.toInt64 * x97.toInt64)) < 0 then
            L_isFilter_411 E σ96
          else
            ob (gcl σ96 l0 10) fun _ =>
            ob (X12_greatestSelected_f E l0 l3 σ96) fun x98 =>
            gtry x98 (fun _ _ => none) (fun x102 σ101 =>
              if 0 < (lg_cmp x92 (l2.toInt64 * x102.toInt64)) then
                L_isFilter_411 E σ101
              else
                ob (gcl σ101 l0 10) fun _ =>
                ob (X12_distinctSelected_f E l0 l3 σ101) fun x103 =>
                gtry x103 (fun _ _ => none) (fun x107 σ106 =>
                  if l2 < x107 then
                    L_isFilter_411 E σ106
                  else
                    ob (gcl σ106 l0 10) fun _ =>
                    ob (X12_smallestSelected_f E l0 l3 σ106) fun x108 =>
                    gtry x108 (fun _ _ => none) (fun x112 σ111 =>
                      ob (gcl σ111 l0 10) fun _ =>
                      ob (X12_greatestSelected_f E l0 l3 σ111) fun x113 =>
                      gtry x113 (fun _ _ => none) (fun x117 σ116 =>
                        if x112 = x117 then
                          L_isFilter_394 E r_318 l0 l2 l3 (1 : Int32) σ116
                        else
                          L_isFilter_394 E r_318 l0 l2 l3 (0 : Int32) σ116))))))
set_option maxHeartbeats 4000000 in
set_option maxRecDepth 100000 in
theorem L_isFilter_318_s_W {σ : gS} {l0 : Nat} {l2 : Int32} {l3 : Int32} {res : (Int32 × gS)} {ls : Array Slot} (hC : gC E D A p R s m args meth c cL_isFilter 13 RL "isFilter" 8 167) (hQ : gQI E D A p l e R s m args below meth c Q cL_isFilter FieldType.boolean res) (hst : l.stackTraces = false) {r_318 : Nat → Int32 → Int32 → gS → Option (Int32 × gS)} (h_318 : ∀ {l0 : Nat} {l2 : Int32} {l3 : Int32} {σ : gS} {H : Heap} {locs : List Loc} {cells slots : Nat} {ls : Array Slot}, r_318 l0 l2 l3 σ = some res → gW E D A s σ H locs → lv_has ls 13 [(0, .ref l0), (2, .int l2), (3, .int l3)] → W p l e R s m args below meth c H locs cells slots Q (F0 m 318 ls [])) (hf : L_isFilter_318_s E r_318 l0 l2 l3 σ = some res) (hw : gW E D A s σ H locs) (hl : lv_has ls 13 [(0, .ref l0), (2, .int l2), (3, .int l3)]) : W p l e R s m args below meth c H locs cells slots Q (F0 m 318 ls []) := by
  have hC0 := hC
  obtain ⟨hx, hb, hml, hown, hts, -⟩ := hC0
  unfold L_isFilter_318_s at hf
  refine lv_iload_n hx hb dL_isFilter_318 rfl (lv_at hl 2 rfl) ?_
  refine lv_aload_n hx hb dL_isFilter_319 rfl (lv_at hl 0 rfl) ?_
  obtain ⟨_, h87, hf⟩ := ob_some hf
  obtain ⟨x85, h86, hf⟩ := ob_some hf
  refine gg_cVI (As := []) hC hw (X12_columnCount_M l E D A h86) h87 rfl g_ml_L_30 hd_X12_columnCount (Nat.le_of_ble_eq_true rfl) (Nat.le_of_ble_eq_true rfl) hl.1 rfl (Nat.le_of_ble_eq_true rfl) dL_isFilter_320 (fun H locs cells slots hw => ?_)
  refine lv_icmp_ge (tgt := 419) hx hb dL_isFilter_323 (by decide) (fun c123 => ?_) (fun c123 => ?_)
  · replace hf := (if_pos c123).symm.trans hf
    exact L_isFilter_419_W hC hQ hst hf hw (lv_sub hl [0, 1] rfl)
  · replace hf := (if_neg c123).symm.trans hf
    refine lv_iload_n hx hb dL_isFilter_326 rfl (lv_at hl 1 rfl) ?_
    refine lv_if_le (tgt := 419) hx hb dL_isFilter_327 (by decide) (fun c122 => ?_) (fun c122 => ?_)
    · replace hf := (if_pos c122).symm.trans hf
      exact L_isFilter_419_W hC hQ hst hf hw (lv_sub hl [0, 1] rfl)
    · replace hf := (if_neg c122).symm.trans hf
      refine lv_aload_n hx hb dL_isFilter_330 rfl (lv_at hl 0 rfl) ?_
      refine lv_iload_n hx hb dL_isFilter_331 rfl (lv_at hl 2 rfl) ?_
      obtain ⟨_, h90, hf⟩ := ob_some hf
      obtain ⟨x88, h89, hf⟩ := ob_some hf
      refine gg_yVJ (As := [.int l3]) hC hw (X12_sumSelected_M l hst E D A h89) h90 rfl g_ml_L_127 hd_X12_sumSelected (Nat.le_of_ble_eq_true rfl) (Nat.le_of_ble_eq_true rfl) hl.1 rfl (Nat.le_of_ble_eq_true rfl) dL_isFilter_332 (fun k9 σ9 he => ?_) (fun x92 σ91 he H locs cells slots hw => ?_)
      · subst he
        replace hf := gtry_inl.symm.trans hf
        cases hf
      · subst he
        replace hf := gtry_inr.symm.trans hf
        refine lv_lstore (lv' := [(4, .long x92), (0, .ref l0), (2, .int l2), (3, .int l3)]) hx hb dL_isFilter_335 hl (by decide) rfl (fun ls hl => ?_)
        refine lv_lload hx hb dL_isFilter_337 (lv_at hl 0 rfl) ?_
        refine lv_iload_n hx hb dL_isFilter_339 rfl (lv_at hl 2 rfl) ?_
        refine lv_i2l (v := l2.toInt64) hx hb dL_isFilter_340 rfl ?_
        refine lv_aload_n hx hb dL_isFilter_341 rfl (lv_at hl 1 rfl) ?_
        refine lv_iload_n hx hb dL_isFilter_342 rfl (lv_at hl 3 rfl) ?_
        obtain ⟨_, h95, hf⟩ := ob_some hf
        obtain ⟨x93, h94, hf⟩ := ob_some hf
        refine gg_yVI (As := [.int l3]) hC hw (X12_smallestSelected_M l hst E D A h94) h95 rfl g_ml_L_131 hd_X12_smallestSelected (Nat.le_of_ble_eq_true rfl) (Nat.le_of_ble_eq_true rfl) hl.1 rfl (Nat.le_of_ble_eq_true rfl) dL_isFilter_343 (fun k9 σ9 he => ?_) (fun x97 σ96 he H locs cells slots hw => ?_)
        · subst he
          replace hf := gtry_inl.symm.trans hf
          cases hf
        · subst he
          replace hf := gtry_inr.symm.trans hf
          refine lv_i2l (v := x97.toInt64) hx hb dL_isFilter_346 rfl ?_
          refine lv_lmul hx hb dL_isFilter_347 ?_
          refine W.lcmp hx hb dL_isFilter_348 ?_
          refine lv_if_lt (tgt := 411) hx hb dL_isFilter_349 (by decide) (fun c121 => ?_) (fun c121 => ?_)
          · replace hf := (if_pos c121).symm.trans hf
            exact L_isFilter_411_W hC hQ hst hf hw (lv_sub hl [] rfl)
          · replace hf := (if_neg c121).symm.trans hf
            refine lv_lload hx hb dL_isFilter_352 (lv_at hl 0 rfl) ?_
            refine lv_iload_n hx hb dL_isFilter_354 rfl (lv_at hl 2 rfl) ?_
            refine lv_i2l (v := l2.toInt64) hx hb dL_isFilter_355 rfl ?_
            refine lv_aload_n hx hb dL_isFilter_356 rfl (lv_at hl 1 rfl) ?_
            refine lv_iload_n hx hb dL_isFilter_357 rfl (lv_at hl 3 rfl) ?_
            obtain ⟨_, h100, hf⟩ := ob_some hf
            obtain ⟨x98, h99, hf⟩ := ob_some hf
            refine gg_yVI (As := [.int l3]) hC hw (X12_greatestSelected_M l hst E D A h99) h100 rfl g_ml_L_134 hd_X12_greatestSelected (Nat.le_of_ble_eq_true rfl) (Nat.le_of_ble_eq_true rfl) hl.1 rfl (Nat.le_of_ble_eq_true rfl) dL_isFilter_358 (fun k9 σ9 he => ?_) (fun x102 σ101 he H locs cells slots hw => ?_)
            · subst he
              replace hf := gtry_inl.symm.trans hf
              cases hf
            · subst he
              replace hf := gtry_inr.symm.trans hf
              refine lv_i2l (v := x102.toInt64) hx hb dL_isFilter_361 rfl ?_
              refine lv_lmul hx hb dL_isFilter_362 ?_
              refine W.lcmp hx hb dL_isFilter_363 ?_
              refine lv_if_gt (tgt := 411) hx hb dL_isFilter_364 (by decide) (fun c120 => ?_) (fun c120 => ?_)
              · replace hf := (if_pos c120).symm.trans hf
                exact L_isFilter_411_W hC hQ hst hf hw (lv_sub hl [] rfl)
              · replace hf := (if_neg c120).symm.trans hf
                refine lv_aload_n hx hb dL_isFilter_367 rfl (lv_at hl 1 rfl) ?_
                refine lv_iload_n hx hb dL_isFilter_368 rfl (lv_at hl 3 rfl) ?_
                obtain ⟨_, h105, hf⟩ := ob_some hf
                obtain ⟨x103, h104, hf⟩ := ob_some hf
                refine gg_yVI (As := [.int l3]) hC hw (X12_distinctSelected_M l hst E D A h104) h105 rfl g_ml_L_137 hd_X12_distinctSelected (Nat.le_of_ble_eq_true rfl) (Nat.le_of_ble_eq_true rfl) hl.1 rfl (Nat.le_of_ble_eq_true rfl) dL_isFilter_369 (fun k9 σ9 he => ?_) (fun x107 σ106 he H locs cells slots hw => ?_)
                · subst he
                  replace hf := gtry_inl.symm.trans hf
                  cases hf
                · subst he
                  replace hf := gtry_inr.symm.trans hf
                  refine lv_iload_n hx hb dL_isFilter_372 rfl (lv_at hl 2 rfl) ?_
                  refine lv_icmp_gt (tgt := 411) hx hb dL_isFilter_373 (by decide) (fun c119 => ?_) (fun c119 => ?_)
                  · replace hf := (if_pos c119).symm.trans hf
                    exact L_isFilter_411_W hC hQ hst hf hw (lv_sub hl [] rfl)
                  · replace hf := (if_neg c119).symm.trans hf
                    refine lv_aload_n hx hb dL_isFilter_376 rfl (lv_at hl 1 rfl) ?_
                    refine lv_iload_n hx hb dL_isFilter_377 rfl (lv_at hl 3 rfl) ?_
                    obtain ⟨_, h110, hf⟩ := ob_some hf
                    obtain ⟨x108, h109, hf⟩ := ob_some hf
                    refine gg_yVI (As := [.int l3]) hC hw (X12_smallestSelected_M l hst E D A h109) h110 rfl g_ml_L_131 hd_X12_smallestSelected (Nat.le_of_ble_eq_true rfl) (Nat.le_of_ble_eq_true rfl) hl.1 rfl (Nat.le_of_ble_eq_true rfl) dL_isFilter_378 (fun k9 σ9 he => ?_) (fun x112 σ111 he H locs cells slots hw => ?_)
                    · subst he
                      replace hf := gtry_inl.symm.trans hf
                      cases hf
                    · subst he
                      replace hf := gtry_inr.symm.trans hf
                      refine lv_aload_n hx hb dL_isFilter_381 rfl (lv_at hl 1 rfl) ?_
                      refine lv_iload_n hx hb dL_isFilter_382 rfl (lv_at hl 3 rfl) ?_
                      obtain ⟨_, h115, hf⟩ := ob_some hf
                      obtain ⟨x113, h114, hf⟩ := ob_some hf
                      refine gg_yVI (As := [.int l3]) hC hw (X12_greatestSelected_M l hst E D A h114) h115 rfl g_ml_L_134 hd_X12_greatestSelected (Nat.le_of_ble_eq_true rfl) (Nat.le_of_ble_eq_true rfl) hl.1 rfl (Nat.le_of_ble_eq_true rfl) dL_isFilter_383 (fun k9 σ9 he => ?_) (fun x117 σ116 he H locs cells slots hw => ?_)
                      · subst he
                        replace hf := gtry_inl.symm.trans hf
                        cases hf
                      · subst he
                        replace hf := gtry_inr.symm.trans hf
                        refine lv_icmp_ne (tgt := 393) hx hb dL_isFilter_386 (by decide) (fun c118 => ?_) (fun c118 => ?_)
                        · replace hf := (if_neg c118).symm.trans hf
                          refine lv_iconst (v := 0) hx hb dL_isFilter_393 (by decide) ?_
                          exact L_isFilter_394_W hC hQ hst h_318 hf hw (lv_sub hl [1, 2, 3] rfl)
                        · replace hf := (if_pos c118).symm.trans hf
                          refine lv_iconst (v := 1) hx hb dL_isFilter_389 (by decide) ?_
                          refine lv_goto (tgt := 394) hx hb dL_isFilter_390 (by decide) ?_
                          exact L_isFilter_394_W hC hQ hst h_318 hf hw (lv_sub hl [1, 2, 3] rfl)
def L_isFilter_318 (E : gE) : Nat → Nat → Int32 → Int32 → gS → Option (Int32 × gS)
  | 0 => fun _ _ _ _ => none
  | n + 1 => L_isFilter_318_s E (L_isFilter_318 E n)
theorem L_isFilter_318_W {res : (Int32 × gS)} (hC : gC E D A p R s m args meth c cL_isFilter 13 RL "isFilter" 8 167) (hQ : gQI E D A p l e R s m args below meth c Q cL_isFilter FieldType.boolean res) (hst : l.stackTraces = false) : ∀ (n : Nat), ∀ {l0 : Nat} {l2 : Int32} {l3 : Int32} {σ : gS} {H : Heap} {locs : List Loc} {cells slots : Nat} {ls : Array Slot}, L_isFilter_318 E n l0 l2 l3 σ = some res → gW E D A s σ H locs → lv_has ls 13 [(0, .ref l0), (2, .int l2), (3, .int l3)] → W p l e R s m args below meth c H locs cells slots Q (F0 m 318 ls []) := by
  intro n
  induction n with
  | zero =>
    intros
    rename_i hf _ _
    exact absurd hf (fun h => by cases (show (none : Option (Int32 × gS)) = some res from h))
  | succ n ih =>
    intros
    rename_i hf hw hl
    exact L_isFilter_318_s_W hC hQ hst ih hf hw hl

def L_isFilter_248_s (E : gE) (r_248 : Nat → Int32 → Int32 → Int32 → gS → Option (Int32 × gS)) (l0 : Nat) (l1 : Int32) (l2 : Int32) (l3 : Int32) (σ : gS) : Option (Int32 × gS) :=
  if l1 ≤ l3 then
    L_isFilter_318 E (gN E) l0 l2 (0 : Int32) σ
  else
    ob (gcl σ l0 10) fun _ =>
    ob (X12_matches_f E l0 l3 σ) fun x124 =>
    gtry x124 (fun _ _ => none) (fun x128 σ127 =>
      if x128 < l2 then
        L_isFilter_308 E σ127
      else
        ob (gcl σ127 l0 10) fun _ =>
        ob (X12_matches_f E l0 l3 σ127) fun x129 =>
        gtry x129 (fun _ _ => none) (fun x133 σ132 =>
          ob (gcl σ132 l0 10) fun _ =>
          ob (X12_strictestCondition_f E σ132 l0) fun x134 =>
          ob (gcl σ132 l0 10) fun _ =>
          ob (X12_matches_f E l0 x134 σ132) fun x137 =>
          gtry x137 (fun _ _ => none) (fun x141 σ140 =>
            if x133 < x141 then
              L_isFilter_308 E σ140
            else
              ob (gcl σ140 l0 10) fun _ =>
              ob (X12_lowerCode_f E l0 l3 σ140) fun x142 =>
              gtry x142 (fun _ _ => none) (fun x146 σ145 =>
                ob (gcl σ145 l0 10) fun _ =>
                ob (X12_upperCode_f E l0 l3 σ145) fun x147 =>
                gtry x147 (fun _ _ => none) (fun x151 σ150 =>
                  if x151 < x146 then
                    L_isFilter_308 E σ150
                  else
                    ob (gcl σ150 l0 10) fun _ =>
                    ob (X12_upperCode_f E l0 l3 σ150) fun x152 =>
                    gtry x152 (fun _ _ => none) (fun x156 σ155 =>
                      ob (gcl σ155 l0 10) fun _ =>
                      ob (X12_conditionColumn_f E l0 l3 σ155) fun x157 =>
                      gtry x157 (fun _ _ => none) (fun x161 σ160 =>
                        ob (gcl σ160 l0 10) fun _ =>
                        ob (X12_dictionarySize_f E l0 x161 σ160) fun x162 =>
                        gtry x162 (fun _ _ => none) (fun x166 σ165 =>
                          if x156 ≤ x166 then
                            r_248 l0 l1 l2 (l3 + 1) σ165
                          else
                            L_isFilter_308 E σ165))))))))
set_option maxHeartbeats 4000000 in
set_option maxRecDepth 100000 in
theorem L_isFilter_248_s_W {σ : gS} {l0 : Nat} {l1 : Int32} {l2 : Int32} {l3 : Int32} {res : (Int32 × gS)} {ls : Array Slot} (hC : gC E D A p R s m args meth c cL_isFilter 13 RL "isFilter" 8 167) (hQ : gQI E D A p l e R s m args below meth c Q cL_isFilter FieldType.boolean res) (hst : l.stackTraces = false) {r_248 : Nat → Int32 → Int32 → Int32 → gS → Option (Int32 × gS)} (h_248 : ∀ {l0 : Nat} {l1 : Int32} {l2 : Int32} {l3 : Int32} {σ : gS} {H : Heap} {locs : List Loc} {cells slots : Nat} {ls : Array Slot}, r_248 l0 l1 l2 l3 σ = some res → gW E D A s σ H locs → lv_has ls 13 [(0, .ref l0), (1, .int l1), (2, .int l2), (3, .int l3)] → W p l e R s m args below meth c H locs cells slots Q (F0 m 248 ls [])) (hf : L_isFilter_248_s E r_248 l0 l1 l2 l3 σ = some res) (hw : gW E D A s σ H locs) (hl : lv_has ls 13 [(0, .ref l0), (1, .int l1), (2, .int l2), (3, .int l3)]) : W p l e R s m args below meth c H locs cells slots Q (F0 m 248 ls []) := by
  have hC0 := hC
  obtain ⟨hx, hb, hml, hown, hts, -⟩ := hC0
  unfold L_isFilter_248_s at hf
  refine lv_iload_n hx hb dL_isFilter_248 rfl (lv_at hl 3 rfl) ?_
  refine lv_iload_n hx hb dL_isFilter_249 rfl (lv_at hl 1 rfl) ?_
  refine lv_icmp_ge (tgt := 316) hx hb dL_isFilter_250 (by decide) (fun c171 => ?_) (fun c171 => ?_)
  · replace hf := (if_pos c171).symm.trans hf
    refine lv_iconst (v := 0) hx hb dL_isFilter_316 (by decide) ?_
    refine lv_istore_n (lv' := [(3, .int (0 : Int32)), (0, .ref l0), (1, .int l1), (2, .int l2)]) hx hb dL_isFilter_317 rfl hl (by decide) rfl (fun ls hl => ?_)
    exact L_isFilter_318_W hC hQ hst (gN E) hf hw (lv_sub hl [1, 3, 0] rfl)
  · replace hf := (if_neg c171).symm.trans hf
    refine lv_aload_n hx hb dL_isFilter_253 rfl (lv_at hl 0 rfl) ?_
    refine lv_iload_n hx hb dL_isFilter_254 rfl (lv_at hl 3 rfl) ?_
    obtain ⟨_, h126, hf⟩ := ob_some hf
    obtain ⟨x124, h125, hf⟩ := ob_some hf
    refine gg_yVI (As := [.int l3]) hC hw (X12_matches_M l hst E D A h125) h126 rfl g_ml_L_121 hd_X12_matches (Nat.le_of_ble_eq_true rfl) (Nat.le_of_ble_eq_true rfl) hl.1 rfl (Nat.le_of_ble_eq_true rfl) dL_isFilter_255 (fun k9 σ9 he => ?_) (fun x128 σ127 he H locs cells slots hw => ?_)
    · subst he
      replace hf := gtry_inl.symm.trans hf
      cases hf
    · subst he
      replace hf := gtry_inr.symm.trans hf
      refine lv_iload_n hx hb dL_isFilter_258 rfl (lv_at hl 2 rfl) ?_
      refine lv_icmp_lt (tgt := 308) hx hb dL_isFilter_259 (by decide) (fun c170 => ?_) (fun c170 => ?_)
      · replace hf := (if_pos c170).symm.trans hf
        exact L_isFilter_308_W hC hQ hst hf hw (lv_sub hl [] rfl)
      · replace hf := (if_neg c170).symm.trans hf
        refine lv_aload_n hx hb dL_isFilter_262 rfl (lv_at hl 0 rfl) ?_
        refine lv_iload_n hx hb dL_isFilter_263 rfl (lv_at hl 3 rfl) ?_
        obtain ⟨_, h131, hf⟩ := ob_some hf
        obtain ⟨x129, h130, hf⟩ := ob_some hf
        refine gg_yVI (As := [.int l3]) hC hw (X12_matches_M l hst E D A h130) h131 rfl g_ml_L_121 hd_X12_matches (Nat.le_of_ble_eq_true rfl) (Nat.le_of_ble_eq_true rfl) hl.1 rfl (Nat.le_of_ble_eq_true rfl) dL_isFilter_264 (fun k9 σ9 he => ?_) (fun x133 σ132 he H locs cells slots hw => ?_)
        · subst he
          replace hf := gtry_inl.symm.trans hf
          cases hf
        · subst he
          replace hf := gtry_inr.symm.trans hf
          refine lv_aload_n hx hb dL_isFilter_267 rfl (lv_at hl 0 rfl) ?_
          refine lv_aload_n hx hb dL_isFilter_268 rfl (lv_at hl 0 rfl) ?_
          obtain ⟨_, h136, hf⟩ := ob_some hf
          obtain ⟨x134, h135, hf⟩ := ob_some hf
          refine gg_cVI (As := []) hC hw (X12_strictestCondition_M l E D A h135) h136 rfl g_ml_L_124 hd_X12_strictestCondition (Nat.le_of_ble_eq_true rfl) (Nat.le_of_ble_eq_true rfl) hl.1 rfl (Nat.le_of_ble_eq_true rfl) dL_isFilter_269 (fun H locs cells slots hw => ?_)
          obtain ⟨_, h139, hf⟩ := ob_some hf
          obtain ⟨x137, h138, hf⟩ := ob_some hf
          refine gg_yVI (As := [.int x134]) hC hw (X12_matches_M l hst E D A h138) h139 rfl g_ml_L_121 hd_X12_matches (Nat.le_of_ble_eq_true rfl) (Nat.le_of_ble_eq_true rfl) hl.1 rfl (Nat.le_of_ble_eq_true rfl) dL_isFilter_272 (fun k9 σ9 he => ?_) (fun x141 σ140 he H locs cells slots hw => ?_)
          · subst he
            replace hf := gtry_inl.symm.trans hf
            cases hf
          · subst he
            replace hf := gtry_inr.symm.trans hf
            refine lv_icmp_lt (tgt := 308) hx hb dL_isFilter_275 (by decide) (fun c169 => ?_) (fun c169 => ?_)
            · replace hf := (if_pos c169).symm.trans hf
              exact L_isFilter_308_W hC hQ hst hf hw (lv_sub hl [] rfl)
            · replace hf := (if_neg c169).symm.trans hf
              refine lv_aload_n hx hb dL_isFilter_278 rfl (lv_at hl 0 rfl) ?_
              refine lv_iload_n hx hb dL_isFilter_279 rfl (lv_at hl 3 rfl) ?_
              obtain ⟨_, h144, hf⟩ := ob_some hf
              obtain ⟨x142, h143, hf⟩ := ob_some hf
              refine gg_yVI (As := [.int l3]) hC hw (X12_lowerCode_M l hst E D A h143) h144 rfl g_ml_L_106 hd_X12_lowerCode (Nat.le_of_ble_eq_true rfl) (Nat.le_of_ble_eq_true rfl) hl.1 rfl (Nat.le_of_ble_eq_true rfl) dL_isFilter_280 (fun k9 σ9 he => ?_) (fun x146 σ145 he H locs cells slots hw => ?_)
              · subst he
                replace hf := gtry_inl.symm.trans hf
                cases hf
              · subst he
                replace hf := gtry_inr.symm.trans hf
                refine lv_aload_n hx hb dL_isFilter_283 rfl (lv_at hl 0 rfl) ?_
                refine lv_iload_n hx hb dL_isFilter_284 rfl (lv_at hl 3 rfl) ?_
                obtain ⟨_, h149, hf⟩ := ob_some hf
                obtain ⟨x147, h148, hf⟩ := ob_some hf
                refine gg_yVI (As := [.int l3]) hC hw (X12_upperCode_M l hst E D A h148) h149 rfl g_ml_L_109 hd_X12_upperCode (Nat.le_of_ble_eq_true rfl) (Nat.le_of_ble_eq_true rfl) hl.1 rfl (Nat.le_of_ble_eq_true rfl) dL_isFilter_285 (fun k9 σ9 he => ?_) (fun x151 σ150 he H locs cells slots hw => ?_)
                · subst he
                  replace hf := gtry_inl.symm.trans hf
                  cases hf
                · subst he
                  replace hf := gtry_inr.symm.trans hf
                  refine lv_icmp_gt (tgt := 308) hx hb dL_isFilter_288 (by decide) (fun c168 => ?_) (fun c168 => ?_)
                  · replace hf := (if_pos c168).symm.trans hf
                    exact L_isFilter_308_W hC hQ hst hf hw (lv_sub hl [] rfl)
                  · replace hf := (if_neg c168).symm.trans hf
                    refine lv_aload_n hx hb dL_isFilter_291 rfl (lv_at hl 0 rfl) ?_
                    refine lv_iload_n hx hb dL_isFilter_292 rfl (lv_at hl 3 rfl) ?_
                    obtain ⟨_, h154, hf⟩ := ob_some hf
                    obtain ⟨x152, h153, hf⟩ := ob_some hf
                    refine gg_yVI (As := [.int l3]) hC hw (X12_upperCode_M l hst E D A h153) h154 rfl g_ml_L_109 hd_X12_upperCode (Nat.le_of_ble_eq_true rfl) (Nat.le_of_ble_eq_true rfl) hl.1 rfl (Nat.le_of_ble_eq_true rfl) dL_isFilter_293 (fun k9 σ9 he => ?_) (fun x156 σ155 he H locs cells slots hw => ?_)
                    · subst he
                      replace hf := gtry_inl.symm.trans hf
                      cases hf
                    · subst he
                      replace hf := gtry_inr.symm.trans hf
                      refine lv_aload_n hx hb dL_isFilter_296 rfl (lv_at hl 0 rfl) ?_
                      refine lv_aload_n hx hb dL_isFilter_297 rfl (lv_at hl 0 rfl) ?_
                      refine lv_iload_n hx hb dL_isFilter_298 rfl (lv_at hl 3 rfl) ?_
                      obtain ⟨_, h159, hf⟩ := ob_some hf
                      obtain ⟨x157, h158, hf⟩ := ob_some hf
                      refine gg_yVI (As := [.int l3]) hC hw (X12_conditionColumn_M l hst E D A h158) h159 rfl g_ml_L_50 hd_X12_conditionColumn (Nat.le_of_ble_eq_true rfl) (Nat.le_of_ble_eq_true rfl) hl.1 rfl (Nat.le_of_ble_eq_true rfl) dL_isFilter_299 (fun k9 σ9 he => ?_) (fun x161 σ160 he H locs cells slots hw => ?_)
                      · subst he
                        replace hf := gtry_inl.symm.trans hf
                        cases hf
                      · subst he
                        replace hf := gtry_inr.symm.trans hf
                        obtain ⟨_, h164, hf⟩ := ob_some hf
                        obtain ⟨x162, h163, hf⟩ := ob_some hf
                        refine gg_yVI (As := [.int x161]) hC hw (X12_dictionarySize_M l hst E D A h163) h164 rfl g_ml_L_36 hd_X12_dictionarySize (Nat.le_of_ble_eq_true rfl) (Nat.le_of_ble_eq_true rfl) hl.1 rfl (Nat.le_of_ble_eq_true rfl) dL_isFilter_302 (fun k9 σ9 he => ?_) (fun x166 σ165 he H locs cells slots hw => ?_)
                        · subst he
                          replace hf := gtry_inl.symm.trans hf
                          cases hf
                        · subst he
                          replace hf := gtry_inr.symm.trans hf
                          refine lv_icmp_le (tgt := 310) hx hb dL_isFilter_305 (by decide) (fun c167 => ?_) (fun c167 => ?_)
                          · replace hf := (if_pos c167).symm.trans hf
                            refine lv_iinc (v := (l3 + 1)) (lv' := [(3, .int (l3 + 1)), (0, .ref l0), (1, .int l1), (2, .int l2)]) hx hb dL_isFilter_310 hl (k := 3) rfl rfl (by decide) rfl (fun ls hl => ?_)
                            refine lv_goto (tgt := 248) hx hb dL_isFilter_313 (by decide) ?_
                            exact h_248 hf hw (lv_sub hl [1, 2, 3, 0] rfl)
                          · replace hf := (if_neg c167).symm.trans hf
                            exact L_isFilter_308_W hC hQ hst hf hw (lv_sub hl [] rfl)
def L_isFilter_248 (E : gE) : Nat → Nat → Int32 → Int32 → Int32 → gS → Option (Int32 × gS)
  | 0 => fun _ _ _ _ _ => none
  | n + 1 => L_isFilter_248_s E (L_isFilter_248 E n)
theorem L_isFilter_248_W {res : (Int32 × gS)} (hC : gC E D A p R s m args meth c cL_isFilter 13 RL "isFilter" 8 167) (hQ : gQI E D A p l e R s m args below meth c Q cL_isFilter FieldType.boolean res) (hst : l.stackTraces = false) : ∀ (n : Nat), ∀ {l0 : Nat} {l1 : Int32} {l2 : Int32} {l3 : Int32} {σ : gS} {H : Heap} {locs : List Loc} {cells slots : Nat} {ls : Array Slot}, L_isFilter_248 E n l0 l1 l2 l3 σ = some res → gW E D A s σ H locs → lv_has ls 13 [(0, .ref l0), (1, .int l1), (2, .int l2), (3, .int l3)] → W p l e R s m args below meth c H locs cells slots Q (F0 m 248 ls []) := by
  intro n
  induction n with
  | zero =>
    intros
    rename_i hf _ _
    exact absurd hf (fun h => by cases (show (none : Option (Int32 × gS)) = some res from h))
  | succ n ih =>
    intros
    rename_i hf hw hl
    exact L_isFilter_248_s_W hC hQ hst ih hf hw hl

def L_isFilter_9_s (E : gE) (r_9 : Nat → Int32 → Int32 → Int32 → gS → Option (Int32 × gS)) (l0 : Nat) (l1 : Int32) (l2 : Int32) (l3 : Int32) (σ : gS) : Option (Int32 × gS) :=
  ob (gcl σ l0 10) fun _ =>
  ob (X12_rowCount_f E σ l0) fun x172 =>
  if x172 ≤ l3 then
    L_isFilter_248 E (gN E) l0 l1 l2 (0 : Int32) σ
  else
    L_isFilter_28 E r_9 (gN E) l0 l1 l2 l3 (1 : Int32) (-1 : Int32) (l1 - (1 : Int32)) σ
set_option maxHeartbeats 4000000 in
set_option maxRecDepth 100000 in
theorem L_isFilter_9_s_W {σ : gS} {l0 : Nat} {l1 : Int32} {l2 : Int32} {l3 : Int32} {res : (Int32 × gS)} {ls : Array Slot} (hC : gC E D A p R s m args meth c cL_isFilter 13 RL "isFilter" 8 167) (hQ : gQI E D A p l e R s m args below meth c Q cL_isFilter FieldType.boolean res) (hst : l.stackTraces = false) {r_9 : Nat → Int32 → Int32 → Int32 → gS → Option (Int32 × gS)} (h_9 : ∀ {l0 : Nat} {l1 : Int32} {l2 : Int32} {l3 : Int32} {σ : gS} {H : Heap} {locs : List Loc} {cells slots : Nat} {ls : Array Slot}, r_9 l0 l1 l2 l3 σ = some res → gW E D A s σ H locs → lv_has ls 13 [(0, .ref l0), (1, .int l1), (2, .int l2), (3, .int l3)] → W p l e R s m args below meth c H locs cells slots Q (F0 m 9 ls [])) (hf : L_isFilter_9_s E r_9 l0 l1 l2 l3 σ = some res) (hw : gW E D A s σ H locs) (hl : lv_has ls 13 [(0, .ref l0), (1, .int l1), (2, .int l2), (3, .int l3)]) : W p l e R s m args below meth c H locs cells slots Q (F0 m 9 ls []) := by
  have hC0 := hC
  obtain ⟨hx, hb, hml, hown, hts, -⟩ := hC0
  unfold L_isFilter_9_s at hf
  refine lv_iload_n hx hb dL_isFilter_9 rfl (lv_at hl 3 rfl) ?_
  refine lv_aload_n hx hb dL_isFilter_10 rfl (lv_at hl 0 rfl) ?_
  obtain ⟨_, h174, hf⟩ := ob_some hf
  obtain ⟨x172, h173, hf⟩ := ob_some hf
  refine gg_cVI (As := []) hC hw (X12_rowCount_M l E D A h173) h174 rfl g_ml_L_33 hd_X12_rowCount (Nat.le_of_ble_eq_true rfl) (Nat.le_of_ble_eq_true rfl) hl.1 rfl (Nat.le_of_ble_eq_true rfl) dL_isFilter_11 (fun H locs cells slots hw => ?_)
  refine lv_icmp_ge (tgt := 246) hx hb dL_isFilter_14 (by decide) (fun c175 => ?_) (fun c175 => ?_)
  · replace hf := (if_pos c175).symm.trans hf
    refine lv_iconst (v := 0) hx hb dL_isFilter_246 (by decide) ?_
    refine lv_istore_n (lv' := [(3, .int (0 : Int32)), (0, .ref l0), (1, .int l1), (2, .int l2)]) hx hb dL_isFilter_247 rfl hl (by decide) rfl (fun ls hl => ?_)
    exact L_isFilter_248_W hC hQ hst (gN E) hf hw (lv_sub hl [1, 2, 3, 0] rfl)
  · replace hf := (if_neg c175).symm.trans hf
    refine lv_iconst (v := 1) hx hb dL_isFilter_17 (by decide) ?_
    refine lv_istore (lv' := [(4, .int (1 : Int32)), (0, .ref l0), (1, .int l1), (2, .int l2), (3, .int l3)]) hx hb dL_isFilter_18 hl (by decide) rfl (fun ls hl => ?_)
    refine lv_iconst (v := -1) hx hb dL_isFilter_20 (by decide) ?_
    refine lv_istore (lv' := [(5, .int (-1 : Int32)), (4, .int (1 : Int32)), (0, .ref l0), (1, .int l1), (2, .int l2), (3, .int l3)]) hx hb dL_isFilter_21 hl (by decide) rfl (fun ls hl => ?_)
    refine lv_iload_n hx hb dL_isFilter_23 rfl (lv_at hl 3 rfl) ?_
    refine lv_iconst (v := 1) hx hb dL_isFilter_24 (by decide) ?_
    refine lv_isub hx hb dL_isFilter_25 ?_
    refine lv_istore (lv' := [(6, .int (l1 - (1 : Int32))), (5, .int (-1 : Int32)), (4, .int (1 : Int32)), (0, .ref l0), (1, .int l1), (2, .int l2), (3, .int l3)]) hx hb dL_isFilter_26 hl (by decide) rfl (fun ls hl => ?_)
    exact L_isFilter_28_W hC hQ hst h_9 (gN E) hf hw (lv_sub hl [3, 4, 5, 6, 2, 1, 0] rfl)
def L_isFilter_9 (E : gE) : Nat → Nat → Int32 → Int32 → Int32 → gS → Option (Int32 × gS)
  | 0 => fun _ _ _ _ _ => none
  | n + 1 => L_isFilter_9_s E (L_isFilter_9 E n)
theorem L_isFilter_9_W {res : (Int32 × gS)} (hC : gC E D A p R s m args meth c cL_isFilter 13 RL "isFilter" 8 167) (hQ : gQI E D A p l e R s m args below meth c Q cL_isFilter FieldType.boolean res) (hst : l.stackTraces = false) : ∀ (n : Nat), ∀ {l0 : Nat} {l1 : Int32} {l2 : Int32} {l3 : Int32} {σ : gS} {H : Heap} {locs : List Loc} {cells slots : Nat} {ls : Array Slot}, L_isFilter_9 E n l0 l1 l2 l3 σ = some res → gW E D A s σ H locs → lv_has ls 13 [(0, .ref l0), (1, .int l1), (2, .int l2), (3, .int l3)] → W p l e R s m args below meth c H locs cells slots Q (F0 m 9 ls []) := by
  intro n
  induction n with
  | zero =>
    intros
    rename_i hf _ _
    exact absurd hf (fun h => by cases (show (none : Option (Int32 × gS)) = some res from h))
  | succ n ih =>
    intros
    rename_i hf hw hl
    exact L_isFilter_9_s_W hC hQ hst ih hf hw hl

def L_isFilter (E : gE) (l0 : Nat) (σ : gS) : Option (Int32 × gS) :=
  ob (gcl σ l0 10) fun _ =>
  ob (X12_conditionCount_f E σ l0) fun x176 =>
  L_isFilter_9 E (gN E) l0 x176 (0 : Int32) (0 : Int32) σ
set_option maxHeartbeats 4000000 in
set_option maxRecDepth 100000 in
theorem L_isFilter_W {σ : gS} {l0 : Nat} {res : (Int32 × gS)} {ls : Array Slot} (hC : gC E D A p R s m args meth c cL_isFilter 13 RL "isFilter" 8 167) (hQ : gQI E D A p l e R s m args below meth c Q cL_isFilter FieldType.boolean res) (hst : l.stackTraces = false) (hf : L_isFilter E l0 σ = some res) (hw : gW E D A s σ H locs) (hl : lv_has ls 13 [(0, .ref l0)]) : W p l e R s m args below meth c H locs cells slots Q (F0 m 0 ls []) := by
  have hC0 := hC
  obtain ⟨hx, hb, hml, hown, hts, -⟩ := hC0
  unfold L_isFilter at hf
  refine lv_aload_n hx hb dL_isFilter_0 rfl (lv_at hl 0 rfl) ?_
  obtain ⟨_, h178, hf⟩ := ob_some hf
  obtain ⟨x176, h177, hf⟩ := ob_some hf
  refine gg_cVI (As := []) hC hw (X12_conditionCount_M l E D A h177) h178 rfl g_ml_L_40 hd_X12_conditionCount (Nat.le_of_ble_eq_true rfl) (Nat.le_of_ble_eq_true rfl) hl.1 rfl (Nat.le_of_ble_eq_true rfl) dL_isFilter_1 (fun H locs cells slots hw => ?_)
  refine lv_istore_n (lv' := [(1, .int x176), (0, .ref l0)]) hx hb dL_isFilter_4 rfl hl (by decide) rfl (fun ls hl => ?_)
  refine lv_iconst (v := 0) hx hb dL_isFilter_5 (by decide) ?_
  refine lv_istore_n (lv' := [(2, .int (0 : Int32)), (1, .int x176), (0, .ref l0)]) hx hb dL_isFilter_6 rfl hl (by decide) rfl (fun ls hl => ?_)
  refine lv_iconst (v := 0) hx hb dL_isFilter_7 (by decide) ?_
  refine lv_istore_n (lv' := [(3, .int (0 : Int32)), (2, .int (0 : Int32)), (1, .int x176), (0, .ref l0)]) hx hb dL_isFilter_8 rfl hl (by decide) rfl (fun ls hl => ?_)
  exact L_isFilter_9_W hC hQ hst (gN E) hf hw (lv_sub hl [3, 2, 1, 0] rfl)

def L_isFilter_f (E : gE) (l0 : Nat) (σ : gS) : Option (Int32 × gS) := L_isFilter E l0 σ
set_option maxRecDepth 100000 in
theorem L_isFilter_M (l : Launch) (hst : l.stackTraces = false) (E : gE) (D : va_G) (A : Nat → Prop) {l0 : Nat} {σ : gS} {res : (Int32 × gS)} (hf : L_isFilter_f E l0 σ = some res) : gCI l E D A yL_isFilter cL_isFilter 13 8 167 (some FieldType.boolean) [.ref l0] σ res := by
  refine gg_entI (own := RL) (nm := "isFilter") (ty := FieldType.boolean) (by decide +kernel) rfl rfl (Nat.le_of_ble_eq_true rfl) rfl ?_
  intro p e R s m args below meth c Q ls hC hw hQ hl
  have hl : lv_has ls 13 [(0, .ref l0)] := hl
  exact L_isFilter_W hC hQ hst hf hw hl

end MN2
