/-! decompiled: X13_pack, X13_allBits, X13_bitWidth, X13_wordCount, X13_packedWord, X13_packedBits, X13_compressionRatio, X13_countRuns, X13_runCount, X13_longestRun, X13_isSorted, X13_of, X13_told, X13_lower, X13_upper, X13_fulfills, X13_rejection, X13_selects, X13_countSelected, X13_countMatches, X13_conditionCount, X13_conditionColumn, X13_conditionValue, X13_conditionDirection, X13_lowerCode, X13_upperCode, X13_matches -/
section MM2
variable {p : Program} {l : Launch} {e : Env} {R : Room} {s : State} {m : MethodId} {args : Array Value} {below : List Frame} {meth : Method} {c : Code} {H : Heap} {locs : List Loc} {cells slots : Nat} {Q : State → Prop} {E : gE} {D : va_G} {A : Nat → Prop}
def X13_pack_95 (E : gE) (σ : gS) (r_12 : Nat → Int32 → Int32 → Int32 → Int64 → Int32 → Option Int64) (r_35 : Nat → Int32 → Int32 → Int32 → Int64 → Int32 → Int32 → Int32 → Option Int64) (l0 : Nat) (l1 : Int32) (l2 : Int32) (l3 : Int32) (l6 : Int32) (l7 : Int32) (l8 : Int32) (s0 : Int64) (s1 : Int64) : Option Int64 :=
  r_35 l0 l1 l2 l3 (s1 ||| s0) l6 l7 (l8 + 1)
set_option maxHeartbeats 4000000 in
set_option maxRecDepth 100000 in
theorem X13_pack_95_W {σ : gS} {l0 : Nat} {l1 : Int32} {l2 : Int32} {l3 : Int32} {l6 : Int32} {l7 : Int32} {l8 : Int32} {s0 : Int64} {s1 : Int64} {res : Int64} {ls : Array Slot} (hC : gC E D A p R s m args meth c cX13_pack 11 RX13 "pack" 3 68) (hQ : gQJ E D A p l e R s m args below meth c Q cX13_pack (res, σ)) {r_12 : Nat → Int32 → Int32 → Int32 → Int64 → Int32 → Option Int64} (h_12 : ∀ {l0 : Nat} {l1 : Int32} {l2 : Int32} {l3 : Int32} {l4 : Int64} {l6 : Int32} {H : Heap} {locs : List Loc} {cells slots : Nat} {ls : Array Slot}, r_12 l0 l1 l2 l3 l4 l6 = some res → gW E D A s σ H locs → lv_has ls 11 [(0, .ref l0), (1, .int l1), (2, .int l2), (3, .int l3), (4, .long l4), (6, .int l6)] → W p l e R s m args below meth c H locs cells slots Q (F0 m 12 ls [])) {r_35 : Nat → Int32 → Int32 → Int32 → Int64 → Int32 → Int32 → Int32 → Option Int64} (h_35 : ∀ {l0 : Nat} {l1 : Int32} {l2 : Int32} {l3 : Int32} {l4 : Int64} {l6 : Int32} {l7 : Int32} {l8 : Int32} {H : Heap} {locs : List Loc} {cells slots : Nat} {ls : Array Slot}, r_35 l0 l1 l2 l3 l4 l6 l7 l8 = some res → gW E D A s σ H locs → lv_has ls 11 [(0, .ref l0), (1, .int l1), (2, .int l2), (3, .int l3), (4, .long l4), (6, .int l6), (7, .int l7), (8, .int l8)] → W p l e R s m args below meth c H locs cells slots Q (F0 m 35 ls [])) (hf : X13_pack_95 E σ r_12 r_35 l0 l1 l2 l3 l6 l7 l8 s0 s1 = some res) (hw : gW E D A s σ H locs) (hl : lv_has ls 11 [(0, .ref l0), (1, .int l1), (2, .int l2), (3, .int l3), (6, .int l6), (7, .int l7), (8, .int l8)]) : W p l e R s m args below meth c H locs cells slots Q (F0 m 95 ls [.long s0, .long s1]) := by
  have hC0 := hC
  obtain ⟨hx, hb, hml, hown, hts, -⟩ := hC0
  unfold X13_pack_95 at hf
  refine lv_lor hx hb dX13_pack_95 ?_
  refine lv_lstore (lv' := [(4, .long (s1 ||| s0)), (0, .ref l0), (1, .int l1), (2, .int l2), (3, .int l3), (6, .int l6), (7, .int l7), (8, .int l8)]) hx hb dX13_pack_96 hl (by decide) rfl (fun ls hl => ?_)
  refine lv_iinc (v := (l8 + 1)) (lv' := [(8, .int (l8 + 1)), (4, .long (s1 ||| s0)), (0, .ref l0), (1, .int l1), (2, .int l2), (3, .int l3), (6, .int l6), (7, .int l7)]) hx hb dX13_pack_98 hl (k := 7) rfl rfl (by decide) rfl (fun ls hl => ?_)
  refine lv_goto (tgt := 35) hx hb dX13_pack_101 (by decide) ?_
  exact h_35 hf hw (lv_sub hl [2, 3, 4, 5, 1, 6, 7, 0] rfl)

def X13_pack_75 (E : gE) (σ : gS) (r_12 : Nat → Int32 → Int32 → Int32 → Int64 → Int32 → Option Int64) (r_35 : Nat → Int32 → Int32 → Int32 → Int64 → Int32 → Int32 → Int32 → Option Int64) (l0 : Nat) (l1 : Int32) (l2 : Int32) (l3 : Int32) (l4 : Int64) (l6 : Int32) (l7 : Int32) (l8 : Int32) (l9 : Int32) (s0 : Int32) : Option Int64 :=
  if s0 = 0 then
    X13_pack_95 E σ r_12 r_35 l0 l1 l2 l3 l6 l7 l8 (0 : Int64) l4
  else
    X13_pack_95 E σ r_12 r_35 l0 l1 l2 l3 l6 l7 l8 (glshl (1 : Int64) (l9 - l9 / (64 : Int32) * (64 : Int32))) l4
set_option maxHeartbeats 4000000 in
set_option maxRecDepth 100000 in
theorem X13_pack_75_W {σ : gS} {l0 : Nat} {l1 : Int32} {l2 : Int32} {l3 : Int32} {l4 : Int64} {l6 : Int32} {l7 : Int32} {l8 : Int32} {l9 : Int32} {s0 : Int32} {res : Int64} {ls : Array Slot} (hC : gC E D A p R s m args meth c cX13_pack 11 RX13 "pack" 3 68) (hQ : gQJ E D A p l e R s m args below meth c Q cX13_pack (res, σ)) {r_12 : Nat → Int32 → Int32 → Int32 → Int64 → Int32 → Option Int64} (h_12 : ∀ {l0 : Nat} {l1 : Int32} {l2 : Int32} {l3 : Int32} {l4 : Int64} {l6 : Int32} {H : Heap} {locs : List Loc} {cells slots : Nat} {ls : Array Slot}, r_12 l0 l1 l2 l3 l4 l6 = some res → gW E D A s σ H locs → lv_has ls 11 [(0, .ref l0), (1, .int l1), (2, .int l2), (3, .int l3), (4, .long l4), (6, .int l6)] → W p l e R s m args below meth c H locs cells slots Q (F0 m 12 ls [])) {r_35 : Nat → Int32 → Int32 → Int32 → Int64 → Int32 → Int32 → Int32 → Option Int64} (h_35 : ∀ {l0 : Nat} {l1 : Int32} {l2 : Int32} {l3 : Int32} {l4 : Int64} {l6 : Int32} {l7 : Int32} {l8 : Int32} {H : Heap} {locs : List Loc} {cells slots : Nat} {ls : Array Slot}, r_35 l0 l1 l2 l3 l4 l6 l7 l8 = some res → gW E D A s σ H locs → lv_has ls 11 [(0, .ref l0), (1, .int l1), (2, .int l2), (3, .int l3), (4, .long l4), (6, .int l6), (7, .int l7), (8, .int l8)] → W p l e R s m args below meth c H locs cells slots Q (F0 m 35 ls [])) (hf : X13_pack_75 E σ r_12 r_35 l0 l1 l2 l3 l4 l6 l7 l8 l9 s0 = some res) (hw : gW E D A s σ H locs) (hl : lv_has ls 11 [(0, .ref l0), (1, .int l1), (2, .int l2), (3, .int l3), (4, .long l4), (6, .int l6), (7, .int l7), (8, .int l8), (9, .int l9)]) : W p l e R s m args below meth c H locs cells slots Q (F0 m 75 ls [.int s0]) := by
  have hC0 := hC
  obtain ⟨hx, hb, hml, hown, hts, -⟩ := hC0
  unfold X13_pack_75 at hf
  refine lv_istore (lv' := [(10, .int s0), (0, .ref l0), (1, .int l1), (2, .int l2), (3, .int l3), (4, .long l4), (6, .int l6), (7, .int l7), (8, .int l8), (9, .int l9)]) hx hb dX13_pack_75 hl (by decide) rfl (fun ls hl => ?_)
  refine lv_lload hx hb dX13_pack_77 (lv_at hl 5 rfl) ?_
  refine lv_iload hx hb dX13_pack_79 (lv_at hl 0 rfl) ?_
  refine lv_if_eq (tgt := 94) hx hb dX13_pack_81 (by decide) (fun c1 => ?_) (fun c1 => ?_)
  · replace hf := (if_pos c1).symm.trans hf
    refine lv_lconst (v := 0) hx hb dX13_pack_94 (by decide) ?_
    exact X13_pack_95_W hC hQ h_12 h_35 hf hw (lv_sub hl [1, 2, 3, 4, 6, 7, 8] rfl)
  · replace hf := (if_neg c1).symm.trans hf
    refine lv_lconst (v := 1) hx hb dX13_pack_84 (by decide) ?_
    refine lv_iload hx hb dX13_pack_85 (lv_at hl 9 rfl) ?_
    refine lv_bipush (v := 64) hx hb dX13_pack_87 (by decide) ?_
    refine lv_irem hx hb dX13_pack_89 (by decide) ?_
    refine lv_lshl (v := glshl (1 : Int64) (l9 - l9 / (64 : Int32) * (64 : Int32))) hx hb dX13_pack_90 rfl ?_
    refine lv_goto (tgt := 95) hx hb dX13_pack_91 (by decide) ?_
    exact X13_pack_95_W hC hQ h_12 h_35 hf hw (lv_sub hl [1, 2, 3, 4, 6, 7, 8] rfl)

def X13_pack_74 (E : gE) (σ : gS) (r_12 : Nat → Int32 → Int32 → Int32 → Int64 → Int32 → Option Int64) (r_35 : Nat → Int32 → Int32 → Int32 → Int64 → Int32 → Int32 → Int32 → Option Int64) (l0 : Nat) (l1 : Int32) (l2 : Int32) (l3 : Int32) (l4 : Int64) (l6 : Int32) (l7 : Int32) (l8 : Int32) (l9 : Int32) : Option Int64 :=
  X13_pack_75 E σ r_12 r_35 l0 l1 l2 l3 l4 l6 l7 l8 l9 (0 : Int32)
set_option maxHeartbeats 4000000 in
set_option maxRecDepth 100000 in
theorem X13_pack_74_W {σ : gS} {l0 : Nat} {l1 : Int32} {l2 : Int32} {l3 : Int32} {l4 : Int64} {l6 : Int32} {l7 : Int32} {l8 : Int32} {l9 : Int32} {res : Int64} {ls : Array Slot} (hC : gC E D A p R s m args meth c cX13_pack 11 RX13 "pack" 3 68) (hQ : gQJ E D A p l e R s m args below meth c Q cX13_pack (res, σ)) {r_12 : Nat → Int32 → Int32 → Int32 → Int64 → Int32 → Option Int64} (h_12 : ∀ {l0 : Nat} {l1 : Int32} {l2 : Int32} {l3 : Int32} {l4 : Int64} {l6 : Int32} {H : Heap} {locs : List Loc} {cells slots : Nat} {ls : Array Slot}, r_12 l0 l1 l2 l3 l4 l6 = some res → gW E D A s σ H locs → lv_has ls 11 [(0, .ref l0), (1, .int l1), (2, .int l2), (3, .int l3), (4, .long l4), (6, .int l6)] → W p l e R s m args below meth c H locs cells slots Q (F0 m 12 ls [])) {r_35 : Nat → Int32 → Int32 → Int32 → Int64 → Int32 → Int32 → Int32 → Option Int64} (h_35 : ∀ {l0 : Nat} {l1 : Int32} {l2 : Int32} {l3 : Int32} {l4 : Int64} {l6 : Int32} {l7 : Int32} {l8 : Int32} {H : Heap} {locs : List Loc} {cells slots : Nat} {ls : Array Slot}, r_35 l0 l1 l2 l3 l4 l6 l7 l8 = some res → gW E D A s σ H locs → lv_has ls 11 [(0, .ref l0), (1, .int l1), (2, .int l2), (3, .int l3), (4, .long l4), (6, .int l6), (7, .int l7), (8, .int l8)] → W p l e R s m args below meth c H locs cells slots Q (F0 m 35 ls [])) (hf : X13_pack_74 E σ r_12 r_35 l0 l1 l2 l3 l4 l6 l7 l8 l9 = some res) (hw : gW E D A s σ H locs) (hl : lv_has ls 11 [(0, .ref l0), (1, .int l1), (2, .int l2), (3, .int l3), (4, .long l4), (6, .int l6), (7, .int l7), (8, .int l8), (9, .int l9)]) : W p l e R s m args below meth c H locs cells slots Q (F0 m 74 ls []) := by
  have hC0 := hC
  obtain ⟨hx, hb, hml, hown, hts, -⟩ := hC0
  unfold X13_pack_74 at hf
  refine lv_iconst (v := 0) hx hb dX13_pack_74 (by decide) ?_
  exact X13_pack_75_W hC hQ h_12 h_35 hf hw (lv_sub hl [0, 1, 2, 3, 4, 5, 6, 7, 8] rfl)

def X13_pack_35_s (E : gE) (σ : gS) (r_12 : Nat → Int32 → Int32 → Int32 → Int64 → Int32 → Option Int64) (r_35 : Nat → Int32 → Int32 → Int32 → Int64 → Int32 → Int32 → Int32 → Option Int64) (l0 : Nat) (l1 : Int32) (l2 : Int32) (l3 : Int32) (l4 : Int64) (l6 : Int32) (l7 : Int32) (l8 : Int32) : Option Int64 :=
  if l3 ≤ l8 then
    r_12 l0 l1 l2 l3 l4 (l6 + 1)
  else
    if (((l6 * l3) + l8) / (64 : Int32)) = l2 then
      if ((l7 >>> (l8 &&& 31)) &&& (1 : Int32)) = (1 : Int32) then
        X13_pack_75 E σ r_12 r_35 l0 l1 l2 l3 l4 l6 l7 l8 ((l6 * l3) + l8) (1 : Int32)
      else
        X13_pack_74 E σ r_12 r_35 l0 l1 l2 l3 l4 l6 l7 l8 ((l6 * l3) + l8)
    else
      X13_pack_74 E σ r_12 r_35 l0 l1 l2 l3 l4 l6 l7 l8 ((l6 * l3) + l8)
set_option maxHeartbeats 4000000 in
set_option maxRecDepth 100000 in
theorem X13_pack_35_s_W {σ : gS} {l0 : Nat} {l1 : Int32} {l2 : Int32} {l3 : Int32} {l4 : Int64} {l6 : Int32} {l7 : Int32} {l8 : Int32} {res : Int64} {ls : Array Slot} (hC : gC E D A p R s m args meth c cX13_pack 11 RX13 "pack" 3 68) (hQ : gQJ E D A p l e R s m args below meth c Q cX13_pack (res, σ)) {r_12 : Nat → Int32 → Int32 → Int32 → Int64 → Int32 → Option Int64} (h_12 : ∀ {l0 : Nat} {l1 : Int32} {l2 : Int32} {l3 : Int32} {l4 : Int64} {l6 : Int32} {H : Heap} {locs : List Loc} {cells slots : Nat} {ls : Array Slot}, r_12 l0 l1 l2 l3 l4 l6 = some res → gW E D A s σ H locs → lv_has ls 11 [(0, .ref l0), (1, .int l1), (2, .int l2), (3, .int l3), (4, .long l4), (6, .int l6)] → W p l e R s m args below meth c H locs cells slots Q (F0 m 12 ls [])) {r_35 : Nat → Int32 → Int32 → Int32 → Int64 → Int32 → Int32 → Int32 → Option Int64} (h_35 : ∀ {l0 : Nat} {l1 : Int32} {l2 : Int32} {l3 : Int32} {l4 : Int64} {l6 : Int32} {l7 : Int32} {l8 : Int32} {H : Heap} {locs : List Loc} {cells slots : Nat} {ls : Array Slot}, r_35 l0 l1 l2 l3 l4 l6 l7 l8 = some res → gW E D A s σ H locs → lv_has ls 11 [(0, .ref l0), (1, .int l1), (2, .int l2), (3, .int l3), (4, .long l4), (6, .int l6), (7, .int l7), (8, .int l8)] → W p l e R s m args below meth c H locs cells slots Q (F0 m 35 ls [])) (hf : X13_pack_35_s E σ r_12 r_35 l0 l1 l2 l3 l4 l6 l7 l8 = some res) (hw : gW E D A s σ H locs) (hl : lv_has ls 11 [(0, .ref l0), (1, .int l1), (2, .int l2), (3, .int l3), (4, .long l4), (6, .int l6), (7, .int l7), (8, .int l8)]) : W p l e R s m args below meth c H locs cells slots Q (F0 m 35 ls []) := by
  have hC0 := hC
  obtain ⟨hx, hb, hml, hown, hts, -⟩ := hC0
  unfold X13_pack_35_s at hf
  refine lv_iload hx hb dX13_pack_35 (lv_at hl 7 rfl) ?_
  refine lv_iload_n hx hb dX13_pack_37 rfl (lv_at hl 3 rfl) ?_
  refine lv_icmp_ge (tgt := 104) hx hb dX13_pack_38 (by decide) (fun c4 => ?_) (fun c4 => ?_)
  · replace hf := (if_pos c4).symm.trans hf
    refine lv_iinc (v := (l6 + 1)) (lv' := [(6, .int (l6 + 1)), (0, .ref l0), (1, .int l1), (2, .int l2), (3, .int l3), (4, .long l4), (7, .int l7), (8, .int l8)]) hx hb dX13_pack_104 hl (k := 5) rfl rfl (by decide) rfl (fun ls hl => ?_)
    refine lv_goto (tgt := 12) hx hb dX13_pack_107 (by decide) ?_
    exact h_12 hf hw (lv_sub hl [1, 2, 3, 4, 5, 0] rfl)
  · replace hf := (if_neg c4).symm.trans hf
    refine lv_iload hx hb dX13_pack_41 (lv_at hl 5 rfl) ?_
    refine lv_iload_n hx hb dX13_pack_43 rfl (lv_at hl 3 rfl) ?_
    refine lv_imul hx hb dX13_pack_44 ?_
    refine lv_iload hx hb dX13_pack_45 (lv_at hl 7 rfl) ?_
    refine lv_iadd hx hb dX13_pack_47 ?_
    refine lv_istore (lv' := [(9, .int ((l6 * l3) + l8)), (0, .ref l0), (1, .int l1), (2, .int l2), (3, .int l3), (4, .long l4), (6, .int l6), (7, .int l7), (8, .int l8)]) hx hb dX13_pack_48 hl (by decide) rfl (fun ls hl => ?_)
    refine lv_iload hx hb dX13_pack_50 (lv_at hl 0 rfl) ?_
    refine lv_bipush (v := 64) hx hb dX13_pack_52 (by decide) ?_
    refine lv_idiv hx hb dX13_pack_54 (by decide) ?_
    refine lv_iload_n hx hb dX13_pack_55 rfl (lv_at hl 3 rfl) ?_
    refine lv_icmp_ne (tgt := 74) hx hb dX13_pack_56 (by decide) (fun c3 => ?_) (fun c3 => ?_)
    · replace hf := (if_neg c3).symm.trans hf
      exact X13_pack_74_W hC hQ h_12 h_35 hf hw (lv_sub hl [1, 2, 3, 4, 5, 6, 7, 8, 0] rfl)
    · replace hf := (if_pos c3).symm.trans hf
      refine lv_iload hx hb dX13_pack_59 (lv_at hl 7 rfl) ?_
      refine lv_iload hx hb dX13_pack_61 (lv_at hl 8 rfl) ?_
      refine lv_ishr hx hb dX13_pack_63 ?_
      refine lv_iconst (v := 1) hx hb dX13_pack_64 (by decide) ?_
      refine lv_iand hx hb dX13_pack_65 ?_
      refine lv_iconst (v := 1) hx hb dX13_pack_66 (by decide) ?_
      refine lv_icmp_ne (tgt := 74) hx hb dX13_pack_67 (by decide) (fun c2 => ?_) (fun c2 => ?_)
      · replace hf := (if_neg c2).symm.trans hf
        exact X13_pack_74_W hC hQ h_12 h_35 hf hw (lv_sub hl [1, 2, 3, 4, 5, 6, 7, 8, 0] rfl)
      · replace hf := (if_pos c2).symm.trans hf
        refine lv_iconst (v := 1) hx hb dX13_pack_70 (by decide) ?_
        refine lv_goto (tgt := 75) hx hb dX13_pack_71 (by decide) ?_
        exact X13_pack_75_W hC hQ h_12 h_35 hf hw (lv_sub hl [1, 2, 3, 4, 5, 6, 7, 8, 0] rfl)
def X13_pack_35 (E : gE) (σ : gS) (r_12 : Nat → Int32 → Int32 → Int32 → Int64 → Int32 → Option Int64) : Nat → Nat → Int32 → Int32 → Int32 → Int64 → Int32 → Int32 → Int32 → Option Int64
  | 0 => fun _ _ _ _ _ _ _ _ => none
  | n + 1 => X13_pack_35_s E σ r_12 (X13_pack_35 E σ r_12 n)
theorem X13_pack_35_W {σ : gS} {res : Int64} (hC : gC E D A p R s m args meth c cX13_pack 11 RX13 "pack" 3 68) (hQ : gQJ E D A p l e R s m args below meth c Q cX13_pack (res, σ)) {r_12 : Nat → Int32 → Int32 → Int32 → Int64 → Int32 → Option Int64} (h_12 : ∀ {l0 : Nat} {l1 : Int32} {l2 : Int32} {l3 : Int32} {l4 : Int64} {l6 : Int32} {H : Heap} {locs : List Loc} {cells slots : Nat} {ls : Array Slot}, r_12 l0 l1 l2 l3 l4 l6 = some res → gW E D A s σ H locs → lv_has ls 11 [(0, .ref l0), (1, .int l1), (2, .int l2), (3, .int l3), (4, .long l4), (6, .int l6)] → W p l e R s m args below meth c H locs cells slots Q (F0 m 12 ls [])) : ∀ (n : Nat), ∀ {l0 : Nat} {l1 : Int32} {l2 : Int32} {l3 : Int32} {l4 : Int64} {l6 : Int32} {l7 : Int32} {l8 : Int32} {H : Heap} {locs : List Loc} {cells slots : Nat} {ls : Array Slot}, X13_pack_35 E σ r_12 n l0 l1 l2 l3 l4 l6 l7 l8 = some res → gW E D A s σ H locs → lv_has ls 11 [(0, .ref l0), (1, .int l1), (2, .int l2), (3, .int l3), (4, .long l4), (6, .int l6), (7, .int l7), (8, .int l8)] → W p l e R s m args below meth c H locs cells slots Q (F0 m 35 ls []) := by
  intro n
  induction n with
  | zero =>
    intros
    rename_i hf _ _
    exact absurd hf (fun h => by cases (show (none : Option Int64) = some res from h))
  | succ n ih =>
    intros
    rename_i hf hw hl
    exact X13_pack_35_s_W hC hQ h_12 ih hf hw hl

def X13_pack_12_s (E : gE) (σ : gS) (r_12 : Nat → Int32 → Int32 → Int32 → Int64 → Int32 → Option Int64) (l0 : Nat) (l1 : Int32) (l2 : Int32) (l3 : Int32) (l4 : Int64) (l6 : Int32) : Option Int64 :=
  ob (gfR σ l0 11 8) fun x5 =>
  ob (graI E 0 σ x5 (1 : Int32)) fun x7 =>
  if x7 ≤ l6 then
    some l4
  else
    ob (gcl σ l0 11) fun _ =>
    ob (X13_codeAt_f E σ l0 l1 l6) fun x9 =>
    X13_pack_35 E σ r_12 (gN E) l0 l1 l2 l3 l4 l6 x9 (0 : Int32)
set_option maxHeartbeats 4000000 in
set_option maxRecDepth 100000 in
theorem X13_pack_12_s_W {σ : gS} {l0 : Nat} {l1 : Int32} {l2 : Int32} {l3 : Int32} {l4 : Int64} {l6 : Int32} {res : Int64} {ls : Array Slot} (hC : gC E D A p R s m args meth c cX13_pack 11 RX13 "pack" 3 68) (hQ : gQJ E D A p l e R s m args below meth c Q cX13_pack (res, σ)) {r_12 : Nat → Int32 → Int32 → Int32 → Int64 → Int32 → Option Int64} (h_12 : ∀ {l0 : Nat} {l1 : Int32} {l2 : Int32} {l3 : Int32} {l4 : Int64} {l6 : Int32} {H : Heap} {locs : List Loc} {cells slots : Nat} {ls : Array Slot}, r_12 l0 l1 l2 l3 l4 l6 = some res → gW E D A s σ H locs → lv_has ls 11 [(0, .ref l0), (1, .int l1), (2, .int l2), (3, .int l3), (4, .long l4), (6, .int l6)] → W p l e R s m args below meth c H locs cells slots Q (F0 m 12 ls [])) (hf : X13_pack_12_s E σ r_12 l0 l1 l2 l3 l4 l6 = some res) (hw : gW E D A s σ H locs) (hl : lv_has ls 11 [(0, .ref l0), (1, .int l1), (2, .int l2), (3, .int l3), (4, .long l4), (6, .int l6)]) : W p l e R s m args below meth c H locs cells slots Q (F0 m 12 ls []) := by
  have hC0 := hC
  obtain ⟨hx, hb, hml, hown, hts, -⟩ := hC0
  unfold X13_pack_12_s at hf
  refine lv_iload hx hb dX13_pack_12 (lv_at hl 5 rfl) ?_
  refine lv_aload_n hx hb dX13_pack_14 rfl (lv_at hl 0 rfl) ?_
  obtain ⟨x5, h6, hf⟩ := ob_some hf
  refine rR_fl_X13_35 hC hw h6 dX13_pack_15 ?_
  refine lv_iconst (v := 1) hx hb dX13_pack_18 (by decide) ?_
  obtain ⟨x7, h8, hf⟩ := ob_some hf
  refine gg_aldI hC hw h8 dX13_pack_19 ?_
  refine lv_icmp_ge (tgt := 110) hx hb dX13_pack_20 (by decide) (fun c12 => ?_) (fun c12 => ?_)
  · replace hf := (if_pos c12).symm.trans hf
    refine lv_lload hx hb dX13_pack_110 (lv_at hl 4 rfl) ?_
    cases hf
    exact hQ _ _ _ _ _ _ dX13_pack_112 hw
  · replace hf := (if_neg c12).symm.trans hf
    refine lv_aload_n hx hb dX13_pack_23 rfl (lv_at hl 0 rfl) ?_
    refine lv_iload_n hx hb dX13_pack_24 rfl (lv_at hl 1 rfl) ?_
    refine lv_iload hx hb dX13_pack_25 (lv_at hl 5 rfl) ?_
    obtain ⟨_, h11, hf⟩ := ob_some hf
    obtain ⟨x9, h10, hf⟩ := ob_some hf
    refine gg_cVI (As := [.int l1, .int l6]) hC hw (X13_codeAt_M l E D A h10) h11 rfl g_ml_X13_133 hd_X13_codeAt (Nat.le_of_ble_eq_true rfl) (Nat.le_of_ble_eq_true rfl) hl.1 rfl (Nat.le_of_ble_eq_true rfl) dX13_pack_27 (fun H locs cells slots hw => ?_)
    refine lv_istore (lv' := [(7, .int x9), (0, .ref l0), (1, .int l1), (2, .int l2), (3, .int l3), (4, .long l4), (6, .int l6)]) hx hb dX13_pack_30 hl (by decide) rfl (fun ls hl => ?_)
    refine lv_iconst (v := 0) hx hb dX13_pack_32 (by decide) ?_
    refine lv_istore (lv' := [(8, .int (0 : Int32)), (7, .int x9), (0, .ref l0), (1, .int l1), (2, .int l2), (3, .int l3), (4, .long l4), (6, .int l6)]) hx hb dX13_pack_33 hl (by decide) rfl (fun ls hl => ?_)
    exact X13_pack_35_W hC hQ h_12 (gN E) hf hw (lv_sub hl [2, 3, 4, 5, 6, 7, 1, 0] rfl)
def X13_pack_12 (E : gE) (σ : gS) : Nat → Nat → Int32 → Int32 → Int32 → Int64 → Int32 → Option Int64
  | 0 => fun _ _ _ _ _ _ => none
  | n + 1 => X13_pack_12_s E σ (X13_pack_12 E σ n)
theorem X13_pack_12_W {σ : gS} {res : Int64} (hC : gC E D A p R s m args meth c cX13_pack 11 RX13 "pack" 3 68) (hQ : gQJ E D A p l e R s m args below meth c Q cX13_pack (res, σ)) : ∀ (n : Nat), ∀ {l0 : Nat} {l1 : Int32} {l2 : Int32} {l3 : Int32} {l4 : Int64} {l6 : Int32} {H : Heap} {locs : List Loc} {cells slots : Nat} {ls : Array Slot}, X13_pack_12 E σ n l0 l1 l2 l3 l4 l6 = some res → gW E D A s σ H locs → lv_has ls 11 [(0, .ref l0), (1, .int l1), (2, .int l2), (3, .int l3), (4, .long l4), (6, .int l6)] → W p l e R s m args below meth c H locs cells slots Q (F0 m 12 ls []) := by
  intro n
  induction n with
  | zero =>
    intros
    rename_i hf _ _
    exact absurd hf (fun h => by cases (show (none : Option Int64) = some res from h))
  | succ n ih =>
    intros
    rename_i hf hw hl
    exact X13_pack_12_s_W hC hQ ih hf hw hl

def X13_pack (E : gE) (σ : gS) (l0 : Nat) (l1 : Int32) (l2 : Int32) : Option Int64 :=
  ob (gcl σ l0 11) fun _ =>
  ob (X13_widthOf_f E σ l0 l1) fun x13 =>
  X13_pack_12 E σ (gN E) l0 l1 l2 x13 (0 : Int64) (0 : Int32)
set_option maxHeartbeats 4000000 in
set_option maxRecDepth 100000 in
theorem X13_pack_W {σ : gS} {l0 : Nat} {l1 : Int32} {l2 : Int32} {res : Int64} {ls : Array Slot} (hC : gC E D A p R s m args meth c cX13_pack 11 RX13 "pack" 3 68) (hQ : gQJ E D A p l e R s m args below meth c Q cX13_pack (res, σ)) (hf : X13_pack E σ l0 l1 l2 = some res) (hw : gW E D A s σ H locs) (hl : lv_has ls 11 [(0, .ref l0), (1, .int l1), (2, .int l2)]) : W p l e R s m args below meth c H locs cells slots Q (F0 m 0 ls []) := by
  have hC0 := hC
  obtain ⟨hx, hb, hml, hown, hts, -⟩ := hC0
  unfold X13_pack at hf
  refine lv_aload_n hx hb dX13_pack_0 rfl (lv_at hl 0 rfl) ?_
  refine lv_iload_n hx hb dX13_pack_1 rfl (lv_at hl 1 rfl) ?_
  obtain ⟨_, h15, hf⟩ := ob_some hf
  obtain ⟨x13, h14, hf⟩ := ob_some hf
  refine gg_cVI (As := [.int l1]) hC hw (X13_widthOf_M l E D A h14) h15 rfl g_ml_X13_154 hd_X13_widthOf (Nat.le_of_ble_eq_true rfl) (Nat.le_of_ble_eq_true rfl) hl.1 rfl (Nat.le_of_ble_eq_true rfl) dX13_pack_2 (fun H locs cells slots hw => ?_)
  refine lv_istore_n (lv' := [(3, .int x13), (0, .ref l0), (1, .int l1), (2, .int l2)]) hx hb dX13_pack_5 rfl hl (by decide) rfl (fun ls hl => ?_)
  refine lv_lconst (v := 0) hx hb dX13_pack_6 (by decide) ?_
  refine lv_lstore (lv' := [(4, .long (0 : Int64)), (3, .int x13), (0, .ref l0), (1, .int l1), (2, .int l2)]) hx hb dX13_pack_7 hl (by decide) rfl (fun ls hl => ?_)
  refine lv_iconst (v := 0) hx hb dX13_pack_9 (by decide) ?_
  refine lv_istore (lv' := [(6, .int (0 : Int32)), (4, .long (0 : Int64)), (3, .int x13), (0, .ref l0), (1, .int l1), (2, .int l2)]) hx hb dX13_pack_10 hl (by decide) rfl (fun ls hl => ?_)
  exact X13_pack_12_W hC hQ (gN E) hf hw (lv_sub hl [3, 4, 5, 2, 1, 0] rfl)

def X13_pack_f (E : gE) (σ : gS) (l0 : Nat) (l1 : Int32) (l2 : Int32) : Option Int64 := X13_pack E σ l0 l1 l2
set_option maxRecDepth 100000 in
theorem X13_pack_M (l : Launch) (E : gE) (D : va_G) (A : Nat → Prop) {l0 : Nat} {l1 : Int32} {l2 : Int32} {σ : gS} {res : Int64} (hf : X13_pack_f E σ l0 l1 l2 = some res) : gCJ l E D A yX13_pack cX13_pack 11 3 68 (some FieldType.long) [.ref l0, .int l1, .int l2] σ (res, σ) := by
  refine gg_entJ (own := RX13) (nm := "pack") (by decide +kernel) rfl rfl (Nat.le_of_ble_eq_true rfl) rfl ?_
  intro p e R s m args below meth c Q ls hC hw hQ hl
  have hl : lv_has ls 11 [(0, .ref l0), (1, .int l1), (2, .int l2)] := hl
  exact X13_pack_W hC hQ hf hw hl

def X13_allBits_4_s (E : gE) (σ : gS) (r_4 : Nat → Int32 → Int32 → Option Int32) (l0 : Nat) (l1 : Int32) (l2 : Int32) : Option Int32 :=
  ob (gfR σ l0 11 8) fun x1 =>
  ob (graI E 0 σ x1 (0 : Int32)) fun x3 =>
  if x3 ≤ l2 then
    some l1
  else
    ob (gcl σ l0 11) fun _ =>
    ob (X13_widthOf_f E σ l0 l2) fun x5 =>
    ob (gfR σ l0 11 8) fun x8 =>
    ob (graI E 0 σ x8 (1 : Int32)) fun x10 =>
    r_4 l0 (l1 + (x5 * x10)) (l2 + 1)
set_option maxHeartbeats 4000000 in
set_option maxRecDepth 100000 in
theorem X13_allBits_4_s_W {σ : gS} {l0 : Nat} {l1 : Int32} {l2 : Int32} {res : Int32} {ls : Array Slot} (hC : gC E D A p R s m args meth c cX13_allBits 3 RX13 "allBits" 3 65) (hQ : gQI E D A p l e R s m args below meth c Q cX13_allBits FieldType.int (res, σ)) {r_4 : Nat → Int32 → Int32 → Option Int32} (h_4 : ∀ {l0 : Nat} {l1 : Int32} {l2 : Int32} {H : Heap} {locs : List Loc} {cells slots : Nat} {ls : Array Slot}, r_4 l0 l1 l2 = some res → gW E D A s σ H locs → lv_has ls 3 [(0, .ref l0), (1, .int l1), (2, .int l2)] → W p l e R s m args below meth c H locs cells slots Q (F0 m 4 ls [])) (hf : X13_allBits_4_s E σ r_4 l0 l1 l2 = some res) (hw : gW E D A s σ H locs) (hl : lv_has ls 3 [(0, .ref l0), (1, .int l1), (2, .int l2)]) : W p l e R s m args below meth c H locs cells slots Q (F0 m 4 ls []) := by
  have hC0 := hC
  obtain ⟨hx, hb, hml, hown, hts, -⟩ := hC0
  unfold X13_allBits_4_s at hf
  refine lv_iload_n hx hb dX13_allBits_4 rfl (lv_at hl 2 rfl) ?_
  refine lv_aload_n hx hb dX13_allBits_5 rfl (lv_at hl 0 rfl) ?_
  obtain ⟨x1, h2, hf⟩ := ob_some hf
  refine rR_fl_X13_35 hC hw h2 dX13_allBits_6 ?_
  refine lv_iconst (v := 0) hx hb dX13_allBits_9 (by decide) ?_
  obtain ⟨x3, h4, hf⟩ := ob_some hf
  refine gg_aldI hC hw h4 dX13_allBits_10 ?_
  refine lv_icmp_ge (tgt := 35) hx hb dX13_allBits_11 (by decide) (fun c12 => ?_) (fun c12 => ?_)
  · replace hf := (if_pos c12).symm.trans hf
    refine lv_iload_n hx hb dX13_allBits_35 rfl (lv_at hl 1 rfl) ?_
    cases hf
    exact hQ _ _ _ _ _ _ dX13_allBits_36 rfl hw
  · replace hf := (if_neg c12).symm.trans hf
    refine lv_iload_n hx hb dX13_allBits_14 rfl (lv_at hl 1 rfl) ?_
    refine lv_aload_n hx hb dX13_allBits_15 rfl (lv_at hl 0 rfl) ?_
    refine lv_iload_n hx hb dX13_allBits_16 rfl (lv_at hl 2 rfl) ?_
    obtain ⟨_, h7, hf⟩ := ob_some hf
    obtain ⟨x5, h6, hf⟩ := ob_some hf
    refine gg_cVI (As := [.int l2]) hC hw (X13_widthOf_M l E D A h6) h7 rfl g_ml_X13_154 hd_X13_widthOf (Nat.le_of_ble_eq_true rfl) (Nat.le_of_ble_eq_true rfl) hl.1 rfl (Nat.le_of_ble_eq_true rfl) dX13_allBits_17 (fun H locs cells slots hw => ?_)
    refine lv_aload_n hx hb dX13_allBits_20 rfl (lv_at hl 0 rfl) ?_
    obtain ⟨x8, h9, hf⟩ := ob_some hf
    refine rR_fl_X13_35 hC hw h9 dX13_allBits_21 ?_
    refine lv_iconst (v := 1) hx hb dX13_allBits_24 (by decide) ?_
    obtain ⟨x10, h11, hf⟩ := ob_some hf
    refine gg_aldI hC hw h11 dX13_allBits_25 ?_
    refine lv_imul hx hb dX13_allBits_26 ?_
    refine lv_iadd hx hb dX13_allBits_27 ?_
    refine lv_istore_n (lv' := [(1, .int (l1 + (x5 * x10))), (0, .ref l0), (2, .int l2)]) hx hb dX13_allBits_28 rfl hl (by decide) rfl (fun ls hl => ?_)
    refine lv_iinc (v := (l2 + 1)) (lv' := [(2, .int (l2 + 1)), (1, .int (l1 + (x5 * x10))), (0, .ref l0)]) hx hb dX13_allBits_29 hl (k := 2) rfl rfl (by decide) rfl (fun ls hl => ?_)
    refine lv_goto (tgt := 4) hx hb dX13_allBits_32 (by decide) ?_
    exact h_4 hf hw (lv_sub hl [2, 1, 0] rfl)
def X13_allBits_4 (E : gE) (σ : gS) : Nat → Nat → Int32 → Int32 → Option Int32
  | 0 => fun _ _ _ => none
  | n + 1 => X13_allBits_4_s E σ (X13_allBits_4 E σ n)
theorem X13_allBits_4_W {σ : gS} {res : Int32} (hC : gC E D A p R s m args meth c cX13_allBits 3 RX13 "allBits" 3 65) (hQ : gQI E D A p l e R s m args below meth c Q cX13_allBits FieldType.int (res, σ)) : ∀ (n : Nat), ∀ {l0 : Nat} {l1 : Int32} {l2 : Int32} {H : Heap} {locs : List Loc} {cells slots : Nat} {ls : Array Slot}, X13_allBits_4 E σ n l0 l1 l2 = some res → gW E D A s σ H locs → lv_has ls 3 [(0, .ref l0), (1, .int l1), (2, .int l2)] → W p l e R s m args below meth c H locs cells slots Q (F0 m 4 ls []) := by
  intro n
  induction n with
  | zero =>
    intros
    rename_i hf _ _
    exact absurd hf (fun h => by cases (show (none : Option Int32) = some res from h))
  | succ n ih =>
    intros
    rename_i hf hw hl
    exact X13_allBits_4_s_W hC hQ ih hf hw hl

def X13_allBits (E : gE) (σ : gS) (l0 : Nat) : Option Int32 :=
  X13_allBits_4 E σ (gN E) l0 (0 : Int32) (0 : Int32)
set_option maxHeartbeats 4000000 in
set_option maxRecDepth 100000 in
theorem X13_allBits_W {σ : gS} {l0 : Nat} {res : Int32} {ls : Array Slot} (hC : gC E D A p R s m args meth c cX13_allBits 3 RX13 "allBits" 3 65) (hQ : gQI E D A p l e R s m args below meth c Q cX13_allBits FieldType.int (res, σ)) (hf : X13_allBits E σ l0 = some res) (hw : gW E D A s σ H locs) (hl : lv_has ls 3 [(0, .ref l0)]) : W p l e R s m args below meth c H locs cells slots Q (F0 m 0 ls []) := by
  have hC0 := hC
  obtain ⟨hx, hb, hml, hown, hts, -⟩ := hC0
  unfold X13_allBits at hf
  refine lv_iconst (v := 0) hx hb dX13_allBits_0 (by decide) ?_
  refine lv_istore_n (lv' := [(1, .int (0 : Int32)), (0, .ref l0)]) hx hb dX13_allBits_1 rfl hl (by decide) rfl (fun ls hl => ?_)
  refine lv_iconst (v := 0) hx hb dX13_allBits_2 (by decide) ?_
  refine lv_istore_n (lv' := [(2, .int (0 : Int32)), (1, .int (0 : Int32)), (0, .ref l0)]) hx hb dX13_allBits_3 rfl hl (by decide) rfl (fun ls hl => ?_)
  exact X13_allBits_4_W hC hQ (gN E) hf hw (lv_sub hl [2, 1, 0] rfl)

def X13_allBits_f (E : gE) (σ : gS) (l0 : Nat) : Option Int32 := X13_allBits E σ l0
set_option maxRecDepth 100000 in
theorem X13_allBits_M (l : Launch) (E : gE) (D : va_G) (A : Nat → Prop) {l0 : Nat} {σ : gS} {res : Int32} (hf : X13_allBits_f E σ l0 = some res) : gCI l E D A yX13_allBits cX13_allBits 3 3 65 (some FieldType.int) [.ref l0] σ (res, σ) := by
  refine gg_entI (own := RX13) (nm := "allBits") (ty := FieldType.int) (by decide +kernel) rfl rfl (Nat.le_of_ble_eq_true rfl) rfl ?_
  intro p e R s m args below meth c Q ls hC hw hQ hl
  have hl : lv_has ls 3 [(0, .ref l0)] := hl
  exact X13_allBits_W hC hQ hf hw hl

def X13_bitWidth (E : gE) (l0 : Nat) (l1 : Int32) (σ : gS) : Option (Int32 × gS) :=
  ob (gcl σ l0 11) fun _ =>
  ob (X13_isColumn_f E σ l0 l1) fun x1 =>
  ob (gcl σ l0 11) fun _ =>
  ob (X13_lacks_f E l0 x1 σ) fun x4 =>
  if x4.1 = 0 then
    ob (gcl x4.2 l0 11) fun _ =>
    ob (X13_widthOf_f E x4.2 l0 l1) fun x7 =>
    some (x7, x4.2)
  else
    some ((0 : Int32), x4.2)
set_option maxHeartbeats 4000000 in
set_option maxRecDepth 100000 in
theorem X13_bitWidth_W {σ : gS} {l0 : Nat} {l1 : Int32} {res : (Int32 × gS)} {ls : Array Slot} (hC : gC E D A p R s m args meth c cX13_bitWidth 2 RX13 "bitWidth" 3 65) (hQ : gQI E D A p l e R s m args below meth c Q cX13_bitWidth FieldType.int res) (hf : X13_bitWidth E l0 l1 σ = some res) (hw : gW E D A s σ H locs) (hl : lv_has ls 2 [(0, .ref l0), (1, .int l1)]) : W p l e R s m args below meth c H locs cells slots Q (F0 m 0 ls []) := by
  have hC0 := hC
  obtain ⟨hx, hb, hml, hown, hts, -⟩ := hC0
  unfold X13_bitWidth at hf
  refine lv_aload_n hx hb dX13_bitWidth_0 rfl (lv_at hl 0 rfl) ?_
  refine lv_aload_n hx hb dX13_bitWidth_1 rfl (lv_at hl 0 rfl) ?_
  refine lv_iload_n hx hb dX13_bitWidth_2 rfl (lv_at hl 1 rfl) ?_
  obtain ⟨_, h3, hf⟩ := ob_some hf
  obtain ⟨x1, h2, hf⟩ := ob_some hf
  refine gg_cVI (As := [.int l1]) hC hw (X13_isColumn_M l E D A h2) h3 rfl g_ml_X13_112 hd_X13_isColumn (Nat.le_of_ble_eq_true rfl) (Nat.le_of_ble_eq_true rfl) hl.1 rfl (Nat.le_of_ble_eq_true rfl) dX13_bitWidth_3 (fun H locs cells slots hw => ?_)
  obtain ⟨_, h6, hf⟩ := ob_some hf
  obtain ⟨x4, h5, hf⟩ := ob_some hf
  refine gg_cVI (As := [.int x1]) hC hw (X13_lacks_M l E D A h5) h6 rfl g_ml_X13_88 hd_X13_lacks (Nat.le_of_ble_eq_true rfl) (Nat.le_of_ble_eq_true rfl) hl.1 rfl (Nat.le_of_ble_eq_true rfl) dX13_bitWidth_6 (fun H locs cells slots hw => ?_)
  refine lv_if_eq (tgt := 16) hx hb dX13_bitWidth_9 (by decide) (fun c10 => ?_) (fun c10 => ?_)
  · replace hf := (if_pos c10).symm.trans hf
    refine lv_aload_n hx hb dX13_bitWidth_16 rfl (lv_at hl 0 rfl) ?_
    refine lv_iload_n hx hb dX13_bitWidth_17 rfl (lv_at hl 1 rfl) ?_
    obtain ⟨_, h9, hf⟩ := ob_some hf
    obtain ⟨x7, h8, hf⟩ := ob_some hf
    refine gg_cVI (As := [.int l1]) hC hw (X13_widthOf_M l E D A h8) h9 rfl g_ml_X13_154 hd_X13_widthOf (Nat.le_of_ble_eq_true rfl) (Nat.le_of_ble_eq_true rfl) hl.1 rfl (Nat.le_of_ble_eq_true rfl) dX13_bitWidth_18 (fun H locs cells slots hw => ?_)
    cases hf
    exact hQ _ _ _ _ _ _ dX13_bitWidth_21 rfl hw
  · replace hf := (if_neg c10).symm.trans hf
    refine lv_iconst (v := 0) hx hb dX13_bitWidth_12 (by decide) ?_
    refine lv_goto (tgt := 21) hx hb dX13_bitWidth_13 (by decide) ?_
    cases hf
    exact hQ _ _ _ _ _ _ dX13_bitWidth_21 rfl hw

def X13_bitWidth_f (E : gE) (l0 : Nat) (l1 : Int32) (σ : gS) : Option (Int32 × gS) := X13_bitWidth E l0 l1 σ
set_option maxRecDepth 100000 in
theorem X13_bitWidth_M (l : Launch) (E : gE) (D : va_G) (A : Nat → Prop) {l0 : Nat} {l1 : Int32} {σ : gS} {res : (Int32 × gS)} (hf : X13_bitWidth_f E l0 l1 σ = some res) : gCI l E D A yX13_bitWidth cX13_bitWidth 2 3 65 (some FieldType.int) [.ref l0, .int l1] σ res := by
  refine gg_entI (own := RX13) (nm := "bitWidth") (ty := FieldType.int) (by decide +kernel) rfl rfl (Nat.le_of_ble_eq_true rfl) rfl ?_
  intro p e R s m args below meth c Q ls hC hw hQ hl
  have hl : lv_has ls 2 [(0, .ref l0), (1, .int l1)] := hl
  exact X13_bitWidth_W hC hQ hf hw hl

def X13_wordCount (E : gE) (l0 : Nat) (l1 : Int32) (σ : gS) : Option (Int32 × gS) :=
  ob (gcl σ l0 11) fun _ =>
  ob (X13_isColumn_f E σ l0 l1) fun x1 =>
  ob (gcl σ l0 11) fun _ =>
  ob (X13_lacks_f E l0 x1 σ) fun x4 =>
  if x4.1 = 0 then
    ob (gcl x4.2 l0 11) fun _ =>
    ob (X13_wordsOf_f E x4.2 l0 l1) fun x7 =>
    some (x7, x4.2)
  else
    some ((0 : Int32), x4.2)
set_option maxHeartbeats 4000000 in
set_option maxRecDepth 100000 in
theorem X13_wordCount_W {σ : gS} {l0 : Nat} {l1 : Int32} {res : (Int32 × gS)} {ls : Array Slot} (hC : gC E D A p R s m args meth c cX13_wordCount 2 RX13 "wordCount" 4 86) (hQ : gQI E D A p l e R s m args below meth c Q cX13_wordCount FieldType.int res) (hf : X13_wordCount E l0 l1 σ = some res) (hw : gW E D A s σ H locs) (hl : lv_has ls 2 [(0, .ref l0), (1, .int l1)]) : W p l e R s m args below meth c H locs cells slots Q (F0 m 0 ls []) := by
  have hC0 := hC
  obtain ⟨hx, hb, hml, hown, hts, -⟩ := hC0
  unfold X13_wordCount at hf
  refine lv_aload_n hx hb dX13_wordCount_0 rfl (lv_at hl 0 rfl) ?_
  refine lv_aload_n hx hb dX13_wordCount_1 rfl (lv_at hl 0 rfl) ?_
  refine lv_iload_n hx hb dX13_wordCount_2 rfl (lv_at hl 1 rfl) ?_
  obtain ⟨_, h3, hf⟩ := ob_some hf
  obtain ⟨x1, h2, hf⟩ := ob_some hf
  refine gg_cVI (As := [.int l1]) hC hw (X13_isColumn_M l E D A h2) h3 rfl g_ml_X13_112 hd_X13_isColumn (Nat.le_of_ble_eq_true rfl) (Nat.le_of_ble_eq_true rfl) hl.1 rfl (Nat.le_of_ble_eq_true rfl) dX13_wordCount_3 (fun H locs cells slots hw => ?_)
  obtain ⟨_, h6, hf⟩ := ob_some hf
  obtain ⟨x4, h5, hf⟩ := ob_some hf
  refine gg_cVI (As := [.int x1]) hC hw (X13_lacks_M l E D A h5) h6 rfl g_ml_X13_88 hd_X13_lacks (Nat.le_of_ble_eq_true rfl) (Nat.le_of_ble_eq_true rfl) hl.1 rfl (Nat.le_of_ble_eq_true rfl) dX13_wordCount_6 (fun H locs cells slots hw => ?_)
  refine lv_if_eq (tgt := 16) hx hb dX13_wordCount_9 (by decide) (fun c10 => ?_) (fun c10 => ?_)
  · replace hf := (if_pos c10).symm.trans hf
    refine lv_aload_n hx hb dX13_wordCount_16 rfl (lv_at hl 0 rfl) ?_
    refine lv_iload_n hx hb dX13_wordCount_17 rfl (lv_at hl 1 rfl) ?_
    obtain ⟨_, h9, hf⟩ := ob_some hf
    obtain ⟨x7, h8, hf⟩ := ob_some hf
    refine gg_cVI (As := [.int l1]) hC hw (X13_wordsOf_M l E D A h8) h9 rfl g_ml_X13_157 hd_X13_wordsOf (Nat.le_of_ble_eq_true rfl) (Nat.le_of_ble_eq_true rfl) hl.1 rfl (Nat.le_of_ble_eq_true rfl) dX13_wordCount_18 (fun H locs cells slots hw => ?_)
    cases hf
    exact hQ _ _ _ _ _ _ dX13_wordCount_21 rfl hw
  · replace hf := (if_neg c10).symm.trans hf
    refine lv_iconst (v := 0) hx hb dX13_wordCount_12 (by decide) ?_
    refine lv_goto (tgt := 21) hx hb dX13_wordCount_13 (by decide) ?_
    cases hf
    exact hQ _ _ _ _ _ _ dX13_wordCount_21 rfl hw

def X13_wordCount_f (E : gE) (l0 : Nat) (l1 : Int32) (σ : gS) : Option (Int32 × gS) := X13_wordCount E l0 l1 σ
set_option maxRecDepth 100000 in
theorem X13_wordCount_M (l : Launch) (E : gE) (D : va_G) (A : Nat → Prop) {l0 : Nat} {l1 : Int32} {σ : gS} {res : (Int32 × gS)} (hf : X13_wordCount_f E l0 l1 σ = some res) : gCI l E D A yX13_wordCount cX13_wordCount 2 4 86 (some FieldType.int) [.ref l0, .int l1] σ res := by
  refine gg_entI (own := RX13) (nm := "wordCount") (ty := FieldType.int) (by decide +kernel) rfl rfl (Nat.le_of_ble_eq_true rfl) rfl ?_
  intro p e R s m args below meth c Q ls hC hw hQ hl
  have hl : lv_has ls 2 [(0, .ref l0), (1, .int l1)] := hl
  exact X13_wordCount_W hC hQ hf hw hl

def X13_packedWord_28 (E : gE) (l0 : Nat) (l1 : Int32) (l2 : Int32) (s0 : Int32) (σ : gS) : Option (Int64 × gS) :=
  ob (gcl σ l0 11) fun _ =>
  ob (X13_lacks_f E l0 s0 σ) fun x1 =>
  if x1.1 = 0 then
    ob (gcl x1.2 l0 11) fun _ =>
    ob (X13_pack_f E x1.2 l0 l1 l2) fun x4 =>
    some (x4, x1.2)
  else
    some ((0 : Int64), x1.2)
set_option maxHeartbeats 4000000 in
set_option maxRecDepth 100000 in
theorem X13_packedWord_28_W {σ : gS} {l0 : Nat} {l1 : Int32} {l2 : Int32} {s0 : Int32} {res : (Int64 × gS)} {ls : Array Slot} (hC : gC E D A p R s m args meth c cX13_packedWord 4 RX13 "packedWord" 4 98) (hQ : gQJ E D A p l e R s m args below meth c Q cX13_packedWord res) (hf : X13_packedWord_28 E l0 l1 l2 s0 σ = some res) (hw : gW E D A s σ H locs) (hl : lv_has ls 4 [(0, .ref l0), (1, .int l1), (2, .int l2)]) : W p l e R s m args below meth c H locs cells slots Q (F0 m 28 ls [.int s0]) := by
  have hC0 := hC
  obtain ⟨hx, hb, hml, hown, hts, -⟩ := hC0
  unfold X13_packedWord_28 at hf
  refine lv_istore_n (lv' := [(3, .int s0), (0, .ref l0), (1, .int l1), (2, .int l2)]) hx hb dX13_packedWord_28 rfl hl (by decide) rfl (fun ls hl => ?_)
  refine lv_aload_n hx hb dX13_packedWord_29 rfl (lv_at hl 1 rfl) ?_
  refine lv_iload_n hx hb dX13_packedWord_30 rfl (lv_at hl 0 rfl) ?_
  obtain ⟨_, h3, hf⟩ := ob_some hf
  obtain ⟨x1, h2, hf⟩ := ob_some hf
  refine gg_cVI (As := [.int s0]) hC hw (X13_lacks_M l E D A h2) h3 rfl g_ml_X13_88 hd_X13_lacks (Nat.le_of_ble_eq_true rfl) (Nat.le_of_ble_eq_true rfl) hl.1 rfl (Nat.le_of_ble_eq_true rfl) dX13_packedWord_31 (fun H locs cells slots hw => ?_)
  refine lv_if_eq (tgt := 41) hx hb dX13_packedWord_34 (by decide) (fun c7 => ?_) (fun c7 => ?_)
  · replace hf := (if_pos c7).symm.trans hf
    refine lv_aload_n hx hb dX13_packedWord_41 rfl (lv_at hl 1 rfl) ?_
    refine lv_iload_n hx hb dX13_packedWord_42 rfl (lv_at hl 2 rfl) ?_
    refine lv_iload_n hx hb dX13_packedWord_43 rfl (lv_at hl 3 rfl) ?_
    obtain ⟨_, h6, hf⟩ := ob_some hf
    obtain ⟨x4, h5, hf⟩ := ob_some hf
    refine gg_cVJ (As := [.int l1, .int l2]) hC hw (X13_pack_M l E D A h5) h6 rfl g_ml_X13_160 hd_X13_pack (Nat.le_of_ble_eq_true rfl) (Nat.le_of_ble_eq_true rfl) hl.1 rfl (Nat.le_of_ble_eq_true rfl) dX13_packedWord_44 (fun H locs cells slots hw => ?_)
    cases hf
    exact hQ _ _ _ _ _ _ dX13_packedWord_47 hw
  · replace hf := (if_neg c7).symm.trans hf
    refine lv_lconst (v := 0) hx hb dX13_packedWord_37 (by decide) ?_
    refine lv_goto (tgt := 47) hx hb dX13_packedWord_38 (by decide) ?_
    cases hf
    exact hQ _ _ _ _ _ _ dX13_packedWord_47 hw

def X13_packedWord_27 (E : gE) (l0 : Nat) (l1 : Int32) (l2 : Int32) (σ : gS) : Option (Int64 × gS) :=
  X13_packedWord_28 E l0 l1 l2 (0 : Int32) σ
set_option maxHeartbeats 4000000 in
set_option maxRecDepth 100000 in
theorem X13_packedWord_27_W {σ : gS} {l0 : Nat} {l1 : Int32} {l2 : Int32} {res : (Int64 × gS)} {ls : Array Slot} (hC : gC E D A p R s m args meth c cX13_packedWord 4 RX13 "packedWord" 4 98) (hQ : gQJ E D A p l e R s m args below meth c Q cX13_packedWord res) (hf : X13_packedWord_27 E l0 l1 l2 σ = some res) (hw : gW E D A s σ H locs) (hl : lv_has ls 4 [(0, .ref l0), (1, .int l1), (2, .int l2)]) : W p l e R s m args below meth c H locs cells slots Q (F0 m 27 ls []) := by
  have hC0 := hC
  obtain ⟨hx, hb, hml, hown, hts, -⟩ := hC0
  unfold X13_packedWord_27 at hf
  refine lv_iconst (v := 0) hx hb dX13_packedWord_27 (by decide) ?_
  exact X13_packedWord_28_W hC hQ hf hw (lv_sub hl [0, 1, 2] rfl)

def X13_packedWord (E : gE) (l0 : Nat) (l1 : Int32) (l2 : Int32) (σ : gS) : Option (Int64 × gS) :=
  ob (gcl σ l0 11) fun _ =>
  ob (X13_isColumn_f E σ l0 l1) fun x8 =>
  if x8 = 0 then
    X13_packedWord_27 E l0 l1 l2 σ
  else
    ob (gcl σ l0 11) fun _ =>
    ob (X13_wordsOf_f E σ l0 l1) fun x11 =>
    ob (X13_inRange_f E σ l2 (0 : Int32) (x11 - (1 : Int32))) fun x14 =>
    if x14 = 0 then
      X13_packedWord_27 E l0 l1 l2 σ
    else
      X13_packedWord_28 E l0 l1 l2 (1 : Int32) σ
set_option maxHeartbeats 4000000 in
set_option maxRecDepth 100000 in
theorem X13_packedWord_W {σ : gS} {l0 : Nat} {l1 : Int32} {l2 : Int32} {res : (Int64 × gS)} {ls : Array Slot} (hC : gC E D A p R s m args meth c cX13_packedWord 4 RX13 "packedWord" 4 98) (hQ : gQJ E D A p l e R s m args below meth c Q cX13_packedWord res) (hf : X13_packedWord E l0 l1 l2 σ = some res) (hw : gW E D A s σ H locs) (hl : lv_has ls 4 [(0, .ref l0), (1, .int l1), (2, .int l2)]) : W p l e R s m args below meth c H locs cells slots Q (F0 m 0 ls []) := by
  have hC0 := hC
  obtain ⟨hx, hb, hml, hown, hts, -⟩ := hC0
  unfold X13_packedWord at hf
  refine lv_aload_n hx hb dX13_packedWord_0 rfl (lv_at hl 0 rfl) ?_
  refine lv_iload_n hx hb dX13_packedWord_1 rfl (lv_at hl 1 rfl) ?_
  obtain ⟨_, h10, hf⟩ := ob_some hf
  obtain ⟨x8, h9, hf⟩ := ob_some hf
  refine gg_cVI (As := [.int l1]) hC hw (X13_isColumn_M l E D A h9) h10 rfl g_ml_X13_112 hd_X13_isColumn (Nat.le_of_ble_eq_true rfl) (Nat.le_of_ble_eq_true rfl) hl.1 rfl (Nat.le_of_ble_eq_true rfl) dX13_packedWord_2 (fun H locs cells slots hw => ?_)
  refine lv_if_eq (tgt := 27) hx hb dX13_packedWord_5 (by decide) (fun c17 => ?_) (fun c17 => ?_)
  · replace hf := (if_pos c17).symm.trans hf
    exact X13_packedWord_27_W hC hQ hf hw (lv_sub hl [0, 1, 2] rfl)
  · replace hf := (if_neg c17).symm.trans hf
    refine lv_iload_n hx hb dX13_packedWord_8 rfl (lv_at hl 2 rfl) ?_
    refine lv_iconst (v := 0) hx hb dX13_packedWord_9 (by decide) ?_
    refine lv_aload_n hx hb dX13_packedWord_10 rfl (lv_at hl 0 rfl) ?_
    refine lv_iload_n hx hb dX13_packedWord_11 rfl (lv_at hl 1 rfl) ?_
    obtain ⟨_, h13, hf⟩ := ob_some hf
    obtain ⟨x11, h12, hf⟩ := ob_some hf
    refine gg_cVI (As := [.int l1]) hC hw (X13_wordsOf_M l E D A h12) h13 rfl g_ml_X13_157 hd_X13_wordsOf (Nat.le_of_ble_eq_true rfl) (Nat.le_of_ble_eq_true rfl) hl.1 rfl (Nat.le_of_ble_eq_true rfl) dX13_packedWord_12 (fun H locs cells slots hw => ?_)
    refine lv_iconst (v := 1) hx hb dX13_packedWord_15 (by decide) ?_
    refine lv_isub hx hb dX13_packedWord_16 ?_
    obtain ⟨x14, h15, hf⟩ := ob_some hf
    refine gg_cSI (As := [.int l2, .int (0 : Int32), .int (x11 - (1 : Int32))]) hC hw (X13_inRange_M l E D A h15) g_ml_X13_92 hd_X13_inRange.2 (Nat.le_of_ble_eq_true rfl) (Nat.le_of_ble_eq_true rfl) hl.1 rfl (Nat.le_of_ble_eq_true rfl) dX13_packedWord_17 (fun H locs cells slots hw => ?_)
    refine lv_if_eq (tgt := 27) hx hb dX13_packedWord_20 (by decide) (fun c16 => ?_) (fun c16 => ?_)
    · replace hf := (if_pos c16).symm.trans hf
      exact X13_packedWord_27_W hC hQ hf hw (lv_sub hl [0, 1, 2] rfl)
    · replace hf := (if_neg c16).symm.trans hf
      refine lv_iconst (v := 1) hx hb dX13_packedWord_23 (by decide) ?_
      refine lv_goto (tgt := 28) hx hb dX13_packedWord_24 (by decide) ?_
      exact X13_packedWord_28_W hC hQ hf hw (lv_sub hl [0, 1, 2] rfl)

def X13_packedWord_f (E : gE) (l0 : Nat) (l1 : Int32) (l2 : Int32) (σ : gS) : Option (Int64 × gS) := X13_packedWord E l0 l1 l2 σ
set_option maxRecDepth 100000 in
theorem X13_packedWord_M (l : Launch) (E : gE) (D : va_G) (A : Nat → Prop) {l0 : Nat} {l1 : Int32} {l2 : Int32} {σ : gS} {res : (Int64 × gS)} (hf : X13_packedWord_f E l0 l1 l2 σ = some res) : gCJ l E D A yX13_packedWord cX13_packedWord 4 4 98 (some FieldType.long) [.ref l0, .int l1, .int l2] σ res := by
  refine gg_entJ (own := RX13) (nm := "packedWord") (by decide +kernel) rfl rfl (Nat.le_of_ble_eq_true rfl) rfl ?_
  intro p e R s m args below meth c Q ls hC hw hQ hl
  have hl : lv_has ls 4 [(0, .ref l0), (1, .int l1), (2, .int l2)] := hl
  exact X13_packedWord_W hC hQ hf hw hl

def X13_packedBits (E : gE) (l0 : Nat) (σ : gS) : Option (Int32 × gS) :=
  ob (gpf E σ l0 11 10 (.int (0 : Int32))) fun σ1 =>
  ob (gcl σ1 l0 11) fun _ =>
  ob (X13_allBits_f E σ1 l0) fun x3 =>
  some (x3, σ1)
set_option maxHeartbeats 4000000 in
set_option maxRecDepth 100000 in
theorem X13_packedBits_W {σ : gS} {l0 : Nat} {res : (Int32 × gS)} {ls : Array Slot} (hC : gC E D A p R s m args meth c cX13_packedBits 1 RX13 "packedBits" 4 87) (hQ : gQI E D A p l e R s m args below meth c Q cX13_packedBits FieldType.int res) (hf : X13_packedBits E l0 σ = some res) (hw : gW E D A s σ H locs) (hl : lv_has ls 1 [(0, .ref l0)]) : W p l e R s m args below meth c H locs cells slots Q (F0 m 0 ls []) := by
  have hC0 := hC
  obtain ⟨hx, hb, hml, hown, hts, -⟩ := hC0
  unfold X13_packedBits at hf
  refine lv_aload_n hx hb dX13_packedBits_0 rfl (lv_at hl 0 rfl) ?_
  refine lv_iconst (v := 0) hx hb dX13_packedBits_1 (by decide) ?_
  obtain ⟨σ1, h2, hf⟩ := ob_some hf
  refine p_fl_X13_85 hC hw h2 rfl rfl dX13_packedBits_2 (fun H locs hw => ?_)
  refine lv_aload_n hx hb dX13_packedBits_5 rfl (lv_at hl 0 rfl) ?_
  obtain ⟨_, h5, hf⟩ := ob_some hf
  obtain ⟨x3, h4, hf⟩ := ob_some hf
  refine gg_cVI (As := []) hC hw (X13_allBits_M l E D A h4) h5 rfl g_ml_X13_164 hd_X13_allBits (Nat.le_of_ble_eq_true rfl) (Nat.le_of_ble_eq_true rfl) hl.1 rfl (Nat.le_of_ble_eq_true rfl) dX13_packedBits_6 (fun H locs cells slots hw => ?_)
  cases hf
  exact hQ _ _ _ _ _ _ dX13_packedBits_9 rfl hw

def X13_packedBits_f (E : gE) (l0 : Nat) (σ : gS) : Option (Int32 × gS) := X13_packedBits E l0 σ
set_option maxRecDepth 100000 in
theorem X13_packedBits_M (l : Launch) (E : gE) (D : va_G) (A : Nat → Prop) {l0 : Nat} {σ : gS} {res : (Int32 × gS)} (hf : X13_packedBits_f E l0 σ = some res) : gCI l E D A yX13_packedBits cX13_packedBits 1 4 87 (some FieldType.int) [.ref l0] σ res := by
  refine gg_entI (own := RX13) (nm := "packedBits") (ty := FieldType.int) (by decide +kernel) rfl rfl (Nat.le_of_ble_eq_true rfl) rfl ?_
  intro p e R s m args below meth c Q ls hC hw hQ hl
  have hl : lv_has ls 1 [(0, .ref l0)] := hl
  exact X13_packedBits_W hC hQ hf hw hl

def X13_compressionRatio_12_s (E : gE) (r_12 : Nat → Int32 → Int32 → gS → Option (UInt64 × gS)) (l0 : Nat) (l1 : Int32) (l2 : Int32) (σ : gS) : Option (UInt64 × gS) :=
  ob (gfR σ l0 11 8) fun x1 =>
  ob (graI E 0 σ x1 (0 : Int32)) fun x3 =>
  if x3 ≤ l2 then
    ob (gfR σ l0 11 8) fun x5 =>
    ob (graI E 0 σ x5 (1 : Int32)) fun x7 =>
    ob (gfR σ l0 11 8) fun x9 =>
    ob (graI E 0 σ x9 (0 : Int32)) fun x11 =>
    ob (gfR σ l0 11 8) fun x13 =>
    ob (graI E 0 σ x13 (1 : Int32)) fun x15 =>
    if x15 = 0 then
      some ((0 : UInt64), σ)
    else
      ob (gddiv (FP.i2d (((16 : Int32) * x7) * x11)) (FP.i2d l1)) fun x17 =>
      some (x17, σ)
  else
    ob (gcl σ l0 11) fun _ =>
    ob (X13_sizeIn_f E σ l0 l2) fun x20 =>
    r_12 l0 (l1 + ((16 : Int32) * x20)) (l2 + 1) σ
set_option maxHeartbeats 4000000 in
set_option maxRecDepth 100000 in
theorem X13_compressionRatio_12_s_W {σ : gS} {l0 : Nat} {l1 : Int32} {l2 : Int32} {res : (UInt64 × gS)} {ls : Array Slot} (hC : gC E D A p R s m args meth c cX13_compressionRatio 3 RX13 "compressionRatio" 4 87) (hQ : gQD E D A p l e R s m args below meth c Q cX13_compressionRatio res) {r_12 : Nat → Int32 → Int32 → gS → Option (UInt64 × gS)} (h_12 : ∀ {l0 : Nat} {l1 : Int32} {l2 : Int32} {σ : gS} {H : Heap} {locs : List Loc} {cells slots : Nat} {ls : Array Slot}, r_12 l0 l1 l2 σ = some res → gW E D A s σ H locs → lv_has ls 3 [(0, .ref l0), (1, .int l1), (2, .int l2)] → W p l e R s m args below meth c H locs cells slots Q (F0 m 12 ls [])) (hf : X13_compressionRatio_12_s E r_12 l0 l1 l2 σ = some res) (hw : gW E D A s σ H locs) (hl : lv_has ls 3 [(0, .ref l0), (1, .int l1), (2, .int l2)]) : W p l e R s m args below meth c H locs cells slots Q (F0 m 12 ls []) := by
  have hC0 := hC
  obtain ⟨hx, hb, hml, hown, hts, -⟩ := hC0
  unfold X13_compressionRatio_12_s at hf
  refine lv_iload_n hx hb dX13_compressionRatio_12 rfl (lv_at hl 2 rfl) ?_
  refine lv_aload_n hx hb dX13_compressionRatio_13 rfl (lv_at hl 0 rfl) ?_
  obtain ⟨x1, h2, hf⟩ := ob_some hf
  refine rR_fl_X13_35 hC hw h2 dX13_compressionRatio_14 ?_
  refine lv_iconst (v := 0) hx hb dX13_compressionRatio_17 (by decide) ?_
  obtain ⟨x3, h4, hf⟩ := ob_some hf
  refine gg_aldI hC hw h4 dX13_compressionRatio_18 ?_
  refine lv_icmp_ge (tgt := 39) hx hb dX13_compressionRatio_19 (by decide) (fun c23 => ?_) (fun c23 => ?_)
  · replace hf := (if_pos c23).symm.trans hf
    refine lv_bipush (v := 16) hx hb dX13_compressionRatio_39 (by decide) ?_
    refine lv_aload_n hx hb dX13_compressionRatio_41 rfl (lv_at hl 0 rfl) ?_
    obtain ⟨x5, h6, hf⟩ := ob_some hf
    refine rR_fl_X13_35 hC hw h6 dX13_compressionRatio_42 ?_
    refine lv_iconst (v := 1) hx hb dX13_compressionRatio_45 (by decide) ?_
    obtain ⟨x7, h8, hf⟩ := ob_some hf
    refine gg_aldI hC hw h8 dX13_compressionRatio_46 ?_
    refine lv_imul hx hb dX13_compressionRatio_47 ?_
    refine lv_aload_n hx hb dX13_compressionRatio_48 rfl (lv_at hl 0 rfl) ?_
    obtain ⟨x9, h10, hf⟩ := ob_some hf
    refine rR_fl_X13_35 hC hw h10 dX13_compressionRatio_49 ?_
    refine lv_iconst (v := 0) hx hb dX13_compressionRatio_52 (by decide) ?_
    obtain ⟨x11, h12, hf⟩ := ob_some hf
    refine gg_aldI hC hw h12 dX13_compressionRatio_53 ?_
    refine lv_imul hx hb dX13_compressionRatio_54 ?_
    refine lv_istore_n (lv' := [(2, .int (((16 : Int32) * x7) * x11)), (0, .ref l0), (1, .int l1)]) hx hb dX13_compressionRatio_55 rfl hl (by decide) rfl (fun ls hl => ?_)
    refine lv_aload_n hx hb dX13_compressionRatio_56 rfl (lv_at hl 1 rfl) ?_
    obtain ⟨x13, h14, hf⟩ := ob_some hf
    refine rR_fl_X13_35 hC hw h14 dX13_compressionRatio_57 ?_
    refine lv_iconst (v := 1) hx hb dX13_compressionRatio_60 (by decide) ?_
    obtain ⟨x15, h16, hf⟩ := ob_some hf
    refine gg_aldI hC hw h16 dX13_compressionRatio_61 ?_
    refine lv_if_ne (tgt := 69) hx hb dX13_compressionRatio_62 (by decide) (fun c19 => ?_) (fun c19 => ?_)
    · replace hf := (if_neg c19).symm.trans hf
      refine lv_iload_n hx hb dX13_compressionRatio_69 rfl (lv_at hl 0 rfl) ?_
      refine lv_i2d hx hb dX13_compressionRatio_70 ?_
      refine lv_iload_n hx hb dX13_compressionRatio_71 rfl (lv_at hl 2 rfl) ?_
      refine lv_i2d hx hb dX13_compressionRatio_72 ?_
      obtain ⟨x17, h18, hf⟩ := ob_some hf
      obtain ⟨he, hn⟩ := gddiv_some h18
      refine lv_ddiv hx hb dX13_compressionRatio_73 hn ?_
      rw [← he]
      cases hf
      exact hQ _ _ _ _ _ _ dX13_compressionRatio_74 hw
    · replace hf := (if_pos c19).symm.trans hf
      refine lv_dconst0 hx hb dX13_compressionRatio_65 ?_
      refine lv_goto (tgt := 74) hx hb dX13_compressionRatio_66 (by decide) ?_
      cases hf
      exact hQ _ _ _ _ _ _ dX13_compressionRatio_74 hw
  · replace hf := (if_neg c23).symm.trans hf
    refine lv_iload_n hx hb dX13_compressionRatio_22 rfl (lv_at hl 1 rfl) ?_
    refine lv_bipush (v := 16) hx hb dX13_compressionRatio_23 (by decide) ?_
    refine lv_aload_n hx hb dX13_compressionRatio_25 rfl (lv_at hl 0 rfl) ?_
    refine lv_iload_n hx hb dX13_compressionRatio_26 rfl (lv_at hl 2 rfl) ?_
    obtain ⟨_, h22, hf⟩ := ob_some hf
    obtain ⟨x20, h21, hf⟩ := ob_some hf
    refine gg_cVI (As := [.int l2]) hC hw (X13_sizeIn_M l E D A h21) h22 rfl g_ml_X13_115 hd_X13_sizeIn (Nat.le_of_ble_eq_true rfl) (Nat.le_of_ble_eq_true rfl) hl.1 rfl (Nat.le_of_ble_eq_true rfl) dX13_compressionRatio_27 (fun H locs cells slots hw => ?_)
    refine lv_imul hx hb dX13_compressionRatio_30 ?_
    refine lv_iadd hx hb dX13_compressionRatio_31 ?_
    refine lv_istore_n (lv' := [(1, .int (l1 + ((16 : Int32) * x20))), (0, .ref l0), (2, .int l2)]) hx hb dX13_compressionRatio_32 rfl hl (by decide) rfl (fun ls hl => ?_)
    refine lv_iinc (v := (l2 + 1)) (lv' := [(2, .int (l2 + 1)), (1, .int (l1 + ((16 : Int32) * x20))), (0, .ref l0)]) hx hb dX13_compressionRatio_33 hl (k := 2) rfl rfl (by decide) rfl (fun ls hl => ?_)
    refine lv_goto (tgt := 12) hx hb dX13_compressionRatio_36 (by decide) ?_
    exact h_12 hf hw (lv_sub hl [2, 1, 0] rfl)
def X13_compressionRatio_12 (E : gE) : Nat → Nat → Int32 → Int32 → gS → Option (UInt64 × gS)
  | 0 => fun _ _ _ _ => none
  | n + 1 => X13_compressionRatio_12_s E (X13_compressionRatio_12 E n)
theorem X13_compressionRatio_12_W {res : (UInt64 × gS)} (hC : gC E D A p R s m args meth c cX13_compressionRatio 3 RX13 "compressionRatio" 4 87) (hQ : gQD E D A p l e R s m args below meth c Q cX13_compressionRatio res) : ∀ (n : Nat), ∀ {l0 : Nat} {l1 : Int32} {l2 : Int32} {σ : gS} {H : Heap} {locs : List Loc} {cells slots : Nat} {ls : Array Slot}, X13_compressionRatio_12 E n l0 l1 l2 σ = some res → gW E D A s σ H locs → lv_has ls 3 [(0, .ref l0), (1, .int l1), (2, .int l2)] → W p l e R s m args below meth c H locs cells slots Q (F0 m 12 ls []) := by
  intro n
  induction n with
  | zero =>
    intros
    rename_i hf _ _
    exact absurd hf (fun h => by cases (show (none : Option (UInt64 × gS)) = some res from h))
  | succ n ih =>
    intros
    rename_i hf hw hl
    exact X13_compressionRatio_12_s_W hC hQ ih hf hw hl

def X13_compressionRatio (E : gE) (l0 : Nat) (σ : gS) : Option (UInt64 × gS) :=
  ob (gpf E σ l0 11 10 (.int (0 : Int32))) fun σ24 =>
  ob (gcl σ24 l0 11) fun _ =>
  ob (X13_allBits_f E σ24 l0) fun x26 =>
  X13_compressionRatio_12 E (gN E) l0 x26 (0 : Int32) σ24
set_option maxHeartbeats 4000000 in
set_option maxRecDepth 100000 in
theorem X13_compressionRatio_W {σ : gS} {l0 : Nat} {res : (UInt64 × gS)} {ls : Array Slot} (hC : gC E D A p R s m args meth c cX13_compressionRatio 3 RX13 "compressionRatio" 4 87) (hQ : gQD E D A p l e R s m args below meth c Q cX13_compressionRatio res) (hf : X13_compressionRatio E l0 σ = some res) (hw : gW E D A s σ H locs) (hl : lv_has ls 3 [(0, .ref l0)]) : W p l e R s m args below meth c H locs cells slots Q (F0 m 0 ls []) := by
  have hC0 := hC
  obtain ⟨hx, hb, hml, hown, hts, -⟩ := hC0
  unfold X13_compressionRatio at hf
  refine lv_aload_n hx hb dX13_compressionRatio_0 rfl (lv_at hl 0 rfl) ?_
  refine lv_iconst (v := 0) hx hb dX13_compressionRatio_1 (by decide) ?_
  obtain ⟨σ24, h25, hf⟩ := ob_some hf
  refine p_fl_X13_85 hC hw h25 rfl rfl dX13_compressionRatio_2 (fun H locs hw => ?_)
  refine lv_aload_n hx hb dX13_compressionRatio_5 rfl (lv_at hl 0 rfl) ?_
  obtain ⟨_, h28, hf⟩ := ob_some hf
  obtain ⟨x26, h27, hf⟩ := ob_some hf
  refine gg_cVI (As := []) hC hw (X13_allBits_M l E D A h27) h28 rfl g_ml_X13_164 hd_X13_allBits (Nat.le_of_ble_eq_true rfl) (Nat.le_of_ble_eq_true rfl) hl.1 rfl (Nat.le_of_ble_eq_true rfl) dX13_compressionRatio_6 (fun H locs cells slots hw => ?_)
  refine lv_istore_n (lv' := [(1, .int x26), (0, .ref l0)]) hx hb dX13_compressionRatio_9 rfl hl (by decide) rfl (fun ls hl => ?_)
  refine lv_iconst (v := 0) hx hb dX13_compressionRatio_10 (by decide) ?_
  refine lv_istore_n (lv' := [(2, .int (0 : Int32)), (1, .int x26), (0, .ref l0)]) hx hb dX13_compressionRatio_11 rfl hl (by decide) rfl (fun ls hl => ?_)
  exact X13_compressionRatio_12_W hC hQ (gN E) hf hw (lv_sub hl [2, 1, 0] rfl)

def X13_compressionRatio_f (E : gE) (l0 : Nat) (σ : gS) : Option (UInt64 × gS) := X13_compressionRatio E l0 σ
set_option maxRecDepth 100000 in
theorem X13_compressionRatio_M (l : Launch) (E : gE) (D : va_G) (A : Nat → Prop) {l0 : Nat} {σ : gS} {res : (UInt64 × gS)} (hf : X13_compressionRatio_f E l0 σ = some res) : gCD l E D A yX13_compressionRatio cX13_compressionRatio 3 4 87 (some FieldType.double) [.ref l0] σ res := by
  refine gg_entD (own := RX13) (nm := "compressionRatio") (by decide +kernel) rfl rfl (Nat.le_of_ble_eq_true rfl) rfl ?_
  intro p e R s m args below meth c Q ls hC hw hQ hl
  have hl : lv_has ls 3 [(0, .ref l0)] := hl
  exact X13_compressionRatio_W hC hQ hf hw hl

def X13_countRuns_50 (E : gE) (σ : gS) (r_17 : Nat → Int32 → Int32 → Int32 → Option Int32) (l0 : Nat) (l1 : Int32) (l3 : Int32) (s0 : Int32) (s1 : Int32) : Option Int32 :=
  r_17 l0 l1 (s1 + s0) (l3 + 1)
set_option maxHeartbeats 4000000 in
set_option maxRecDepth 100000 in
theorem X13_countRuns_50_W {σ : gS} {l0 : Nat} {l1 : Int32} {l3 : Int32} {s0 : Int32} {s1 : Int32} {res : Int32} {ls : Array Slot} (hC : gC E D A p R s m args meth c cX13_countRuns 4 RX13 "countRuns" 2 43) (hQ : gQI E D A p l e R s m args below meth c Q cX13_countRuns FieldType.int (res, σ)) {r_17 : Nat → Int32 → Int32 → Int32 → Option Int32} (h_17 : ∀ {l0 : Nat} {l1 : Int32} {l2 : Int32} {l3 : Int32} {H : Heap} {locs : List Loc} {cells slots : Nat} {ls : Array Slot}, r_17 l0 l1 l2 l3 = some res → gW E D A s σ H locs → lv_has ls 4 [(0, .ref l0), (1, .int l1), (2, .int l2), (3, .int l3)] → W p l e R s m args below meth c H locs cells slots Q (F0 m 17 ls [])) (hf : X13_countRuns_50 E σ r_17 l0 l1 l3 s0 s1 = some res) (hw : gW E D A s σ H locs) (hl : lv_has ls 4 [(0, .ref l0), (1, .int l1), (3, .int l3)]) : W p l e R s m args below meth c H locs cells slots Q (F0 m 50 ls [.int s0, .int s1]) := by
  have hC0 := hC
  obtain ⟨hx, hb, hml, hown, hts, -⟩ := hC0
  unfold X13_countRuns_50 at hf
  refine lv_iadd hx hb dX13_countRuns_50 ?_
  refine lv_istore_n (lv' := [(2, .int (s1 + s0)), (0, .ref l0), (1, .int l1), (3, .int l3)]) hx hb dX13_countRuns_51 rfl hl (by decide) rfl (fun ls hl => ?_)
  refine lv_iinc (v := (l3 + 1)) (lv' := [(3, .int (l3 + 1)), (2, .int (s1 + s0)), (0, .ref l0), (1, .int l1)]) hx hb dX13_countRuns_52 hl (k := 3) rfl rfl (by decide) rfl (fun ls hl => ?_)
  refine lv_goto (tgt := 17) hx hb dX13_countRuns_55 (by decide) ?_
  exact h_17 hf hw (lv_sub hl [2, 3, 1, 0] rfl)

def X13_countRuns_17_s (E : gE) (σ : gS) (r_17 : Nat → Int32 → Int32 → Int32 → Option Int32) (l0 : Nat) (l1 : Int32) (l2 : Int32) (l3 : Int32) : Option Int32 :=
  ob (gfR σ l0 11 8) fun x1 =>
  ob (graI E 0 σ x1 (1 : Int32)) fun x3 =>
  if x3 ≤ l3 then
    some l2
  else
    ob (gcl σ l0 11) fun _ =>
    ob (X13_at_f E σ l0 l1 l3) fun x5 =>
    ob (gcl σ l0 11) fun _ =>
    ob (X13_at_f E σ l0 l1 (l3 - (1 : Int32))) fun x8 =>
    if x5 = x8 then
      X13_countRuns_50 E σ r_17 l0 l1 l3 (0 : Int32) l2
    else
      X13_countRuns_50 E σ r_17 l0 l1 l3 (1 : Int32) l2
set_option maxHeartbeats 4000000 in
set_option maxRecDepth 100000 in
theorem X13_countRuns_17_s_W {σ : gS} {l0 : Nat} {l1 : Int32} {l2 : Int32} {l3 : Int32} {res : Int32} {ls : Array Slot} (hC : gC E D A p R s m args meth c cX13_countRuns 4 RX13 "countRuns" 2 43) (hQ : gQI E D A p l e R s m args below meth c Q cX13_countRuns FieldType.int (res, σ)) {r_17 : Nat → Int32 → Int32 → Int32 → Option Int32} (h_17 : ∀ {l0 : Nat} {l1 : Int32} {l2 : Int32} {l3 : Int32} {H : Heap} {locs : List Loc} {cells slots : Nat} {ls : Array Slot}, r_17 l0 l1 l2 l3 = some res → gW E D A s σ H locs → lv_has ls 4 [(0, .ref l0), (1, .int l1), (2, .int l2), (3, .int l3)] → W p l e R s m args below meth c H locs cells slots Q (F0 m 17 ls [])) (hf : X13_countRuns_17_s E σ r_17 l0 l1 l2 l3 = some res) (hw : gW E D A s σ H locs) (hl : lv_has ls 4 [(0, .ref l0), (1, .int l1), (2, .int l2), (3, .int l3)]) : W p l e R s m args below meth c H locs cells slots Q (F0 m 17 ls []) := by
  have hC0 := hC
  obtain ⟨hx, hb, hml, hown, hts, -⟩ := hC0
  unfold X13_countRuns_17_s at hf
  refine lv_iload_n hx hb dX13_countRuns_17 rfl (lv_at hl 3 rfl) ?_
  refine lv_aload_n hx hb dX13_countRuns_18 rfl (lv_at hl 0 rfl) ?_
  obtain ⟨x1, h2, hf⟩ := ob_some hf
  refine rR_fl_X13_35 hC hw h2 dX13_countRuns_19 ?_
  refine lv_iconst (v := 1) hx hb dX13_countRuns_22 (by decide) ?_
  obtain ⟨x3, h4, hf⟩ := ob_some hf
  refine gg_aldI hC hw h4 dX13_countRuns_23 ?_
  refine lv_icmp_ge (tgt := 58) hx hb dX13_countRuns_24 (by decide) (fun c12 => ?_) (fun c12 => ?_)
  · replace hf := (if_pos c12).symm.trans hf
    refine lv_iload_n hx hb dX13_countRuns_58 rfl (lv_at hl 2 rfl) ?_
    cases hf
    exact hQ _ _ _ _ _ _ dX13_countRuns_59 rfl hw
  · replace hf := (if_neg c12).symm.trans hf
    refine lv_iload_n hx hb dX13_countRuns_27 rfl (lv_at hl 2 rfl) ?_
    refine lv_aload_n hx hb dX13_countRuns_28 rfl (lv_at hl 0 rfl) ?_
    refine lv_iload_n hx hb dX13_countRuns_29 rfl (lv_at hl 1 rfl) ?_
    refine lv_iload_n hx hb dX13_countRuns_30 rfl (lv_at hl 3 rfl) ?_
    obtain ⟨_, h7, hf⟩ := ob_some hf
    obtain ⟨x5, h6, hf⟩ := ob_some hf
    refine gg_cVI (As := [.int l1, .int l3]) hC hw (X13_at_M l E D A h6) h7 rfl g_ml_X13_118 hd_X13_at (Nat.le_of_ble_eq_true rfl) (Nat.le_of_ble_eq_true rfl) hl.1 rfl (Nat.le_of_ble_eq_true rfl) dX13_countRuns_31 (fun H locs cells slots hw => ?_)
    refine lv_aload_n hx hb dX13_countRuns_34 rfl (lv_at hl 0 rfl) ?_
    refine lv_iload_n hx hb dX13_countRuns_35 rfl (lv_at hl 1 rfl) ?_
    refine lv_iload_n hx hb dX13_countRuns_36 rfl (lv_at hl 3 rfl) ?_
    refine lv_iconst (v := 1) hx hb dX13_countRuns_37 (by decide) ?_
    refine lv_isub hx hb dX13_countRuns_38 ?_
    obtain ⟨_, h10, hf⟩ := ob_some hf
    obtain ⟨x8, h9, hf⟩ := ob_some hf
    refine gg_cVI (As := [.int l1, .int (l3 - (1 : Int32))]) hC hw (X13_at_M l E D A h9) h10 rfl g_ml_X13_118 hd_X13_at (Nat.le_of_ble_eq_true rfl) (Nat.le_of_ble_eq_true rfl) hl.1 rfl (Nat.le_of_ble_eq_true rfl) dX13_countRuns_39 (fun H locs cells slots hw => ?_)
    refine lv_icmp_eq (tgt := 49) hx hb dX13_countRuns_42 (by decide) (fun c11 => ?_) (fun c11 => ?_)
    · replace hf := (if_pos c11).symm.trans hf
      refine lv_iconst (v := 0) hx hb dX13_countRuns_49 (by decide) ?_
      exact X13_countRuns_50_W hC hQ h_17 hf hw (lv_sub hl [0, 1, 3] rfl)
    · replace hf := (if_neg c11).symm.trans hf
      refine lv_iconst (v := 1) hx hb dX13_countRuns_45 (by decide) ?_
      refine lv_goto (tgt := 50) hx hb dX13_countRuns_46 (by decide) ?_
      exact X13_countRuns_50_W hC hQ h_17 hf hw (lv_sub hl [0, 1, 3] rfl)
def X13_countRuns_17 (E : gE) (σ : gS) : Nat → Nat → Int32 → Int32 → Int32 → Option Int32
  | 0 => fun _ _ _ _ => none
  | n + 1 => X13_countRuns_17_s E σ (X13_countRuns_17 E σ n)
theorem X13_countRuns_17_W {σ : gS} {res : Int32} (hC : gC E D A p R s m args meth c cX13_countRuns 4 RX13 "countRuns" 2 43) (hQ : gQI E D A p l e R s m args below meth c Q cX13_countRuns FieldType.int (res, σ)) : ∀ (n : Nat), ∀ {l0 : Nat} {l1 : Int32} {l2 : Int32} {l3 : Int32} {H : Heap} {locs : List Loc} {cells slots : Nat} {ls : Array Slot}, X13_countRuns_17 E σ n l0 l1 l2 l3 = some res → gW E D A s σ H locs → lv_has ls 4 [(0, .ref l0), (1, .int l1), (2, .int l2), (3, .int l3)] → W p l e R s m args below meth c H locs cells slots Q (F0 m 17 ls []) := by
  intro n
  induction n with
  | zero =>
    intros
    rename_i hf _ _
    exact absurd hf (fun h => by cases (show (none : Option Int32) = some res from h))
  | succ n ih =>
    intros
    rename_i hf hw hl
    exact X13_countRuns_17_s_W hC hQ ih hf hw hl

def X13_countRuns_14 (E : gE) (σ : gS) (l0 : Nat) (l1 : Int32) (s0 : Int32) : Option Int32 :=
  X13_countRuns_17 E σ (gN E) l0 l1 s0 (1 : Int32)
set_option maxHeartbeats 4000000 in
set_option maxRecDepth 100000 in
theorem X13_countRuns_14_W {σ : gS} {l0 : Nat} {l1 : Int32} {s0 : Int32} {res : Int32} {ls : Array Slot} (hC : gC E D A p R s m args meth c cX13_countRuns 4 RX13 "countRuns" 2 43) (hQ : gQI E D A p l e R s m args below meth c Q cX13_countRuns FieldType.int (res, σ)) (hf : X13_countRuns_14 E σ l0 l1 s0 = some res) (hw : gW E D A s σ H locs) (hl : lv_has ls 4 [(0, .ref l0), (1, .int l1)]) : W p l e R s m args below meth c H locs cells slots Q (F0 m 14 ls [.int s0]) := by
  have hC0 := hC
  obtain ⟨hx, hb, hml, hown, hts, -⟩ := hC0
  unfold X13_countRuns_14 at hf
  refine lv_istore_n (lv' := [(2, .int s0), (0, .ref l0), (1, .int l1)]) hx hb dX13_countRuns_14 rfl hl (by decide) rfl (fun ls hl => ?_)
  refine lv_iconst (v := 1) hx hb dX13_countRuns_15 (by decide) ?_
  refine lv_istore_n (lv' := [(3, .int (1 : Int32)), (2, .int s0), (0, .ref l0), (1, .int l1)]) hx hb dX13_countRuns_16 rfl hl (by decide) rfl (fun ls hl => ?_)
  exact X13_countRuns_17_W hC hQ (gN E) hf hw (lv_sub hl [2, 3, 1, 0] rfl)

def X13_countRuns (E : gE) (σ : gS) (l0 : Nat) (l1 : Int32) : Option Int32 :=
  ob (gfR σ l0 11 8) fun x13 =>
  ob (graI E 0 σ x13 (1 : Int32)) fun x15 =>
  if x15 ≤ 0 then
    X13_countRuns_14 E σ l0 l1 (0 : Int32)
  else
    X13_countRuns_14 E σ l0 l1 (1 : Int32)
set_option maxHeartbeats 4000000 in
set_option maxRecDepth 100000 in
theorem X13_countRuns_W {σ : gS} {l0 : Nat} {l1 : Int32} {res : Int32} {ls : Array Slot} (hC : gC E D A p R s m args meth c cX13_countRuns 4 RX13 "countRuns" 2 43) (hQ : gQI E D A p l e R s m args below meth c Q cX13_countRuns FieldType.int (res, σ)) (hf : X13_countRuns E σ l0 l1 = some res) (hw : gW E D A s σ H locs) (hl : lv_has ls 4 [(0, .ref l0), (1, .int l1)]) : W p l e R s m args below meth c H locs cells slots Q (F0 m 0 ls []) := by
  have hC0 := hC
  obtain ⟨hx, hb, hml, hown, hts, -⟩ := hC0
  unfold X13_countRuns at hf
  refine lv_aload_n hx hb dX13_countRuns_0 rfl (lv_at hl 0 rfl) ?_
  obtain ⟨x13, h14, hf⟩ := ob_some hf
  refine rR_fl_X13_35 hC hw h14 dX13_countRuns_1 ?_
  refine lv_iconst (v := 1) hx hb dX13_countRuns_4 (by decide) ?_
  obtain ⟨x15, h16, hf⟩ := ob_some hf
  refine gg_aldI hC hw h16 dX13_countRuns_5 ?_
  refine lv_if_le (tgt := 13) hx hb dX13_countRuns_6 (by decide) (fun c17 => ?_) (fun c17 => ?_)
  · replace hf := (if_pos c17).symm.trans hf
    refine lv_iconst (v := 0) hx hb dX13_countRuns_13 (by decide) ?_
    exact X13_countRuns_14_W hC hQ hf hw (lv_sub hl [0, 1] rfl)
  · replace hf := (if_neg c17).symm.trans hf
    refine lv_iconst (v := 1) hx hb dX13_countRuns_9 (by decide) ?_
    refine lv_goto (tgt := 14) hx hb dX13_countRuns_10 (by decide) ?_
    exact X13_countRuns_14_W hC hQ hf hw (lv_sub hl [0, 1] rfl)

def X13_countRuns_f (E : gE) (σ : gS) (l0 : Nat) (l1 : Int32) : Option Int32 := X13_countRuns E σ l0 l1
set_option maxRecDepth 100000 in
theorem X13_countRuns_M (l : Launch) (E : gE) (D : va_G) (A : Nat → Prop) {l0 : Nat} {l1 : Int32} {σ : gS} {res : Int32} (hf : X13_countRuns_f E σ l0 l1 = some res) : gCI l E D A yX13_countRuns cX13_countRuns 4 2 43 (some FieldType.int) [.ref l0, .int l1] σ (res, σ) := by
  refine gg_entI (own := RX13) (nm := "countRuns") (ty := FieldType.int) (by decide +kernel) rfl rfl (Nat.le_of_ble_eq_true rfl) rfl ?_
  intro p e R s m args below meth c Q ls hC hw hQ hl
  have hl : lv_has ls 4 [(0, .ref l0), (1, .int l1)] := hl
  exact X13_countRuns_W hC hQ hf hw hl

def X13_runCount (E : gE) (l0 : Nat) (l1 : Int32) (σ : gS) : Option (Int32 × gS) :=
  ob (gcl σ l0 11) fun _ =>
  ob (X13_isColumn_f E σ l0 l1) fun x1 =>
  ob (gcl σ l0 11) fun _ =>
  ob (X13_lacks_f E l0 x1 σ) fun x4 =>
  if x4.1 = 0 then
    ob (gcl x4.2 l0 11) fun _ =>
    ob (X13_countRuns_f E x4.2 l0 l1) fun x7 =>
    some (x7, x4.2)
  else
    some ((0 : Int32), x4.2)
set_option maxHeartbeats 4000000 in
set_option maxRecDepth 100000 in
theorem X13_runCount_W {σ : gS} {l0 : Nat} {l1 : Int32} {res : (Int32 × gS)} {ls : Array Slot} (hC : gC E D A p R s m args meth c cX13_runCount 2 RX13 "runCount" 3 66) (hQ : gQI E D A p l e R s m args below meth c Q cX13_runCount FieldType.int res) (hf : X13_runCount E l0 l1 σ = some res) (hw : gW E D A s σ H locs) (hl : lv_has ls 2 [(0, .ref l0), (1, .int l1)]) : W p l e R s m args below meth c H locs cells slots Q (F0 m 0 ls []) := by
  have hC0 := hC
  obtain ⟨hx, hb, hml, hown, hts, -⟩ := hC0
  unfold X13_runCount at hf
  refine lv_aload_n hx hb dX13_runCount_0 rfl (lv_at hl 0 rfl) ?_
  refine lv_aload_n hx hb dX13_runCount_1 rfl (lv_at hl 0 rfl) ?_
  refine lv_iload_n hx hb dX13_runCount_2 rfl (lv_at hl 1 rfl) ?_
  obtain ⟨_, h3, hf⟩ := ob_some hf
  obtain ⟨x1, h2, hf⟩ := ob_some hf
  refine gg_cVI (As := [.int l1]) hC hw (X13_isColumn_M l E D A h2) h3 rfl g_ml_X13_112 hd_X13_isColumn (Nat.le_of_ble_eq_true rfl) (Nat.le_of_ble_eq_true rfl) hl.1 rfl (Nat.le_of_ble_eq_true rfl) dX13_runCount_3 (fun H locs cells slots hw => ?_)
  obtain ⟨_, h6, hf⟩ := ob_some hf
  obtain ⟨x4, h5, hf⟩ := ob_some hf
  refine gg_cVI (As := [.int x1]) hC hw (X13_lacks_M l E D A h5) h6 rfl g_ml_X13_88 hd_X13_lacks (Nat.le_of_ble_eq_true rfl) (Nat.le_of_ble_eq_true rfl) hl.1 rfl (Nat.le_of_ble_eq_true rfl) dX13_runCount_6 (fun H locs cells slots hw => ?_)
  refine lv_if_eq (tgt := 16) hx hb dX13_runCount_9 (by decide) (fun c10 => ?_) (fun c10 => ?_)
  · replace hf := (if_pos c10).symm.trans hf
    refine lv_aload_n hx hb dX13_runCount_16 rfl (lv_at hl 0 rfl) ?_
    refine lv_iload_n hx hb dX13_runCount_17 rfl (lv_at hl 1 rfl) ?_
    obtain ⟨_, h9, hf⟩ := ob_some hf
    obtain ⟨x7, h8, hf⟩ := ob_some hf
    refine gg_cVI (As := [.int l1]) hC hw (X13_countRuns_M l E D A h8) h9 rfl g_ml_X13_168 hd_X13_countRuns (Nat.le_of_ble_eq_true rfl) (Nat.le_of_ble_eq_true rfl) hl.1 rfl (Nat.le_of_ble_eq_true rfl) dX13_runCount_18 (fun H locs cells slots hw => ?_)
    cases hf
    exact hQ _ _ _ _ _ _ dX13_runCount_21 rfl hw
  · replace hf := (if_neg c10).symm.trans hf
    refine lv_iconst (v := 0) hx hb dX13_runCount_12 (by decide) ?_
    refine lv_goto (tgt := 21) hx hb dX13_runCount_13 (by decide) ?_
    cases hf
    exact hQ _ _ _ _ _ _ dX13_runCount_21 rfl hw

def X13_runCount_f (E : gE) (l0 : Nat) (l1 : Int32) (σ : gS) : Option (Int32 × gS) := X13_runCount E l0 l1 σ
set_option maxRecDepth 100000 in
theorem X13_runCount_M (l : Launch) (E : gE) (D : va_G) (A : Nat → Prop) {l0 : Nat} {l1 : Int32} {σ : gS} {res : (Int32 × gS)} (hf : X13_runCount_f E l0 l1 σ = some res) : gCI l E D A yX13_runCount cX13_runCount 2 3 66 (some FieldType.int) [.ref l0, .int l1] σ res := by
  refine gg_entI (own := RX13) (nm := "runCount") (ty := FieldType.int) (by decide +kernel) rfl rfl (Nat.le_of_ble_eq_true rfl) rfl ?_
  intro p e R s m args below meth c Q ls hC hw hQ hl
  have hl : lv_has ls 2 [(0, .ref l0), (1, .int l1)] := hl
  exact X13_runCount_W hC hQ hf hw hl

def X13_longestRun_86 (E : gE) (r_21 : Nat → Int32 → Int32 → Int32 → Int32 → gS → Option (Int32 × gS)) (l0 : Nat) (l1 : Int32) (l3 : Int32) (l4 : Int32) (s0 : Int32) (σ : gS) : Option (Int32 × gS) :=
  r_21 l0 l1 s0 l3 (l4 + 1) σ
set_option maxHeartbeats 4000000 in
set_option maxRecDepth 100000 in
theorem X13_longestRun_86_W {σ : gS} {l0 : Nat} {l1 : Int32} {l3 : Int32} {l4 : Int32} {s0 : Int32} {res : (Int32 × gS)} {ls : Array Slot} (hC : gC E D A p R s m args meth c cX13_longestRun 6 RX13 "longestRun" 2 43) (hQ : gQI E D A p l e R s m args below meth c Q cX13_longestRun FieldType.int res) {r_21 : Nat → Int32 → Int32 → Int32 → Int32 → gS → Option (Int32 × gS)} (h_21 : ∀ {l0 : Nat} {l1 : Int32} {l2 : Int32} {l3 : Int32} {l4 : Int32} {σ : gS} {H : Heap} {locs : List Loc} {cells slots : Nat} {ls : Array Slot}, r_21 l0 l1 l2 l3 l4 σ = some res → gW E D A s σ H locs → lv_has ls 6 [(0, .ref l0), (1, .int l1), (2, .int l2), (3, .int l3), (4, .int l4)] → W p l e R s m args below meth c H locs cells slots Q (F0 m 21 ls [])) (hf : X13_longestRun_86 E r_21 l0 l1 l3 l4 s0 σ = some res) (hw : gW E D A s σ H locs) (hl : lv_has ls 6 [(0, .ref l0), (1, .int l1), (3, .int l3), (4, .int l4)]) : W p l e R s m args below meth c H locs cells slots Q (F0 m 86 ls [.int s0]) := by
  have hC0 := hC
  obtain ⟨hx, hb, hml, hown, hts, -⟩ := hC0
  unfold X13_longestRun_86 at hf
  refine lv_istore_n (lv' := [(2, .int s0), (0, .ref l0), (1, .int l1), (3, .int l3), (4, .int l4)]) hx hb dX13_longestRun_86 rfl hl (by decide) rfl (fun ls hl => ?_)
  refine lv_iinc (v := (l4 + 1)) (lv' := [(4, .int (l4 + 1)), (2, .int s0), (0, .ref l0), (1, .int l1), (3, .int l3)]) hx hb dX13_longestRun_87 hl (k := 4) rfl rfl (by decide) rfl (fun ls hl => ?_)
  refine lv_goto (tgt := 21) hx hb dX13_longestRun_90 (by decide) ?_
  exact h_21 hf hw (lv_sub hl [2, 3, 1, 4, 0] rfl)

def X13_longestRun_75 (E : gE) (r_21 : Nat → Int32 → Int32 → Int32 → Int32 → gS → Option (Int32 × gS)) (l0 : Nat) (l1 : Int32) (l2 : Int32) (l4 : Int32) (s0 : Int32) (σ : gS) : Option (Int32 × gS) :=
  if s0 ≤ l2 then
    X13_longestRun_86 E r_21 l0 l1 s0 l4 l2 σ
  else
    X13_longestRun_86 E r_21 l0 l1 s0 l4 s0 σ
set_option maxHeartbeats 4000000 in
set_option maxRecDepth 100000 in
theorem X13_longestRun_75_W {σ : gS} {l0 : Nat} {l1 : Int32} {l2 : Int32} {l4 : Int32} {s0 : Int32} {res : (Int32 × gS)} {ls : Array Slot} (hC : gC E D A p R s m args meth c cX13_longestRun 6 RX13 "longestRun" 2 43) (hQ : gQI E D A p l e R s m args below meth c Q cX13_longestRun FieldType.int res) {r_21 : Nat → Int32 → Int32 → Int32 → Int32 → gS → Option (Int32 × gS)} (h_21 : ∀ {l0 : Nat} {l1 : Int32} {l2 : Int32} {l3 : Int32} {l4 : Int32} {σ : gS} {H : Heap} {locs : List Loc} {cells slots : Nat} {ls : Array Slot}, r_21 l0 l1 l2 l3 l4 σ = some res → gW E D A s σ H locs → lv_has ls 6 [(0, .ref l0), (1, .int l1), (2, .int l2), (3, .int l3), (4, .int l4)] → W p l e R s m args below meth c H locs cells slots Q (F0 m 21 ls [])) (hf : X13_longestRun_75 E r_21 l0 l1 l2 l4 s0 σ = some res) (hw : gW E D A s σ H locs) (hl : lv_has ls 6 [(0, .ref l0), (1, .int l1), (2, .int l2), (4, .int l4)]) : W p l e R s m args below meth c H locs cells slots Q (F0 m 75 ls [.int s0]) := by
  have hC0 := hC
  obtain ⟨hx, hb, hml, hown, hts, -⟩ := hC0
  unfold X13_longestRun_75 at hf
  refine lv_istore_n (lv' := [(3, .int s0), (0, .ref l0), (1, .int l1), (2, .int l2), (4, .int l4)]) hx hb dX13_longestRun_75 rfl hl (by decide) rfl (fun ls hl => ?_)
  refine lv_iload_n hx hb dX13_longestRun_76 rfl (lv_at hl 0 rfl) ?_
  refine lv_iload_n hx hb dX13_longestRun_77 rfl (lv_at hl 3 rfl) ?_
  refine lv_icmp_le (tgt := 85) hx hb dX13_longestRun_78 (by decide) (fun c1 => ?_) (fun c1 => ?_)
  · replace hf := (if_pos c1).symm.trans hf
    refine lv_iload_n hx hb dX13_longestRun_85 rfl (lv_at hl 3 rfl) ?_
    exact X13_longestRun_86_W hC hQ h_21 hf hw (lv_sub hl [1, 2, 0, 4] rfl)
  · replace hf := (if_neg c1).symm.trans hf
    refine lv_iload_n hx hb dX13_longestRun_81 rfl (lv_at hl 0 rfl) ?_
    refine lv_goto (tgt := 86) hx hb dX13_longestRun_82 (by decide) ?_
    exact X13_longestRun_86_W hC hQ h_21 hf hw (lv_sub hl [1, 2, 0, 4] rfl)

def X13_longestRun_61 (E : gE) (r_21 : Nat → Int32 → Int32 → Int32 → Int32 → gS → Option (Int32 × gS)) (l0 : Nat) (l1 : Int32) (l2 : Int32) (l3 : Int32) (l4 : Int32) (s0 : Int32) (σ : gS) : Option (Int32 × gS) :=
  if s0 = 0 then
    X13_longestRun_75 E r_21 l0 l1 l2 l4 (1 : Int32) σ
  else
    X13_longestRun_75 E r_21 l0 l1 l2 l4 (l3 + (1 : Int32)) σ
set_option maxHeartbeats 4000000 in
set_option maxRecDepth 100000 in
theorem X13_longestRun_61_W {σ : gS} {l0 : Nat} {l1 : Int32} {l2 : Int32} {l3 : Int32} {l4 : Int32} {s0 : Int32} {res : (Int32 × gS)} {ls : Array Slot} (hC : gC E D A p R s m args meth c cX13_longestRun 6 RX13 "longestRun" 2 43) (hQ : gQI E D A p l e R s m args below meth c Q cX13_longestRun FieldType.int res) {r_21 : Nat → Int32 → Int32 → Int32 → Int32 → gS → Option (Int32 × gS)} (h_21 : ∀ {l0 : Nat} {l1 : Int32} {l2 : Int32} {l3 : Int32} {l4 : Int32} {σ : gS} {H : Heap} {locs : List Loc} {cells slots : Nat} {ls : Array Slot}, r_21 l0 l1 l2 l3 l4 σ = some res → gW E D A s σ H locs → lv_has ls 6 [(0, .ref l0), (1, .int l1), (2, .int l2), (3, .int l3), (4, .int l4)] → W p l e R s m args below meth c H locs cells slots Q (F0 m 21 ls [])) (hf : X13_longestRun_61 E r_21 l0 l1 l2 l3 l4 s0 σ = some res) (hw : gW E D A s σ H locs) (hl : lv_has ls 6 [(0, .ref l0), (1, .int l1), (2, .int l2), (3, .int l3), (4, .int l4)]) : W p l e R s m args below meth c H locs cells slots Q (F0 m 61 ls [.int s0]) := by
  have hC0 := hC
  obtain ⟨hx, hb, hml, hown, hts, -⟩ := hC0
  unfold X13_longestRun_61 at hf
  refine lv_istore (lv' := [(5, .int s0), (0, .ref l0), (1, .int l1), (2, .int l2), (3, .int l3), (4, .int l4)]) hx hb dX13_longestRun_61 hl (by decide) rfl (fun ls hl => ?_)
  refine lv_iload hx hb dX13_longestRun_63 (lv_at hl 0 rfl) ?_
  refine lv_if_eq (tgt := 74) hx hb dX13_longestRun_65 (by decide) (fun c2 => ?_) (fun c2 => ?_)
  · replace hf := (if_pos c2).symm.trans hf
    refine lv_iconst (v := 1) hx hb dX13_longestRun_74 (by decide) ?_
    exact X13_longestRun_75_W hC hQ h_21 hf hw (lv_sub hl [1, 2, 3, 5] rfl)
  · replace hf := (if_neg c2).symm.trans hf
    refine lv_iload_n hx hb dX13_longestRun_68 rfl (lv_at hl 4 rfl) ?_
    refine lv_iconst (v := 1) hx hb dX13_longestRun_69 (by decide) ?_
    refine lv_iadd hx hb dX13_longestRun_70 ?_
    refine lv_goto (tgt := 75) hx hb dX13_longestRun_71 (by decide) ?_
    exact X13_longestRun_75_W hC hQ h_21 hf hw (lv_sub hl [1, 2, 3, 5] rfl)

def X13_longestRun_60 (E : gE) (r_21 : Nat → Int32 → Int32 → Int32 → Int32 → gS → Option (Int32 × gS)) (l0 : Nat) (l1 : Int32) (l2 : Int32) (l3 : Int32) (l4 : Int32) (σ : gS) : Option (Int32 × gS) :=
  X13_longestRun_61 E r_21 l0 l1 l2 l3 l4 (0 : Int32) σ
set_option maxHeartbeats 4000000 in
set_option maxRecDepth 100000 in
theorem X13_longestRun_60_W {σ : gS} {l0 : Nat} {l1 : Int32} {l2 : Int32} {l3 : Int32} {l4 : Int32} {res : (Int32 × gS)} {ls : Array Slot} (hC : gC E D A p R s m args meth c cX13_longestRun 6 RX13 "longestRun" 2 43) (hQ : gQI E D A p l e R s m args below meth c Q cX13_longestRun FieldType.int res) {r_21 : Nat → Int32 → Int32 → Int32 → Int32 → gS → Option (Int32 × gS)} (h_21 : ∀ {l0 : Nat} {l1 : Int32} {l2 : Int32} {l3 : Int32} {l4 : Int32} {σ : gS} {H : Heap} {locs : List Loc} {cells slots : Nat} {ls : Array Slot}, r_21 l0 l1 l2 l3 l4 σ = some res → gW E D A s σ H locs → lv_has ls 6 [(0, .ref l0), (1, .int l1), (2, .int l2), (3, .int l3), (4, .int l4)] → W p l e R s m args below meth c H locs cells slots Q (F0 m 21 ls [])) (hf : X13_longestRun_60 E r_21 l0 l1 l2 l3 l4 σ = some res) (hw : gW E D A s σ H locs) (hl : lv_has ls 6 [(0, .ref l0), (1, .int l1), (2, .int l2), (3, .int l3), (4, .int l4)]) : W p l e R s m args below meth c H locs cells slots Q (F0 m 60 ls []) := by
  have hC0 := hC
  obtain ⟨hx, hb, hml, hown, hts, -⟩ := hC0
  unfold X13_longestRun_60 at hf
  refine lv_iconst (v := 0) hx hb dX13_longestRun_60 (by decide) ?_
  exact X13_longestRun_61_W hC hQ h_21 hf hw (lv_sub hl [0, 1, 2, 3, 4] rfl)

def X13_longestRun_21_s (E : gE) (r_21 : Nat → Int32 → Int32 → Int32 → Int32 → gS → Option (Int32 × gS)) (l0 : Nat) (l1 : Int32) (l2 : Int32) (l3 : Int32) (l4 : Int32) (σ : gS) : Option (Int32 × gS) :=
  ob (gfR σ l0 11 8) fun x3 =>
  ob (graI E 0 σ x3 (1 : Int32)) fun x5 =>
  if x5 ≤ l4 then
    some (l2, σ)
  else
    if l4 ≤ 0 then
      X13_longestRun_60 E r_21 l0 l1 l2 l3 l4 σ
    else
      ob (gcl σ l0 11) fun _ =>
      ob (X13_at_f E σ l0 l1 l4) fun x7 =>
      ob (gcl σ l0 11) fun _ =>
      ob (X13_at_f E σ l0 l1 (l4 - (1 : Int32))) fun x10 =>
      if x7 = x10 then
        X13_longestRun_61 E r_21 l0 l1 l2 l3 l4 (1 : Int32) σ
      else
        X13_longestRun_60 E r_21 l0 l1 l2 l3 l4 σ
set_option maxHeartbeats 4000000 in
set_option maxRecDepth 100000 in
theorem X13_longestRun_21_s_W {σ : gS} {l0 : Nat} {l1 : Int32} {l2 : Int32} {l3 : Int32} {l4 : Int32} {res : (Int32 × gS)} {ls : Array Slot} (hC : gC E D A p R s m args meth c cX13_longestRun 6 RX13 "longestRun" 2 43) (hQ : gQI E D A p l e R s m args below meth c Q cX13_longestRun FieldType.int res) {r_21 : Nat → Int32 → Int32 → Int32 → Int32 → gS → Option (Int32 × gS)} (h_21 : ∀ {l0 : Nat} {l1 : Int32} {l2 : Int32} {l3 : Int32} {l4 : Int32} {σ : gS} {H : Heap} {locs : List Loc} {cells slots : Nat} {ls : Array Slot}, r_21 l0 l1 l2 l3 l4 σ = some res → gW E D A s σ H locs → lv_has ls 6 [(0, .ref l0), (1, .int l1), (2, .int l2), (3, .int l3), (4, .int l4)] → W p l e R s m args below meth c H locs cells slots Q (F0 m 21 ls [])) (hf : X13_longestRun_21_s E r_21 l0 l1 l2 l3 l4 σ = some res) (hw : gW E D A s σ H locs) (hl : lv_has ls 6 [(0, .ref l0), (1, .int l1), (2, .int l2), (3, .int l3), (4, .int l4)]) : W p l e R s m args below meth c H locs cells slots Q (F0 m 21 ls []) := by
  have hC0 := hC
  obtain ⟨hx, hb, hml, hown, hts, -⟩ := hC0
  unfold X13_longestRun_21_s at hf
  refine lv_iload hx hb dX13_longestRun_21 (lv_at hl 4 rfl) ?_
  refine lv_aload_n hx hb dX13_longestRun_23 rfl (lv_at hl 0 rfl) ?_
  obtain ⟨x3, h4, hf⟩ := ob_some hf
  refine rR_fl_X13_35 hC hw h4 dX13_longestRun_24 ?_
  refine lv_iconst (v := 1) hx hb dX13_longestRun_27 (by decide) ?_
  obtain ⟨x5, h6, hf⟩ := ob_some hf
  refine gg_aldI hC hw h6 dX13_longestRun_28 ?_
  refine lv_icmp_ge (tgt := 93) hx hb dX13_longestRun_29 (by decide) (fun c15 => ?_) (fun c15 => ?_)
  · replace hf := (if_pos c15).symm.trans hf
    refine lv_iload_n hx hb dX13_longestRun_93 rfl (lv_at hl 2 rfl) ?_
    cases hf
    exact hQ _ _ _ _ _ _ dX13_longestRun_94 rfl hw
  · replace hf := (if_neg c15).symm.trans hf
    refine lv_iload hx hb dX13_longestRun_32 (lv_at hl 4 rfl) ?_
    refine lv_if_le (tgt := 60) hx hb dX13_longestRun_34 (by decide) (fun c14 => ?_) (fun c14 => ?_)
    · replace hf := (if_pos c14).symm.trans hf
      exact X13_longestRun_60_W hC hQ h_21 hf hw (lv_sub hl [0, 1, 2, 3, 4] rfl)
    · replace hf := (if_neg c14).symm.trans hf
      refine lv_aload_n hx hb dX13_longestRun_37 rfl (lv_at hl 0 rfl) ?_
      refine lv_iload_n hx hb dX13_longestRun_38 rfl (lv_at hl 1 rfl) ?_
      refine lv_iload hx hb dX13_longestRun_39 (lv_at hl 4 rfl) ?_
      obtain ⟨_, h9, hf⟩ := ob_some hf
      obtain ⟨x7, h8, hf⟩ := ob_some hf
      refine gg_cVI (As := [.int l1, .int l4]) hC hw (X13_at_M l E D A h8) h9 rfl g_ml_X13_118 hd_X13_at (Nat.le_of_ble_eq_true rfl) (Nat.le_of_ble_eq_true rfl) hl.1 rfl (Nat.le_of_ble_eq_true rfl) dX13_longestRun_41 (fun H locs cells slots hw => ?_)
      refine lv_aload_n hx hb dX13_longestRun_44 rfl (lv_at hl 0 rfl) ?_
      refine lv_iload_n hx hb dX13_longestRun_45 rfl (lv_at hl 1 rfl) ?_
      refine lv_iload hx hb dX13_longestRun_46 (lv_at hl 4 rfl) ?_
      refine lv_iconst (v := 1) hx hb dX13_longestRun_48 (by decide) ?_
      refine lv_isub hx hb dX13_longestRun_49 ?_
      obtain ⟨_, h12, hf⟩ := ob_some hf
      obtain ⟨x10, h11, hf⟩ := ob_some hf
      refine gg_cVI (As := [.int l1, .int (l4 - (1 : Int32))]) hC hw (X13_at_M l E D A h11) h12 rfl g_ml_X13_118 hd_X13_at (Nat.le_of_ble_eq_true rfl) (Nat.le_of_ble_eq_true rfl) hl.1 rfl (Nat.le_of_ble_eq_true rfl) dX13_longestRun_50 (fun H locs cells slots hw => ?_)
      refine lv_icmp_ne (tgt := 60) hx hb dX13_longestRun_53 (by decide) (fun c13 => ?_) (fun c13 => ?_)
      · replace hf := (if_neg c13).symm.trans hf
        exact X13_longestRun_60_W hC hQ h_21 hf hw (lv_sub hl [0, 1, 2, 3, 4] rfl)
      · replace hf := (if_pos c13).symm.trans hf
        refine lv_iconst (v := 1) hx hb dX13_longestRun_56 (by decide) ?_
        refine lv_goto (tgt := 61) hx hb dX13_longestRun_57 (by decide) ?_
        exact X13_longestRun_61_W hC hQ h_21 hf hw (lv_sub hl [0, 1, 2, 3, 4] rfl)
def X13_longestRun_21 (E : gE) : Nat → Nat → Int32 → Int32 → Int32 → Int32 → gS → Option (Int32 × gS)
  | 0 => fun _ _ _ _ _ _ => none
  | n + 1 => X13_longestRun_21_s E (X13_longestRun_21 E n)
theorem X13_longestRun_21_W {res : (Int32 × gS)} (hC : gC E D A p R s m args meth c cX13_longestRun 6 RX13 "longestRun" 2 43) (hQ : gQI E D A p l e R s m args below meth c Q cX13_longestRun FieldType.int res) : ∀ (n : Nat), ∀ {l0 : Nat} {l1 : Int32} {l2 : Int32} {l3 : Int32} {l4 : Int32} {σ : gS} {H : Heap} {locs : List Loc} {cells slots : Nat} {ls : Array Slot}, X13_longestRun_21 E n l0 l1 l2 l3 l4 σ = some res → gW E D A s σ H locs → lv_has ls 6 [(0, .ref l0), (1, .int l1), (2, .int l2), (3, .int l3), (4, .int l4)] → W p l e R s m args below meth c H locs cells slots Q (F0 m 21 ls []) := by
  intro n
  induction n with
  | zero =>
    intros
    rename_i hf _ _
    exact absurd hf (fun h => by cases (show (none : Option (Int32 × gS)) = some res from h))
  | succ n ih =>
    intros
    rename_i hf hw hl
    exact X13_longestRun_21_s_W hC hQ ih hf hw hl

def X13_longestRun (E : gE) (l0 : Nat) (l1 : Int32) (σ : gS) : Option (Int32 × gS) :=
  ob (gcl σ l0 11) fun _ =>
  ob (X13_isColumn_f E σ l0 l1) fun x16 =>
  ob (gcl σ l0 11) fun _ =>
  ob (X13_lacks_f E l0 x16 σ) fun x19 =>
  if x19.1 = 0 then
    X13_longestRun_21 E (gN E) l0 l1 (0 : Int32) (0 : Int32) (0 : Int32) x19.2
  else
    some ((0 : Int32), x19.2)
set_option maxHeartbeats 4000000 in
set_option maxRecDepth 100000 in
theorem X13_longestRun_W {σ : gS} {l0 : Nat} {l1 : Int32} {res : (Int32 × gS)} {ls : Array Slot} (hC : gC E D A p R s m args meth c cX13_longestRun 6 RX13 "longestRun" 2 43) (hQ : gQI E D A p l e R s m args below meth c Q cX13_longestRun FieldType.int res) (hf : X13_longestRun E l0 l1 σ = some res) (hw : gW E D A s σ H locs) (hl : lv_has ls 6 [(0, .ref l0), (1, .int l1)]) : W p l e R s m args below meth c H locs cells slots Q (F0 m 0 ls []) := by
  have hC0 := hC
  obtain ⟨hx, hb, hml, hown, hts, -⟩ := hC0
  unfold X13_longestRun at hf
  refine lv_aload_n hx hb dX13_longestRun_0 rfl (lv_at hl 0 rfl) ?_
  refine lv_aload_n hx hb dX13_longestRun_1 rfl (lv_at hl 0 rfl) ?_
  refine lv_iload_n hx hb dX13_longestRun_2 rfl (lv_at hl 1 rfl) ?_
  obtain ⟨_, h18, hf⟩ := ob_some hf
  obtain ⟨x16, h17, hf⟩ := ob_some hf
  refine gg_cVI (As := [.int l1]) hC hw (X13_isColumn_M l E D A h17) h18 rfl g_ml_X13_112 hd_X13_isColumn (Nat.le_of_ble_eq_true rfl) (Nat.le_of_ble_eq_true rfl) hl.1 rfl (Nat.le_of_ble_eq_true rfl) dX13_longestRun_3 (fun H locs cells slots hw => ?_)
  obtain ⟨_, h21, hf⟩ := ob_some hf
  obtain ⟨x19, h20, hf⟩ := ob_some hf
  refine gg_cVI (As := [.int x16]) hC hw (X13_lacks_M l E D A h20) h21 rfl g_ml_X13_88 hd_X13_lacks (Nat.le_of_ble_eq_true rfl) (Nat.le_of_ble_eq_true rfl) hl.1 rfl (Nat.le_of_ble_eq_true rfl) dX13_longestRun_6 (fun H locs cells slots hw => ?_)
  refine lv_if_eq (tgt := 14) hx hb dX13_longestRun_9 (by decide) (fun c22 => ?_) (fun c22 => ?_)
  · replace hf := (if_pos c22).symm.trans hf
    refine lv_iconst (v := 0) hx hb dX13_longestRun_14 (by decide) ?_
    refine lv_istore_n (lv' := [(2, .int (0 : Int32)), (0, .ref l0), (1, .int l1)]) hx hb dX13_longestRun_15 rfl hl (by decide) rfl (fun ls hl => ?_)
    refine lv_iconst (v := 0) hx hb dX13_longestRun_16 (by decide) ?_
    refine lv_istore_n (lv' := [(3, .int (0 : Int32)), (2, .int (0 : Int32)), (0, .ref l0), (1, .int l1)]) hx hb dX13_longestRun_17 rfl hl (by decide) rfl (fun ls hl => ?_)
    refine lv_iconst (v := 0) hx hb dX13_longestRun_18 (by decide) ?_
    refine lv_istore (lv' := [(4, .int (0 : Int32)), (3, .int (0 : Int32)), (2, .int (0 : Int32)), (0, .ref l0), (1, .int l1)]) hx hb dX13_longestRun_19 hl (by decide) rfl (fun ls hl => ?_)
    exact X13_longestRun_21_W hC hQ (gN E) hf hw (lv_sub hl [3, 4, 2, 1, 0] rfl)
  · replace hf := (if_neg c22).symm.trans hf
    refine lv_iconst (v := 0) hx hb dX13_longestRun_12 (by decide) ?_
    cases hf
    exact hQ _ _ _ _ _ _ dX13_longestRun_13 rfl hw

def X13_longestRun_f (E : gE) (l0 : Nat) (l1 : Int32) (σ : gS) : Option (Int32 × gS) := X13_longestRun E l0 l1 σ
set_option maxRecDepth 100000 in
theorem X13_longestRun_M (l : Launch) (E : gE) (D : va_G) (A : Nat → Prop) {l0 : Nat} {l1 : Int32} {σ : gS} {res : (Int32 × gS)} (hf : X13_longestRun_f E l0 l1 σ = some res) : gCI l E D A yX13_longestRun cX13_longestRun 6 2 43 (some FieldType.int) [.ref l0, .int l1] σ res := by
  refine gg_entI (own := RX13) (nm := "longestRun") (ty := FieldType.int) (by decide +kernel) rfl rfl (Nat.le_of_ble_eq_true rfl) rfl ?_
  intro p e R s m args below meth c Q ls hC hw hQ hl
  have hl : lv_has ls 6 [(0, .ref l0), (1, .int l1)] := hl
  exact X13_longestRun_W hC hQ hf hw hl

def X13_isSorted_16_s (E : gE) (r_16 : Nat → Int32 → Int32 → gS → Option (Int32 × gS)) (l0 : Nat) (l1 : Int32) (l2 : Int32) (σ : gS) : Option (Int32 × gS) :=
  ob (gfR σ l0 11 8) fun x1 =>
  ob (graI E 0 σ x1 (1 : Int32)) fun x3 =>
  if x3 ≤ l2 then
    some ((1 : Int32), σ)
  else
    ob (gcl σ l0 11) fun _ =>
    ob (X13_at_f E σ l0 l1 l2) fun x5 =>
    ob (gcl σ l0 11) fun _ =>
    ob (X13_at_f E σ l0 l1 (l2 - (1 : Int32))) fun x8 =>
    if x8 ≤ x5 then
      r_16 l0 l1 (l2 + 1) σ
    else
      some ((0 : Int32), σ)
set_option maxHeartbeats 4000000 in
set_option maxRecDepth 100000 in
theorem X13_isSorted_16_s_W {σ : gS} {l0 : Nat} {l1 : Int32} {l2 : Int32} {res : (Int32 × gS)} {ls : Array Slot} (hC : gC E D A p R s m args meth c cX13_isSorted 3 RX13 "isSorted" 2 43) (hQ : gQI E D A p l e R s m args below meth c Q cX13_isSorted FieldType.boolean res) {r_16 : Nat → Int32 → Int32 → gS → Option (Int32 × gS)} (h_16 : ∀ {l0 : Nat} {l1 : Int32} {l2 : Int32} {σ : gS} {H : Heap} {locs : List Loc} {cells slots : Nat} {ls : Array Slot}, r_16 l0 l1 l2 σ = some res → gW E D A s σ H locs → lv_has ls 3 [(0, .ref l0), (1, .int l1), (2, .int l2)] → W p l e R s m args below meth c H locs cells slots Q (F0 m 16 ls [])) (hf : X13_isSorted_16_s E r_16 l0 l1 l2 σ = some res) (hw : gW E D A s σ H locs) (hl : lv_has ls 3 [(0, .ref l0), (1, .int l1), (2, .int l2)]) : W p l e R s m args below meth c H locs cells slots Q (F0 m 16 ls []) := by
  have hC0 := hC
  obtain ⟨hx, hb, hml, hown, hts, -⟩ := hC0
  unfold X13_isSorted_16_s at hf
  refine lv_iload_n hx hb dX13_isSorted_16 rfl (lv_at hl 2 rfl) ?_
  refine lv_aload_n hx hb dX13_isSorted_17 rfl (lv_at hl 0 rfl) ?_
  obtain ⟨x1, h2, hf⟩ := ob_some hf
  refine rR_fl_X13_35 hC hw h2 dX13_isSorted_18 ?_
  refine lv_iconst (v := 1) hx hb dX13_isSorted_21 (by decide) ?_
  obtain ⟨x3, h4, hf⟩ := ob_some hf
  refine gg_aldI hC hw h4 dX13_isSorted_22 ?_
  refine lv_icmp_ge (tgt := 51) hx hb dX13_isSorted_23 (by decide) (fun c12 => ?_) (fun c12 => ?_)
  · replace hf := (if_pos c12).symm.trans hf
    refine lv_iconst (v := 1) hx hb dX13_isSorted_51 (by decide) ?_
    cases hf
    exact hQ _ _ _ _ _ _ dX13_isSorted_52 gz1 hw
  · replace hf := (if_neg c12).symm.trans hf
    refine lv_aload_n hx hb dX13_isSorted_26 rfl (lv_at hl 0 rfl) ?_
    refine lv_iload_n hx hb dX13_isSorted_27 rfl (lv_at hl 1 rfl) ?_
    refine lv_iload_n hx hb dX13_isSorted_28 rfl (lv_at hl 2 rfl) ?_
    obtain ⟨_, h7, hf⟩ := ob_some hf
    obtain ⟨x5, h6, hf⟩ := ob_some hf
    refine gg_cVI (As := [.int l1, .int l2]) hC hw (X13_at_M l E D A h6) h7 rfl g_ml_X13_118 hd_X13_at (Nat.le_of_ble_eq_true rfl) (Nat.le_of_ble_eq_true rfl) hl.1 rfl (Nat.le_of_ble_eq_true rfl) dX13_isSorted_29 (fun H locs cells slots hw => ?_)
    refine lv_aload_n hx hb dX13_isSorted_32 rfl (lv_at hl 0 rfl) ?_
    refine lv_iload_n hx hb dX13_isSorted_33 rfl (lv_at hl 1 rfl) ?_
    refine lv_iload_n hx hb dX13_isSorted_34 rfl (lv_at hl 2 rfl) ?_
    refine lv_iconst (v := 1) hx hb dX13_isSorted_35 (by decide) ?_
    refine lv_isub hx hb dX13_isSorted_36 ?_
    obtain ⟨_, h10, hf⟩ := ob_some hf
    obtain ⟨x8, h9, hf⟩ := ob_some hf
    refine gg_cVI (As := [.int l1, .int (l2 - (1 : Int32))]) hC hw (X13_at_M l E D A h9) h10 rfl g_ml_X13_118 hd_X13_at (Nat.le_of_ble_eq_true rfl) (Nat.le_of_ble_eq_true rfl) hl.1 rfl (Nat.le_of_ble_eq_true rfl) dX13_isSorted_37 (fun H locs cells slots hw => ?_)
    refine lv_icmp_ge (tgt := 45) hx hb dX13_isSorted_40 (by decide) (fun c11 => ?_) (fun c11 => ?_)
    · replace hf := (if_pos c11).symm.trans hf
      refine lv_iinc (v := (l2 + 1)) (lv' := [(2, .int (l2 + 1)), (0, .ref l0), (1, .int l1)]) hx hb dX13_isSorted_45 hl (k := 2) rfl rfl (by decide) rfl (fun ls hl => ?_)
      refine lv_goto (tgt := 16) hx hb dX13_isSorted_48 (by decide) ?_
      exact h_16 hf hw (lv_sub hl [1, 2, 0] rfl)
    · replace hf := (if_neg c11).symm.trans hf
      refine lv_iconst (v := 0) hx hb dX13_isSorted_43 (by decide) ?_
      cases hf
      exact hQ _ _ _ _ _ _ dX13_isSorted_44 gz0 hw
def X13_isSorted_16 (E : gE) : Nat → Nat → Int32 → Int32 → gS → Option (Int32 × gS)
  | 0 => fun _ _ _ _ => none
  | n + 1 => X13_isSorted_16_s E (X13_isSorted_16 E n)
theorem X13_isSorted_16_W {res : (Int32 × gS)} (hC : gC E D A p R s m args meth c cX13_isSorted 3 RX13 "isSorted" 2 43) (hQ : gQI E D A p l e R s m args below meth c Q cX13_isSorted FieldType.boolean res) : ∀ (n : Nat), ∀ {l0 : Nat} {l1 : Int32} {l2 : Int32} {σ : gS} {H : Heap} {locs : List Loc} {cells slots : Nat} {ls : Array Slot}, X13_isSorted_16 E n l0 l1 l2 σ = some res → gW E D A s σ H locs → lv_has ls 3 [(0, .ref l0), (1, .int l1), (2, .int l2)] → W p l e R s m args below meth c H locs cells slots Q (F0 m 16 ls []) := by
  intro n
  induction n with
  | zero =>
    intros
    rename_i hf _ _
    exact absurd hf (fun h => by cases (show (none : Option (Int32 × gS)) = some res from h))
  | succ n ih =>
    intros
    rename_i hf hw hl
    exact X13_isSorted_16_s_W hC hQ ih hf hw hl

def X13_isSorted (E : gE) (l0 : Nat) (l1 : Int32) (σ : gS) : Option (Int32 × gS) :=
  ob (gcl σ l0 11) fun _ =>
  ob (X13_isColumn_f E σ l0 l1) fun x13 =>
  ob (gcl σ l0 11) fun _ =>
  ob (X13_lacks_f E l0 x13 σ) fun x16 =>
  if x16.1 = 0 then
    X13_isSorted_16 E (gN E) l0 l1 (1 : Int32) x16.2
  else
    some ((0 : Int32), x16.2)
set_option maxHeartbeats 4000000 in
set_option maxRecDepth 100000 in
theorem X13_isSorted_W {σ : gS} {l0 : Nat} {l1 : Int32} {res : (Int32 × gS)} {ls : Array Slot} (hC : gC E D A p R s m args meth c cX13_isSorted 3 RX13 "isSorted" 2 43) (hQ : gQI E D A p l e R s m args below meth c Q cX13_isSorted FieldType.boolean res) (hf : X13_isSorted E l0 l1 σ = some res) (hw : gW E D A s σ H locs) (hl : lv_has ls 3 [(0, .ref l0), (1, .int l1)]) : W p l e R s m args below meth c H locs cells slots Q (F0 m 0 ls []) := by
  have hC0 := hC
  obtain ⟨hx, hb, hml, hown, hts, -⟩ := hC0
  unfold X13_isSorted at hf
  refine lv_aload_n hx hb dX13_isSorted_0 rfl (lv_at hl 0 rfl) ?_
  refine lv_aload_n hx hb dX13_isSorted_1 rfl (lv_at hl 0 rfl) ?_
  refine lv_iload_n hx hb dX13_isSorted_2 rfl (lv_at hl 1 rfl) ?_
  obtain ⟨_, h15, hf⟩ := ob_some hf
  obtain ⟨x13, h14, hf⟩ := ob_some hf
  refine gg_cVI (As := [.int l1]) hC hw (X13_isColumn_M l E D A h14) h15 rfl g_ml_X13_112 hd_X13_isColumn (Nat.le_of_ble_eq_true rfl) (Nat.le_of_ble_eq_true rfl) hl.1 rfl (Nat.le_of_ble_eq_true rfl) dX13_isSorted_3 (fun H locs cells slots hw => ?_)
  obtain ⟨_, h18, hf⟩ := ob_some hf
  obtain ⟨x16, h17, hf⟩ := ob_some hf
  refine gg_cVI (As := [.int x13]) hC hw (X13_lacks_M l E D A h17) h18 rfl g_ml_X13_88 hd_X13_lacks (Nat.le_of_ble_eq_true rfl) (Nat.le_of_ble_eq_true rfl) hl.1 rfl (Nat.le_of_ble_eq_true rfl) dX13_isSorted_6 (fun H locs cells slots hw => ?_)
  refine lv_if_eq (tgt := 14) hx hb dX13_isSorted_9 (by decide) (fun c19 => ?_) (fun c19 => ?_)
  · replace hf := (if_pos c19).symm.trans hf
    refine lv_iconst (v := 1) hx hb dX13_isSorted_14 (by decide) ?_
    refine lv_istore_n (lv' := [(2, .int (1 : Int32)), (0, .ref l0), (1, .int l1)]) hx hb dX13_isSorted_15 rfl hl (by decide) rfl (fun ls hl => ?_)
    exact X13_isSorted_16_W hC hQ (gN E) hf hw (lv_sub hl [1, 2, 0] rfl)
  · replace hf := (if_neg c19).symm.trans hf
    refine lv_iconst (v := 0) hx hb dX13_isSorted_12 (by decide) ?_
    cases hf
    exact hQ _ _ _ _ _ _ dX13_isSorted_13 gz0 hw

def X13_isSorted_f (E : gE) (l0 : Nat) (l1 : Int32) (σ : gS) : Option (Int32 × gS) := X13_isSorted E l0 l1 σ
set_option maxRecDepth 100000 in
theorem X13_isSorted_M (l : Launch) (E : gE) (D : va_G) (A : Nat → Prop) {l0 : Nat} {l1 : Int32} {σ : gS} {res : (Int32 × gS)} (hf : X13_isSorted_f E l0 l1 σ = some res) : gCI l E D A yX13_isSorted cX13_isSorted 3 2 43 (some FieldType.boolean) [.ref l0, .int l1] σ res := by
  refine gg_entI (own := RX13) (nm := "isSorted") (ty := FieldType.boolean) (by decide +kernel) rfl rfl (Nat.le_of_ble_eq_true rfl) rfl ?_
  intro p e R s m args below meth c Q ls hC hw hQ hl
  have hl : lv_has ls 3 [(0, .ref l0), (1, .int l1)] := hl
  exact X13_isSorted_W hC hQ hf hw hl

def X13_of (E : gE) (σ : gS) (l0 : Nat) (l1 : Int32) (l2 : Int32) : Option Int32 :=
  ob (gfR σ l0 11 8) fun x1 =>
  ob (graI E 0 σ x1 (((3 : Int32) + ((3 : Int32) * l1)) + l2)) fun x3 =>
  some x3
set_option maxHeartbeats 4000000 in
set_option maxRecDepth 100000 in
theorem X13_of_W {σ : gS} {l0 : Nat} {l1 : Int32} {l2 : Int32} {res : Int32} {ls : Array Slot} (hC : gC E D A p R s m args meth c cX13_of 3 RX13 "of" 0 0) (hQ : gQI E D A p l e R s m args below meth c Q cX13_of FieldType.int (res, σ)) (hf : X13_of E σ l0 l1 l2 = some res) (hw : gW E D A s σ H locs) (hl : lv_has ls 3 [(0, .ref l0), (1, .int l1), (2, .int l2)]) : W p l e R s m args below meth c H locs cells slots Q (F0 m 0 ls []) := by
  have hC0 := hC
  obtain ⟨hx, hb, hml, hown, hts, -⟩ := hC0
  unfold X13_of at hf
  refine lv_aload_n hx hb dX13_of_0 rfl (lv_at hl 0 rfl) ?_
  obtain ⟨x1, h2, hf⟩ := ob_some hf
  refine rR_fl_X13_35 hC hw h2 dX13_of_1 ?_
  refine lv_iconst (v := 3) hx hb dX13_of_4 (by decide) ?_
  refine lv_iconst (v := 3) hx hb dX13_of_5 (by decide) ?_
  refine lv_iload_n hx hb dX13_of_6 rfl (lv_at hl 1 rfl) ?_
  refine lv_imul hx hb dX13_of_7 ?_
  refine lv_iadd hx hb dX13_of_8 ?_
  refine lv_iload_n hx hb dX13_of_9 rfl (lv_at hl 2 rfl) ?_
  refine lv_iadd hx hb dX13_of_10 ?_
  obtain ⟨x3, h4, hf⟩ := ob_some hf
  refine gg_aldI hC hw h4 dX13_of_11 ?_
  cases hf
  exact hQ _ _ _ _ _ _ dX13_of_12 rfl hw

def X13_of_f (E : gE) (σ : gS) (l0 : Nat) (l1 : Int32) (l2 : Int32) : Option Int32 := X13_of E σ l0 l1 l2
set_option maxRecDepth 100000 in
theorem X13_of_M (l : Launch) (E : gE) (D : va_G) (A : Nat → Prop) {l0 : Nat} {l1 : Int32} {l2 : Int32} {σ : gS} {res : Int32} (hf : X13_of_f E σ l0 l1 l2 = some res) : gCI l E D A yX13_of cX13_of 3 0 0 (some FieldType.int) [.ref l0, .int l1, .int l2] σ (res, σ) := by
  refine gg_entI (own := RX13) (nm := "of") (ty := FieldType.int) (by decide +kernel) rfl rfl (Nat.le_of_ble_eq_true rfl) rfl ?_
  intro p e R s m args below meth c Q ls hC hw hQ hl
  have hl : lv_has ls 3 [(0, .ref l0), (1, .int l1), (2, .int l2)] := hl
  exact X13_of_W hC hQ hf hw hl

def X13_told (E : gE) (l0 : Nat) (l1 : Int32) (l2 : Int32) (σ : gS) : Option (Int32 × gS) :=
  ob (gcl σ l0 11) fun _ =>
  ob (X13_isCondition_f E σ l0 l1) fun x1 =>
  ob (gcl σ l0 11) fun _ =>
  ob (X13_lacks_f E l0 x1 σ) fun x4 =>
  if x4.1 = 0 then
    ob (gcl x4.2 l0 11) fun _ =>
    ob (X13_of_f E x4.2 l0 l1 l2) fun x7 =>
    some (x7, x4.2)
  else
    some ((0 : Int32), x4.2)
set_option maxHeartbeats 4000000 in
set_option maxRecDepth 100000 in
theorem X13_told_W {σ : gS} {l0 : Nat} {l1 : Int32} {l2 : Int32} {res : (Int32 × gS)} {ls : Array Slot} (hC : gC E D A p R s m args meth c cX13_told 3 RX13 "told" 2 43) (hQ : gQI E D A p l e R s m args below meth c Q cX13_told FieldType.int res) (hf : X13_told E l0 l1 l2 σ = some res) (hw : gW E D A s σ H locs) (hl : lv_has ls 3 [(0, .ref l0), (1, .int l1), (2, .int l2)]) : W p l e R s m args below meth c H locs cells slots Q (F0 m 0 ls []) := by
  have hC0 := hC
  obtain ⟨hx, hb, hml, hown, hts, -⟩ := hC0
  unfold X13_told at hf
  refine lv_aload_n hx hb dX13_told_0 rfl (lv_at hl 0 rfl) ?_
  refine lv_aload_n hx hb dX13_told_1 rfl (lv_at hl 0 rfl) ?_
  refine lv_iload_n hx hb dX13_told_2 rfl (lv_at hl 1 rfl) ?_
  obtain ⟨_, h3, hf⟩ := ob_some hf
  obtain ⟨x1, h2, hf⟩ := ob_some hf
  refine gg_cVI (As := [.int l1]) hC hw (X13_isCondition_M l E D A h2) h3 rfl g_ml_X13_171 hd_X13_isCondition (Nat.le_of_ble_eq_true rfl) (Nat.le_of_ble_eq_true rfl) hl.1 rfl (Nat.le_of_ble_eq_true rfl) dX13_told_3 (fun H locs cells slots hw => ?_)
  obtain ⟨_, h6, hf⟩ := ob_some hf
  obtain ⟨x4, h5, hf⟩ := ob_some hf
  refine gg_cVI (As := [.int x1]) hC hw (X13_lacks_M l E D A h5) h6 rfl g_ml_X13_88 hd_X13_lacks (Nat.le_of_ble_eq_true rfl) (Nat.le_of_ble_eq_true rfl) hl.1 rfl (Nat.le_of_ble_eq_true rfl) dX13_told_6 (fun H locs cells slots hw => ?_)
  refine lv_if_eq (tgt := 16) hx hb dX13_told_9 (by decide) (fun c10 => ?_) (fun c10 => ?_)
  · replace hf := (if_pos c10).symm.trans hf
    refine lv_aload_n hx hb dX13_told_16 rfl (lv_at hl 0 rfl) ?_
    refine lv_iload_n hx hb dX13_told_17 rfl (lv_at hl 1 rfl) ?_
    refine lv_iload_n hx hb dX13_told_18 rfl (lv_at hl 2 rfl) ?_
    obtain ⟨_, h9, hf⟩ := ob_some hf
    obtain ⟨x7, h8, hf⟩ := ob_some hf
    refine gg_cVI (As := [.int l1, .int l2]) hC hw (X13_of_M l E D A h8) h9 rfl g_ml_X13_174 hd_X13_of (Nat.le_of_ble_eq_true rfl) (Nat.le_of_ble_eq_true rfl) hl.1 rfl (Nat.le_of_ble_eq_true rfl) dX13_told_19 (fun H locs cells slots hw => ?_)
    cases hf
    exact hQ _ _ _ _ _ _ dX13_told_22 rfl hw
  · replace hf := (if_neg c10).symm.trans hf
    refine lv_iconst (v := 0) hx hb dX13_told_12 (by decide) ?_
    refine lv_goto (tgt := 22) hx hb dX13_told_13 (by decide) ?_
    cases hf
    exact hQ _ _ _ _ _ _ dX13_told_22 rfl hw

def X13_told_f (E : gE) (l0 : Nat) (l1 : Int32) (l2 : Int32) (σ : gS) : Option (Int32 × gS) := X13_told E l0 l1 l2 σ
set_option maxRecDepth 100000 in
theorem X13_told_M (l : Launch) (E : gE) (D : va_G) (A : Nat → Prop) {l0 : Nat} {l1 : Int32} {l2 : Int32} {σ : gS} {res : (Int32 × gS)} (hf : X13_told_f E l0 l1 l2 σ = some res) : gCI l E D A yX13_told cX13_told 3 2 43 (some FieldType.int) [.ref l0, .int l1, .int l2] σ res := by
  refine gg_entI (own := RX13) (nm := "told") (ty := FieldType.int) (by decide +kernel) rfl rfl (Nat.le_of_ble_eq_true rfl) rfl ?_
  intro p e R s m args below meth c Q ls hC hw hQ hl
  have hl : lv_has ls 3 [(0, .ref l0), (1, .int l1), (2, .int l2)] := hl
  exact X13_told_W hC hQ hf hw hl

def X13_lower_65 (E : gE) (σ : gS) (s0 : Int32) (s1 : Int32) : Option Int32 :=
  some (s1 + s0)
set_option maxHeartbeats 4000000 in
set_option maxRecDepth 100000 in
theorem X13_lower_65_W {σ : gS} {s0 : Int32} {s1 : Int32} {res : Int32} {ls : Array Slot} (hC : gC E D A p R s m args meth c cX13_lower 6 RX13 "lower" 3 65) (hQ : gQI E D A p l e R s m args below meth c Q cX13_lower FieldType.int (res, σ)) (hf : X13_lower_65 E σ s0 s1 = some res) (hw : gW E D A s σ H locs) (hl : lv_has ls 6 []) : W p l e R s m args below meth c H locs cells slots Q (F0 m 65 ls [.int s0, .int s1]) := by
  have hC0 := hC
  obtain ⟨hx, hb, hml, hown, hts, -⟩ := hC0
  unfold X13_lower_65 at hf
  refine lv_iadd hx hb dX13_lower_65 ?_
  cases hf
  exact hQ _ _ _ _ _ _ dX13_lower_66 rfl hw

def X13_lower (E : gE) (σ : gS) (l0 : Nat) (l1 : Int32) : Option Int32 :=
  ob (gcl σ l0 11) fun _ =>
  ob (X13_of_f E σ l0 l1 (0 : Int32)) fun x1 =>
  ob (gcl σ l0 11) fun _ =>
  ob (X13_of_f E σ l0 l1 (1 : Int32)) fun x4 =>
  ob (gcl σ l0 11) fun _ =>
  ob (X13_less_f E σ l0 x1 x4) fun x7 =>
  ob (gcl σ l0 11) fun _ =>
  ob (X13_of_f E σ l0 l1 (2 : Int32)) fun x10 =>
  if 0 ≤ x10 then
    if x10 = 0 then
      some x7
    else
      ob (gcl σ l0 11) fun _ =>
      ob (X13_has_f E σ l0 x1 x4) fun x13 =>
      if x13 = 0 then
        X13_lower_65 E σ (0 : Int32) x7
      else
        X13_lower_65 E σ (1 : Int32) x7
  else
    some (0 : Int32)
set_option maxHeartbeats 4000000 in
set_option maxRecDepth 100000 in
theorem X13_lower_W {σ : gS} {l0 : Nat} {l1 : Int32} {res : Int32} {ls : Array Slot} (hC : gC E D A p R s m args meth c cX13_lower 6 RX13 "lower" 3 65) (hQ : gQI E D A p l e R s m args below meth c Q cX13_lower FieldType.int (res, σ)) (hf : X13_lower E σ l0 l1 = some res) (hw : gW E D A s σ H locs) (hl : lv_has ls 6 [(0, .ref l0), (1, .int l1)]) : W p l e R s m args below meth c H locs cells slots Q (F0 m 0 ls []) := by
  have hC0 := hC
  obtain ⟨hx, hb, hml, hown, hts, -⟩ := hC0
  unfold X13_lower at hf
  refine lv_aload_n hx hb dX13_lower_0 rfl (lv_at hl 0 rfl) ?_
  refine lv_iload_n hx hb dX13_lower_1 rfl (lv_at hl 1 rfl) ?_
  refine lv_iconst (v := 0) hx hb dX13_lower_2 (by decide) ?_
  obtain ⟨_, h3, hf⟩ := ob_some hf
  obtain ⟨x1, h2, hf⟩ := ob_some hf
  refine gg_cVI (As := [.int l1, .int (0 : Int32)]) hC hw (X13_of_M l E D A h2) h3 rfl g_ml_X13_174 hd_X13_of (Nat.le_of_ble_eq_true rfl) (Nat.le_of_ble_eq_true rfl) hl.1 rfl (Nat.le_of_ble_eq_true rfl) dX13_lower_3 (fun H locs cells slots hw => ?_)
  refine lv_istore_n (lv' := [(2, .int x1), (0, .ref l0), (1, .int l1)]) hx hb dX13_lower_6 rfl hl (by decide) rfl (fun ls hl => ?_)
  refine lv_aload_n hx hb dX13_lower_7 rfl (lv_at hl 1 rfl) ?_
  refine lv_iload_n hx hb dX13_lower_8 rfl (lv_at hl 2 rfl) ?_
  refine lv_iconst (v := 1) hx hb dX13_lower_9 (by decide) ?_
  obtain ⟨_, h6, hf⟩ := ob_some hf
  obtain ⟨x4, h5, hf⟩ := ob_some hf
  refine gg_cVI (As := [.int l1, .int (1 : Int32)]) hC hw (X13_of_M l E D A h5) h6 rfl g_ml_X13_174 hd_X13_of (Nat.le_of_ble_eq_true rfl) (Nat.le_of_ble_eq_true rfl) hl.1 rfl (Nat.le_of_ble_eq_true rfl) dX13_lower_10 (fun H locs cells slots hw => ?_)
  refine lv_istore_n (lv' := [(3, .int x4), (2, .int x1), (0, .ref l0), (1, .int l1)]) hx hb dX13_lower_13 rfl hl (by decide) rfl (fun ls hl => ?_)
  refine lv_aload_n hx hb dX13_lower_14 rfl (lv_at hl 2 rfl) ?_
  refine lv_iload_n hx hb dX13_lower_15 rfl (lv_at hl 1 rfl) ?_
  refine lv_iload_n hx hb dX13_lower_16 rfl (lv_at hl 0 rfl) ?_
  obtain ⟨_, h9, hf⟩ := ob_some hf
  obtain ⟨x7, h8, hf⟩ := ob_some hf
  refine gg_cVI (As := [.int x1, .int x4]) hC hw (X13_less_M l E D A h8) h9 rfl g_ml_X13_121 hd_X13_less (Nat.le_of_ble_eq_true rfl) (Nat.le_of_ble_eq_true rfl) hl.1 rfl (Nat.le_of_ble_eq_true rfl) dX13_lower_17 (fun H locs cells slots hw => ?_)
  refine lv_istore (lv' := [(4, .int x7), (3, .int x4), (2, .int x1), (0, .ref l0), (1, .int l1)]) hx hb dX13_lower_20 hl (by decide) rfl (fun ls hl => ?_)
  refine lv_aload_n hx hb dX13_lower_22 rfl (lv_at hl 3 rfl) ?_
  refine lv_iload_n hx hb dX13_lower_23 rfl (lv_at hl 4 rfl) ?_
  refine lv_iconst (v := 2) hx hb dX13_lower_24 (by decide) ?_
  obtain ⟨_, h12, hf⟩ := ob_some hf
  obtain ⟨x10, h11, hf⟩ := ob_some hf
  refine gg_cVI (As := [.int l1, .int (2 : Int32)]) hC hw (X13_of_M l E D A h11) h12 rfl g_ml_X13_174 hd_X13_of (Nat.le_of_ble_eq_true rfl) (Nat.le_of_ble_eq_true rfl) hl.1 rfl (Nat.le_of_ble_eq_true rfl) dX13_lower_25 (fun H locs cells slots hw => ?_)
  refine lv_istore (lv' := [(5, .int x10), (4, .int x7), (3, .int x4), (2, .int x1), (0, .ref l0), (1, .int l1)]) hx hb dX13_lower_28 hl (by decide) rfl (fun ls hl => ?_)
  refine lv_iload hx hb dX13_lower_30 (lv_at hl 0 rfl) ?_
  refine lv_if_ge (tgt := 39) hx hb dX13_lower_32 (by decide) (fun c18 => ?_) (fun c18 => ?_)
  · replace hf := (if_pos c18).symm.trans hf
    refine lv_iload hx hb dX13_lower_39 (lv_at hl 0 rfl) ?_
    refine lv_if_ne (tgt := 49) hx hb dX13_lower_41 (by decide) (fun c17 => ?_) (fun c17 => ?_)
    · replace hf := (if_neg c17).symm.trans hf
      refine lv_iload hx hb dX13_lower_49 (lv_at hl 1 rfl) ?_
      refine lv_aload_n hx hb dX13_lower_51 rfl (lv_at hl 4 rfl) ?_
      refine lv_iload_n hx hb dX13_lower_52 rfl (lv_at hl 3 rfl) ?_
      refine lv_iload_n hx hb dX13_lower_53 rfl (lv_at hl 2 rfl) ?_
      obtain ⟨_, h15, hf⟩ := ob_some hf
      obtain ⟨x13, h14, hf⟩ := ob_some hf
      refine gg_cVI (As := [.int x1, .int x4]) hC hw (X13_has_M l E D A h14) h15 rfl g_ml_X13_142 hd_X13_has (Nat.le_of_ble_eq_true rfl) (Nat.le_of_ble_eq_true rfl) hl.1 rfl (Nat.le_of_ble_eq_true rfl) dX13_lower_54 (fun H locs cells slots hw => ?_)
      refine lv_if_eq (tgt := 64) hx hb dX13_lower_57 (by decide) (fun c16 => ?_) (fun c16 => ?_)
      · replace hf := (if_pos c16).symm.trans hf
        refine lv_iconst (v := 0) hx hb dX13_lower_64 (by decide) ?_
        exact X13_lower_65_W hC hQ hf hw (lv_sub hl [] rfl)
      · replace hf := (if_neg c16).symm.trans hf
        refine lv_iconst (v := 1) hx hb dX13_lower_60 (by decide) ?_
        refine lv_goto (tgt := 65) hx hb dX13_lower_61 (by decide) ?_
        exact X13_lower_65_W hC hQ hf hw (lv_sub hl [] rfl)
    · replace hf := (if_pos c17).symm.trans hf
      refine lv_iload hx hb dX13_lower_44 (lv_at hl 1 rfl) ?_
      refine lv_goto (tgt := 66) hx hb dX13_lower_46 (by decide) ?_
      cases hf
      exact hQ _ _ _ _ _ _ dX13_lower_66 rfl hw
  · replace hf := (if_neg c18).symm.trans hf
    refine lv_iconst (v := 0) hx hb dX13_lower_35 (by decide) ?_
    refine lv_goto (tgt := 66) hx hb dX13_lower_36 (by decide) ?_
    cases hf
    exact hQ _ _ _ _ _ _ dX13_lower_66 rfl hw

def X13_lower_f (E : gE) (σ : gS) (l0 : Nat) (l1 : Int32) : Option Int32 := X13_lower E σ l0 l1
set_option maxRecDepth 100000 in
theorem X13_lower_M (l : Launch) (E : gE) (D : va_G) (A : Nat → Prop) {l0 : Nat} {l1 : Int32} {σ : gS} {res : Int32} (hf : X13_lower_f E σ l0 l1 = some res) : gCI l E D A yX13_lower cX13_lower 6 3 65 (some FieldType.int) [.ref l0, .int l1] σ (res, σ) := by
  refine gg_entI (own := RX13) (nm := "lower") (ty := FieldType.int) (by decide +kernel) rfl rfl (Nat.le_of_ble_eq_true rfl) rfl ?_
  intro p e R s m args below meth c Q ls hC hw hQ hl
  have hl : lv_has ls 6 [(0, .ref l0), (1, .int l1)] := hl
  exact X13_lower_W hC hQ hf hw hl

def X13_upper_58 (E : gE) (σ : gS) (s0 : Int32) (s1 : Int32) : Option Int32 :=
  some (s1 + s0)
set_option maxHeartbeats 4000000 in
set_option maxRecDepth 100000 in
theorem X13_upper_58_W {σ : gS} {s0 : Int32} {s1 : Int32} {res : Int32} {ls : Array Slot} (hC : gC E D A p R s m args meth c cX13_upper 5 RX13 "upper" 3 65) (hQ : gQI E D A p l e R s m args below meth c Q cX13_upper FieldType.int (res, σ)) (hf : X13_upper_58 E σ s0 s1 = some res) (hw : gW E D A s σ H locs) (hl : lv_has ls 5 []) : W p l e R s m args below meth c H locs cells slots Q (F0 m 58 ls [.int s0, .int s1]) := by
  have hC0 := hC
  obtain ⟨hx, hb, hml, hown, hts, -⟩ := hC0
  unfold X13_upper_58 at hf
  refine lv_iadd hx hb dX13_upper_58 ?_
  cases hf
  exact hQ _ _ _ _ _ _ dX13_upper_59 rfl hw

def X13_upper_57 (E : gE) (σ : gS) (s0 : Int32) : Option Int32 :=
  X13_upper_58 E σ (0 : Int32) s0
set_option maxHeartbeats 4000000 in
set_option maxRecDepth 100000 in
theorem X13_upper_57_W {σ : gS} {s0 : Int32} {res : Int32} {ls : Array Slot} (hC : gC E D A p R s m args meth c cX13_upper 5 RX13 "upper" 3 65) (hQ : gQI E D A p l e R s m args below meth c Q cX13_upper FieldType.int (res, σ)) (hf : X13_upper_57 E σ s0 = some res) (hw : gW E D A s σ H locs) (hl : lv_has ls 5 []) : W p l e R s m args below meth c H locs cells slots Q (F0 m 57 ls [.int s0]) := by
  have hC0 := hC
  obtain ⟨hx, hb, hml, hown, hts, -⟩ := hC0
  unfold X13_upper_57 at hf
  refine lv_iconst (v := 0) hx hb dX13_upper_57 (by decide) ?_
  exact X13_upper_58_W hC hQ hf hw (lv_sub hl [] rfl)

def X13_upper (E : gE) (σ : gS) (l0 : Nat) (l1 : Int32) : Option Int32 :=
  ob (gcl σ l0 11) fun _ =>
  ob (X13_of_f E σ l0 l1 (0 : Int32)) fun x1 =>
  ob (gcl σ l0 11) fun _ =>
  ob (X13_of_f E σ l0 l1 (1 : Int32)) fun x4 =>
  ob (gcl σ l0 11) fun _ =>
  ob (X13_of_f E σ l0 l1 (2 : Int32)) fun x7 =>
  if x7 ≤ 0 then
    ob (gcl σ l0 11) fun _ =>
    ob (X13_less_f E σ l0 x1 x4) fun x10 =>
    if x7 = 0 then
      ob (gcl σ l0 11) fun _ =>
      ob (X13_has_f E σ l0 x1 x4) fun x13 =>
      if x13 = 0 then
        X13_upper_57 E σ x10
      else
        X13_upper_58 E σ (1 : Int32) x10
    else
      X13_upper_57 E σ x10
  else
    ob (gcl σ l0 11) fun _ =>
    ob (X13_sizeIn_f E σ l0 x1) fun x18 =>
    some x18
set_option maxHeartbeats 4000000 in
set_option maxRecDepth 100000 in
theorem X13_upper_W {σ : gS} {l0 : Nat} {l1 : Int32} {res : Int32} {ls : Array Slot} (hC : gC E D A p R s m args meth c cX13_upper 5 RX13 "upper" 3 65) (hQ : gQI E D A p l e R s m args below meth c Q cX13_upper FieldType.int (res, σ)) (hf : X13_upper E σ l0 l1 = some res) (hw : gW E D A s σ H locs) (hl : lv_has ls 5 [(0, .ref l0), (1, .int l1)]) : W p l e R s m args below meth c H locs cells slots Q (F0 m 0 ls []) := by
  have hC0 := hC
  obtain ⟨hx, hb, hml, hown, hts, -⟩ := hC0
  unfold X13_upper at hf
  refine lv_aload_n hx hb dX13_upper_0 rfl (lv_at hl 0 rfl) ?_
  refine lv_iload_n hx hb dX13_upper_1 rfl (lv_at hl 1 rfl) ?_
  refine lv_iconst (v := 0) hx hb dX13_upper_2 (by decide) ?_
  obtain ⟨_, h3, hf⟩ := ob_some hf
  obtain ⟨x1, h2, hf⟩ := ob_some hf
  refine gg_cVI (As := [.int l1, .int (0 : Int32)]) hC hw (X13_of_M l E D A h2) h3 rfl g_ml_X13_174 hd_X13_of (Nat.le_of_ble_eq_true rfl) (Nat.le_of_ble_eq_true rfl) hl.1 rfl (Nat.le_of_ble_eq_true rfl) dX13_upper_3 (fun H locs cells slots hw => ?_)
  refine lv_istore_n (lv' := [(2, .int x1), (0, .ref l0), (1, .int l1)]) hx hb dX13_upper_6 rfl hl (by decide) rfl (fun ls hl => ?_)
  refine lv_aload_n hx hb dX13_upper_7 rfl (lv_at hl 1 rfl) ?_
  refine lv_iload_n hx hb dX13_upper_8 rfl (lv_at hl 2 rfl) ?_
  refine lv_iconst (v := 1) hx hb dX13_upper_9 (by decide) ?_
  obtain ⟨_, h6, hf⟩ := ob_some hf
  obtain ⟨x4, h5, hf⟩ := ob_some hf
  refine gg_cVI (As := [.int l1, .int (1 : Int32)]) hC hw (X13_of_M l E D A h5) h6 rfl g_ml_X13_174 hd_X13_of (Nat.le_of_ble_eq_true rfl) (Nat.le_of_ble_eq_true rfl) hl.1 rfl (Nat.le_of_ble_eq_true rfl) dX13_upper_10 (fun H locs cells slots hw => ?_)
  refine lv_istore_n (lv' := [(3, .int x4), (2, .int x1), (0, .ref l0), (1, .int l1)]) hx hb dX13_upper_13 rfl hl (by decide) rfl (fun ls hl => ?_)
  refine lv_aload_n hx hb dX13_upper_14 rfl (lv_at hl 2 rfl) ?_
  refine lv_iload_n hx hb dX13_upper_15 rfl (lv_at hl 3 rfl) ?_
  refine lv_iconst (v := 2) hx hb dX13_upper_16 (by decide) ?_
  obtain ⟨_, h9, hf⟩ := ob_some hf
  obtain ⟨x7, h8, hf⟩ := ob_some hf
  refine gg_cVI (As := [.int l1, .int (2 : Int32)]) hC hw (X13_of_M l E D A h8) h9 rfl g_ml_X13_174 hd_X13_of (Nat.le_of_ble_eq_true rfl) (Nat.le_of_ble_eq_true rfl) hl.1 rfl (Nat.le_of_ble_eq_true rfl) dX13_upper_17 (fun H locs cells slots hw => ?_)
  refine lv_istore (lv' := [(4, .int x7), (3, .int x4), (2, .int x1), (0, .ref l0), (1, .int l1)]) hx hb dX13_upper_20 hl (by decide) rfl (fun ls hl => ?_)
  refine lv_iload hx hb dX13_upper_22 (lv_at hl 0 rfl) ?_
  refine lv_if_le (tgt := 33) hx hb dX13_upper_24 (by decide) (fun c21 => ?_) (fun c21 => ?_)
  · replace hf := (if_pos c21).symm.trans hf
    refine lv_aload_n hx hb dX13_upper_33 rfl (lv_at hl 3 rfl) ?_
    refine lv_iload_n hx hb dX13_upper_34 rfl (lv_at hl 2 rfl) ?_
    refine lv_iload_n hx hb dX13_upper_35 rfl (lv_at hl 1 rfl) ?_
    obtain ⟨_, h12, hf⟩ := ob_some hf
    obtain ⟨x10, h11, hf⟩ := ob_some hf
    refine gg_cVI (As := [.int x1, .int x4]) hC hw (X13_less_M l E D A h11) h12 rfl g_ml_X13_121 hd_X13_less (Nat.le_of_ble_eq_true rfl) (Nat.le_of_ble_eq_true rfl) hl.1 rfl (Nat.le_of_ble_eq_true rfl) dX13_upper_36 (fun H locs cells slots hw => ?_)
    refine lv_iload hx hb dX13_upper_39 (lv_at hl 0 rfl) ?_
    refine lv_if_ne (tgt := 57) hx hb dX13_upper_41 (by decide) (fun c17 => ?_) (fun c17 => ?_)
    · replace hf := (if_neg c17).symm.trans hf
      exact X13_upper_57_W hC hQ hf hw (lv_sub hl [] rfl)
    · replace hf := (if_pos c17).symm.trans hf
      refine lv_aload_n hx hb dX13_upper_44 rfl (lv_at hl 3 rfl) ?_
      refine lv_iload_n hx hb dX13_upper_45 rfl (lv_at hl 2 rfl) ?_
      refine lv_iload_n hx hb dX13_upper_46 rfl (lv_at hl 1 rfl) ?_
      obtain ⟨_, h15, hf⟩ := ob_some hf
      obtain ⟨x13, h14, hf⟩ := ob_some hf
      refine gg_cVI (As := [.int x1, .int x4]) hC hw (X13_has_M l E D A h14) h15 rfl g_ml_X13_142 hd_X13_has (Nat.le_of_ble_eq_true rfl) (Nat.le_of_ble_eq_true rfl) hl.1 rfl (Nat.le_of_ble_eq_true rfl) dX13_upper_47 (fun H locs cells slots hw => ?_)
      refine lv_if_eq (tgt := 57) hx hb dX13_upper_50 (by decide) (fun c16 => ?_) (fun c16 => ?_)
      · replace hf := (if_pos c16).symm.trans hf
        exact X13_upper_57_W hC hQ hf hw (lv_sub hl [] rfl)
      · replace hf := (if_neg c16).symm.trans hf
        refine lv_iconst (v := 1) hx hb dX13_upper_53 (by decide) ?_
        refine lv_goto (tgt := 58) hx hb dX13_upper_54 (by decide) ?_
        exact X13_upper_58_W hC hQ hf hw (lv_sub hl [] rfl)
  · replace hf := (if_neg c21).symm.trans hf
    refine lv_aload_n hx hb dX13_upper_27 rfl (lv_at hl 3 rfl) ?_
    refine lv_iload_n hx hb dX13_upper_28 rfl (lv_at hl 2 rfl) ?_
    obtain ⟨_, h20, hf⟩ := ob_some hf
    obtain ⟨x18, h19, hf⟩ := ob_some hf
    refine gg_cVI (As := [.int x1]) hC hw (X13_sizeIn_M l E D A h19) h20 rfl g_ml_X13_115 hd_X13_sizeIn (Nat.le_of_ble_eq_true rfl) (Nat.le_of_ble_eq_true rfl) hl.1 rfl (Nat.le_of_ble_eq_true rfl) dX13_upper_29 (fun H locs cells slots hw => ?_)
    cases hf
    exact hQ _ _ _ _ _ _ dX13_upper_32 rfl hw

def X13_upper_f (E : gE) (σ : gS) (l0 : Nat) (l1 : Int32) : Option Int32 := X13_upper E σ l0 l1
set_option maxRecDepth 100000 in
theorem X13_upper_M (l : Launch) (E : gE) (D : va_G) (A : Nat → Prop) {l0 : Nat} {l1 : Int32} {σ : gS} {res : Int32} (hf : X13_upper_f E σ l0 l1 = some res) : gCI l E D A yX13_upper cX13_upper 5 3 65 (some FieldType.int) [.ref l0, .int l1] σ (res, σ) := by
  refine gg_entI (own := RX13) (nm := "upper") (ty := FieldType.int) (by decide +kernel) rfl rfl (Nat.le_of_ble_eq_true rfl) rfl ?_
  intro p e R s m args below meth c Q ls hC hw hQ hl
  have hl : lv_has ls 5 [(0, .ref l0), (1, .int l1)] := hl
  exact X13_upper_W hC hQ hf hw hl

def X13_fulfills (E : gE) (σ : gS) (l0 : Nat) (l1 : Int32) (l2 : Int32) : Option Int32 :=
  ob (gcl σ l0 11) fun _ =>
  ob (X13_of_f E σ l0 l2 (0 : Int32)) fun x1 =>
  ob (gcl σ l0 11) fun _ =>
  ob (X13_at_f E σ l0 x1 l1) fun x4 =>
  ob (gcl σ l0 11) fun _ =>
  ob (X13_of_f E σ l0 l2 (1 : Int32)) fun x7 =>
  ob (gcl σ l0 11) fun _ =>
  ob (X13_of_f E σ l0 l2 (2 : Int32)) fun x10 =>
  if 0 ≤ x10 then
    if x10 ≤ 0 then
      if x4 = x7 then
        some (1 : Int32)
      else
        some (0 : Int32)
    else
      if x4 ≤ x7 then
        some (0 : Int32)
      else
        some (1 : Int32)
  else
    if x7 ≤ x4 then
      some (0 : Int32)
    else
      some (1 : Int32)
set_option maxHeartbeats 4000000 in
set_option maxRecDepth 100000 in
theorem X13_fulfills_W {σ : gS} {l0 : Nat} {l1 : Int32} {l2 : Int32} {res : Int32} {ls : Array Slot} (hC : gC E D A p R s m args meth c cX13_fulfills 6 RX13 "fulfills" 2 43) (hQ : gQI E D A p l e R s m args below meth c Q cX13_fulfills FieldType.boolean (res, σ)) (hf : X13_fulfills E σ l0 l1 l2 = some res) (hw : gW E D A s σ H locs) (hl : lv_has ls 6 [(0, .ref l0), (1, .int l1), (2, .int l2)]) : W p l e R s m args below meth c H locs cells slots Q (F0 m 0 ls []) := by
  have hC0 := hC
  obtain ⟨hx, hb, hml, hown, hts, -⟩ := hC0
  unfold X13_fulfills at hf
  refine lv_aload_n hx hb dX13_fulfills_0 rfl (lv_at hl 0 rfl) ?_
  refine lv_aload_n hx hb dX13_fulfills_1 rfl (lv_at hl 0 rfl) ?_
  refine lv_iload_n hx hb dX13_fulfills_2 rfl (lv_at hl 2 rfl) ?_
  refine lv_iconst (v := 0) hx hb dX13_fulfills_3 (by decide) ?_
  obtain ⟨_, h3, hf⟩ := ob_some hf
  obtain ⟨x1, h2, hf⟩ := ob_some hf
  refine gg_cVI (As := [.int l2, .int (0 : Int32)]) hC hw (X13_of_M l E D A h2) h3 rfl g_ml_X13_174 hd_X13_of (Nat.le_of_ble_eq_true rfl) (Nat.le_of_ble_eq_true rfl) hl.1 rfl (Nat.le_of_ble_eq_true rfl) dX13_fulfills_4 (fun H locs cells slots hw => ?_)
  refine lv_iload_n hx hb dX13_fulfills_7 rfl (lv_at hl 1 rfl) ?_
  obtain ⟨_, h6, hf⟩ := ob_some hf
  obtain ⟨x4, h5, hf⟩ := ob_some hf
  refine gg_cVI (As := [.int x1, .int l1]) hC hw (X13_at_M l E D A h5) h6 rfl g_ml_X13_118 hd_X13_at (Nat.le_of_ble_eq_true rfl) (Nat.le_of_ble_eq_true rfl) hl.1 rfl (Nat.le_of_ble_eq_true rfl) dX13_fulfills_8 (fun H locs cells slots hw => ?_)
  refine lv_istore_n (lv' := [(3, .int x4), (0, .ref l0), (1, .int l1), (2, .int l2)]) hx hb dX13_fulfills_11 rfl hl (by decide) rfl (fun ls hl => ?_)
  refine lv_aload_n hx hb dX13_fulfills_12 rfl (lv_at hl 1 rfl) ?_
  refine lv_iload_n hx hb dX13_fulfills_13 rfl (lv_at hl 3 rfl) ?_
  refine lv_iconst (v := 1) hx hb dX13_fulfills_14 (by decide) ?_
  obtain ⟨_, h9, hf⟩ := ob_some hf
  obtain ⟨x7, h8, hf⟩ := ob_some hf
  refine gg_cVI (As := [.int l2, .int (1 : Int32)]) hC hw (X13_of_M l E D A h8) h9 rfl g_ml_X13_174 hd_X13_of (Nat.le_of_ble_eq_true rfl) (Nat.le_of_ble_eq_true rfl) hl.1 rfl (Nat.le_of_ble_eq_true rfl) dX13_fulfills_15 (fun H locs cells slots hw => ?_)
  refine lv_istore (lv' := [(4, .int x7), (3, .int x4), (0, .ref l0), (1, .int l1), (2, .int l2)]) hx hb dX13_fulfills_18 hl (by decide) rfl (fun ls hl => ?_)
  refine lv_aload_n hx hb dX13_fulfills_20 rfl (lv_at hl 2 rfl) ?_
  refine lv_iload_n hx hb dX13_fulfills_21 rfl (lv_at hl 4 rfl) ?_
  refine lv_iconst (v := 2) hx hb dX13_fulfills_22 (by decide) ?_
  obtain ⟨_, h12, hf⟩ := ob_some hf
  obtain ⟨x10, h11, hf⟩ := ob_some hf
  refine gg_cVI (As := [.int l2, .int (2 : Int32)]) hC hw (X13_of_M l E D A h11) h12 rfl g_ml_X13_174 hd_X13_of (Nat.le_of_ble_eq_true rfl) (Nat.le_of_ble_eq_true rfl) hl.1 rfl (Nat.le_of_ble_eq_true rfl) dX13_fulfills_23 (fun H locs cells slots hw => ?_)
  refine lv_istore (lv' := [(5, .int x10), (4, .int x7), (3, .int x4), (0, .ref l0), (1, .int l1), (2, .int l2)]) hx hb dX13_fulfills_26 hl (by decide) rfl (fun ls hl => ?_)
  refine lv_iload hx hb dX13_fulfills_28 (lv_at hl 0 rfl) ?_
  refine lv_if_ge (tgt := 47) hx hb dX13_fulfills_30 (by decide) (fun c17 => ?_) (fun c17 => ?_)
  · replace hf := (if_pos c17).symm.trans hf
    refine lv_iload hx hb dX13_fulfills_47 (lv_at hl 0 rfl) ?_
    refine lv_if_le (tgt := 66) hx hb dX13_fulfills_49 (by decide) (fun c15 => ?_) (fun c15 => ?_)
    · replace hf := (if_pos c15).symm.trans hf
      refine lv_iload_n hx hb dX13_fulfills_66 rfl (lv_at hl 2 rfl) ?_
      refine lv_iload hx hb dX13_fulfills_67 (lv_at hl 1 rfl) ?_
      refine lv_icmp_ne (tgt := 76) hx hb dX13_fulfills_69 (by decide) (fun c13 => ?_) (fun c13 => ?_)
      · replace hf := (if_neg c13).symm.trans hf
        refine lv_iconst (v := 0) hx hb dX13_fulfills_76 (by decide) ?_
        cases hf
        exact hQ _ _ _ _ _ _ dX13_fulfills_77 gz0 hw
      · replace hf := (if_pos c13).symm.trans hf
        refine lv_iconst (v := 1) hx hb dX13_fulfills_72 (by decide) ?_
        refine lv_goto (tgt := 77) hx hb dX13_fulfills_73 (by decide) ?_
        cases hf
        exact hQ _ _ _ _ _ _ dX13_fulfills_77 gz1 hw
    · replace hf := (if_neg c15).symm.trans hf
      refine lv_iload_n hx hb dX13_fulfills_52 rfl (lv_at hl 2 rfl) ?_
      refine lv_iload hx hb dX13_fulfills_53 (lv_at hl 1 rfl) ?_
      refine lv_icmp_le (tgt := 62) hx hb dX13_fulfills_55 (by decide) (fun c14 => ?_) (fun c14 => ?_)
      · replace hf := (if_pos c14).symm.trans hf
        refine lv_iconst (v := 0) hx hb dX13_fulfills_62 (by decide) ?_
        refine lv_goto (tgt := 77) hx hb dX13_fulfills_63 (by decide) ?_
        cases hf
        exact hQ _ _ _ _ _ _ dX13_fulfills_77 gz0 hw
      · replace hf := (if_neg c14).symm.trans hf
        refine lv_iconst (v := 1) hx hb dX13_fulfills_58 (by decide) ?_
        refine lv_goto (tgt := 77) hx hb dX13_fulfills_59 (by decide) ?_
        cases hf
        exact hQ _ _ _ _ _ _ dX13_fulfills_77 gz1 hw
  · replace hf := (if_neg c17).symm.trans hf
    refine lv_iload_n hx hb dX13_fulfills_33 rfl (lv_at hl 2 rfl) ?_
    refine lv_iload hx hb dX13_fulfills_34 (lv_at hl 1 rfl) ?_
    refine lv_icmp_ge (tgt := 43) hx hb dX13_fulfills_36 (by decide) (fun c16 => ?_) (fun c16 => ?_)
    · replace hf := (if_pos c16).symm.trans hf
      refine lv_iconst (v := 0) hx hb dX13_fulfills_43 (by decide) ?_
      refine lv_goto (tgt := 77) hx hb dX13_fulfills_44 (by decide) ?_
      cases hf
      exact hQ _ _ _ _ _ _ dX13_fulfills_77 gz0 hw
    · replace hf := (if_neg c16).symm.trans hf
      refine lv_iconst (v := 1) hx hb dX13_fulfills_39 (by decide) ?_
      refine lv_goto (tgt := 77) hx hb dX13_fulfills_40 (by decide) ?_
      cases hf
      exact hQ _ _ _ _ _ _ dX13_fulfills_77 gz1 hw

def X13_fulfills_f (E : gE) (σ : gS) (l0 : Nat) (l1 : Int32) (l2 : Int32) : Option Int32 := X13_fulfills E σ l0 l1 l2
set_option maxRecDepth 100000 in
theorem X13_fulfills_M (l : Launch) (E : gE) (D : va_G) (A : Nat → Prop) {l0 : Nat} {l1 : Int32} {l2 : Int32} {σ : gS} {res : Int32} (hf : X13_fulfills_f E σ l0 l1 l2 = some res) : gCI l E D A yX13_fulfills cX13_fulfills 6 2 43 (some FieldType.boolean) [.ref l0, .int l1, .int l2] σ (res, σ) := by
  refine gg_entI (own := RX13) (nm := "fulfills") (ty := FieldType.boolean) (by decide +kernel) rfl rfl (Nat.le_of_ble_eq_true rfl) rfl ?_
  intro p e R s m args below meth c Q ls hC hw hQ hl
  have hl : lv_has ls 6 [(0, .ref l0), (1, .int l1), (2, .int l2)] := hl
  exact X13_fulfills_W hC hQ hf hw hl

def X13_rejection_2_s (E : gE) (σ : gS) (r_2 : Nat → Int32 → Int32 → Option Int32) (l0 : Nat) (l1 : Int32) (l2 : Int32) : Option Int32 :=
  ob (gfR σ l0 11 8) fun x1 =>
  ob (graI E 0 σ x1 (2 : Int32)) fun x3 =>
  if x3 ≤ l2 then
    some (-1 : Int32)
  else
    ob (gcl σ l0 11) fun _ =>
    ob (X13_fulfills_f E σ l0 l1 l2) fun x5 =>
    if x5 = 0 then
      some l2
    else
      r_2 l0 l1 (l2 + 1)
set_option maxHeartbeats 4000000 in
set_option maxRecDepth 100000 in
theorem X13_rejection_2_s_W {σ : gS} {l0 : Nat} {l1 : Int32} {l2 : Int32} {res : Int32} {ls : Array Slot} (hC : gC E D A p R s m args meth c cX13_rejection 3 RX13 "rejection" 3 68) (hQ : gQI E D A p l e R s m args below meth c Q cX13_rejection FieldType.int (res, σ)) {r_2 : Nat → Int32 → Int32 → Option Int32} (h_2 : ∀ {l0 : Nat} {l1 : Int32} {l2 : Int32} {H : Heap} {locs : List Loc} {cells slots : Nat} {ls : Array Slot}, r_2 l0 l1 l2 = some res → gW E D A s σ H locs → lv_has ls 3 [(0, .ref l0), (1, .int l1), (2, .int l2)] → W p l e R s m args below meth c H locs cells slots Q (F0 m 2 ls [])) (hf : X13_rejection_2_s E σ r_2 l0 l1 l2 = some res) (hw : gW E D A s σ H locs) (hl : lv_has ls 3 [(0, .ref l0), (1, .int l1), (2, .int l2)]) : W p l e R s m args below meth c H locs cells slots Q (F0 m 2 ls []) := by
  have hC0 := hC
  obtain ⟨hx, hb, hml, hown, hts, -⟩ := hC0
  unfold X13_rejection_2_s at hf
  refine lv_iload_n hx hb dX13_rejection_2 rfl (lv_at hl 2 rfl) ?_
  refine lv_aload_n hx hb dX13_rejection_3 rfl (lv_at hl 0 rfl) ?_
  obtain ⟨x1, h2, hf⟩ := ob_some hf
  refine rR_fl_X13_35 hC hw h2 dX13_rejection_4 ?_
  refine lv_iconst (v := 2) hx hb dX13_rejection_7 (by decide) ?_
  obtain ⟨x3, h4, hf⟩ := ob_some hf
  refine gg_aldI hC hw h4 dX13_rejection_8 ?_
  refine lv_icmp_ge (tgt := 29) hx hb dX13_rejection_9 (by decide) (fun c9 => ?_) (fun c9 => ?_)
  · replace hf := (if_pos c9).symm.trans hf
    refine lv_iconst (v := -1) hx hb dX13_rejection_29 (by decide) ?_
    cases hf
    exact hQ _ _ _ _ _ _ dX13_rejection_30 rfl hw
  · replace hf := (if_neg c9).symm.trans hf
    refine lv_aload_n hx hb dX13_rejection_12 rfl (lv_at hl 0 rfl) ?_
    refine lv_iload_n hx hb dX13_rejection_13 rfl (lv_at hl 1 rfl) ?_
    refine lv_iload_n hx hb dX13_rejection_14 rfl (lv_at hl 2 rfl) ?_
    obtain ⟨_, h7, hf⟩ := ob_some hf
    obtain ⟨x5, h6, hf⟩ := ob_some hf
    refine gg_cVI (As := [.int l1, .int l2]) hC hw (X13_fulfills_M l E D A h6) h7 rfl g_ml_X13_177 hd_X13_fulfills (Nat.le_of_ble_eq_true rfl) (Nat.le_of_ble_eq_true rfl) hl.1 rfl (Nat.le_of_ble_eq_true rfl) dX13_rejection_15 (fun H locs cells slots hw => ?_)
    refine lv_if_ne (tgt := 23) hx hb dX13_rejection_18 (by decide) (fun c8 => ?_) (fun c8 => ?_)
    · replace hf := (if_neg c8).symm.trans hf
      refine lv_iinc (v := (l2 + 1)) (lv' := [(2, .int (l2 + 1)), (0, .ref l0), (1, .int l1)]) hx hb dX13_rejection_23 hl (k := 2) rfl rfl (by decide) rfl (fun ls hl => ?_)
      refine lv_goto (tgt := 2) hx hb dX13_rejection_26 (by decide) ?_
      exact h_2 hf hw (lv_sub hl [1, 2, 0] rfl)
    · replace hf := (if_pos c8).symm.trans hf
      refine lv_iload_n hx hb dX13_rejection_21 rfl (lv_at hl 2 rfl) ?_
      cases hf
      exact hQ _ _ _ _ _ _ dX13_rejection_22 rfl hw
def X13_rejection_2 (E : gE) (σ : gS) : Nat → Nat → Int32 → Int32 → Option Int32
  | 0 => fun _ _ _ => none
  | n + 1 => X13_rejection_2_s E σ (X13_rejection_2 E σ n)
theorem X13_rejection_2_W {σ : gS} {res : Int32} (hC : gC E D A p R s m args meth c cX13_rejection 3 RX13 "rejection" 3 68) (hQ : gQI E D A p l e R s m args below meth c Q cX13_rejection FieldType.int (res, σ)) : ∀ (n : Nat), ∀ {l0 : Nat} {l1 : Int32} {l2 : Int32} {H : Heap} {locs : List Loc} {cells slots : Nat} {ls : Array Slot}, X13_rejection_2 E σ n l0 l1 l2 = some res → gW E D A s σ H locs → lv_has ls 3 [(0, .ref l0), (1, .int l1), (2, .int l2)] → W p l e R s m args below meth c H locs cells slots Q (F0 m 2 ls []) := by
  intro n
  induction n with
  | zero =>
    intros
    rename_i hf _ _
    exact absurd hf (fun h => by cases (show (none : Option Int32) = some res from h))
  | succ n ih =>
    intros
    rename_i hf hw hl
    exact X13_rejection_2_s_W hC hQ ih hf hw hl

def X13_rejection (E : gE) (σ : gS) (l0 : Nat) (l1 : Int32) : Option Int32 :=
  X13_rejection_2 E σ (gN E) l0 l1 (0 : Int32)
set_option maxHeartbeats 4000000 in
set_option maxRecDepth 100000 in
theorem X13_rejection_W {σ : gS} {l0 : Nat} {l1 : Int32} {res : Int32} {ls : Array Slot} (hC : gC E D A p R s m args meth c cX13_rejection 3 RX13 "rejection" 3 68) (hQ : gQI E D A p l e R s m args below meth c Q cX13_rejection FieldType.int (res, σ)) (hf : X13_rejection E σ l0 l1 = some res) (hw : gW E D A s σ H locs) (hl : lv_has ls 3 [(0, .ref l0), (1, .int l1)]) : W p l e R s m args below meth c H locs cells slots Q (F0 m 0 ls []) := by
  have hC0 := hC
  obtain ⟨hx, hb, hml, hown, hts, -⟩ := hC0
  unfold X13_rejection at hf
  refine lv_iconst (v := 0) hx hb dX13_rejection_0 (by decide) ?_
  refine lv_istore_n (lv' := [(2, .int (0 : Int32)), (0, .ref l0), (1, .int l1)]) hx hb dX13_rejection_1 rfl hl (by decide) rfl (fun ls hl => ?_)
  exact X13_rejection_2_W hC hQ (gN E) hf hw (lv_sub hl [1, 2, 0] rfl)

def X13_rejection_f (E : gE) (σ : gS) (l0 : Nat) (l1 : Int32) : Option Int32 := X13_rejection E σ l0 l1
set_option maxRecDepth 100000 in
theorem X13_rejection_M (l : Launch) (E : gE) (D : va_G) (A : Nat → Prop) {l0 : Nat} {l1 : Int32} {σ : gS} {res : Int32} (hf : X13_rejection_f E σ l0 l1 = some res) : gCI l E D A yX13_rejection cX13_rejection 3 3 68 (some FieldType.int) [.ref l0, .int l1] σ (res, σ) := by
  refine gg_entI (own := RX13) (nm := "rejection") (ty := FieldType.int) (by decide +kernel) rfl rfl (Nat.le_of_ble_eq_true rfl) rfl ?_
  intro p e R s m args below meth c Q ls hC hw hQ hl
  have hl : lv_has ls 3 [(0, .ref l0), (1, .int l1)] := hl
  exact X13_rejection_W hC hQ hf hw hl

def X13_selects (E : gE) (σ : gS) (l0 : Nat) (l1 : Int32) : Option Int32 :=
  ob (gcl σ l0 11) fun _ =>
  ob (X13_rejection_f E σ l0 l1) fun x1 =>
  if x1 = (-1 : Int32) then
    some (1 : Int32)
  else
    some (0 : Int32)
set_option maxHeartbeats 4000000 in
set_option maxRecDepth 100000 in
theorem X13_selects_W {σ : gS} {l0 : Nat} {l1 : Int32} {res : Int32} {ls : Array Slot} (hC : gC E D A p R s m args meth c cX13_selects 2 RX13 "selects" 4 90) (hQ : gQI E D A p l e R s m args below meth c Q cX13_selects FieldType.boolean (res, σ)) (hf : X13_selects E σ l0 l1 = some res) (hw : gW E D A s σ H locs) (hl : lv_has ls 2 [(0, .ref l0), (1, .int l1)]) : W p l e R s m args below meth c H locs cells slots Q (F0 m 0 ls []) := by
  have hC0 := hC
  obtain ⟨hx, hb, hml, hown, hts, -⟩ := hC0
  unfold X13_selects at hf
  refine lv_aload_n hx hb dX13_selects_0 rfl (lv_at hl 0 rfl) ?_
  refine lv_iload_n hx hb dX13_selects_1 rfl (lv_at hl 1 rfl) ?_
  obtain ⟨_, h3, hf⟩ := ob_some hf
  obtain ⟨x1, h2, hf⟩ := ob_some hf
  refine gg_cVI (As := [.int l1]) hC hw (X13_rejection_M l E D A h2) h3 rfl g_ml_X13_180 hd_X13_rejection (Nat.le_of_ble_eq_true rfl) (Nat.le_of_ble_eq_true rfl) hl.1 rfl (Nat.le_of_ble_eq_true rfl) dX13_selects_2 (fun H locs cells slots hw => ?_)
  refine lv_iconst (v := -1) hx hb dX13_selects_5 (by decide) ?_
  refine lv_icmp_ne (tgt := 13) hx hb dX13_selects_6 (by decide) (fun c4 => ?_) (fun c4 => ?_)
  · replace hf := (if_neg c4).symm.trans hf
    refine lv_iconst (v := 0) hx hb dX13_selects_13 (by decide) ?_
    cases hf
    exact hQ _ _ _ _ _ _ dX13_selects_14 gz0 hw
  · replace hf := (if_pos c4).symm.trans hf
    refine lv_iconst (v := 1) hx hb dX13_selects_9 (by decide) ?_
    refine lv_goto (tgt := 14) hx hb dX13_selects_10 (by decide) ?_
    cases hf
    exact hQ _ _ _ _ _ _ dX13_selects_14 gz1 hw

def X13_selects_f (E : gE) (σ : gS) (l0 : Nat) (l1 : Int32) : Option Int32 := X13_selects E σ l0 l1
set_option maxRecDepth 100000 in
theorem X13_selects_M (l : Launch) (E : gE) (D : va_G) (A : Nat → Prop) {l0 : Nat} {l1 : Int32} {σ : gS} {res : Int32} (hf : X13_selects_f E σ l0 l1 = some res) : gCI l E D A yX13_selects cX13_selects 2 4 90 (some FieldType.boolean) [.ref l0, .int l1] σ (res, σ) := by
  refine gg_entI (own := RX13) (nm := "selects") (ty := FieldType.boolean) (by decide +kernel) rfl rfl (Nat.le_of_ble_eq_true rfl) rfl ?_
  intro p e R s m args below meth c Q ls hC hw hQ hl
  have hl : lv_has ls 2 [(0, .ref l0), (1, .int l1)] := hl
  exact X13_selects_W hC hQ hf hw hl

def X13_countSelected_28 (E : gE) (σ : gS) (r_4 : Nat → Int32 → Int32 → Option Int32) (l0 : Nat) (l2 : Int32) (s0 : Int32) (s1 : Int32) : Option Int32 :=
  r_4 l0 (s1 + s0) (l2 + 1)
set_option maxHeartbeats 4000000 in
set_option maxRecDepth 100000 in
theorem X13_countSelected_28_W {σ : gS} {l0 : Nat} {l2 : Int32} {s0 : Int32} {s1 : Int32} {res : Int32} {ls : Array Slot} (hC : gC E D A p R s m args meth c cX13_countSelected 3 RX13 "countSelected" 5 111) (hQ : gQI E D A p l e R s m args below meth c Q cX13_countSelected FieldType.int (res, σ)) {r_4 : Nat → Int32 → Int32 → Option Int32} (h_4 : ∀ {l0 : Nat} {l1 : Int32} {l2 : Int32} {H : Heap} {locs : List Loc} {cells slots : Nat} {ls : Array Slot}, r_4 l0 l1 l2 = some res → gW E D A s σ H locs → lv_has ls 3 [(0, .ref l0), (1, .int l1), (2, .int l2)] → W p l e R s m args below meth c H locs cells slots Q (F0 m 4 ls [])) (hf : X13_countSelected_28 E σ r_4 l0 l2 s0 s1 = some res) (hw : gW E D A s σ H locs) (hl : lv_has ls 3 [(0, .ref l0), (2, .int l2)]) : W p l e R s m args below meth c H locs cells slots Q (F0 m 28 ls [.int s0, .int s1]) := by
  have hC0 := hC
  obtain ⟨hx, hb, hml, hown, hts, -⟩ := hC0
  unfold X13_countSelected_28 at hf
  refine lv_iadd hx hb dX13_countSelected_28 ?_
  refine lv_istore_n (lv' := [(1, .int (s1 + s0)), (0, .ref l0), (2, .int l2)]) hx hb dX13_countSelected_29 rfl hl (by decide) rfl (fun ls hl => ?_)
  refine lv_iinc (v := (l2 + 1)) (lv' := [(2, .int (l2 + 1)), (1, .int (s1 + s0)), (0, .ref l0)]) hx hb dX13_countSelected_30 hl (k := 2) rfl rfl (by decide) rfl (fun ls hl => ?_)
  refine lv_goto (tgt := 4) hx hb dX13_countSelected_33 (by decide) ?_
  exact h_4 hf hw (lv_sub hl [2, 1, 0] rfl)

def X13_countSelected_4_s (E : gE) (σ : gS) (r_4 : Nat → Int32 → Int32 → Option Int32) (l0 : Nat) (l1 : Int32) (l2 : Int32) : Option Int32 :=
  ob (gfR σ l0 11 8) fun x1 =>
  ob (graI E 0 σ x1 (1 : Int32)) fun x3 =>
  if x3 ≤ l2 then
    some l1
  else
    ob (gcl σ l0 11) fun _ =>
    ob (X13_selects_f E σ l0 l2) fun x5 =>
    if x5 = 0 then
      X13_countSelected_28 E σ r_4 l0 l2 (0 : Int32) l1
    else
      X13_countSelected_28 E σ r_4 l0 l2 (1 : Int32) l1
set_option maxHeartbeats 4000000 in
set_option maxRecDepth 100000 in
theorem X13_countSelected_4_s_W {σ : gS} {l0 : Nat} {l1 : Int32} {l2 : Int32} {res : Int32} {ls : Array Slot} (hC : gC E D A p R s m args meth c cX13_countSelected 3 RX13 "countSelected" 5 111) (hQ : gQI E D A p l e R s m args below meth c Q cX13_countSelected FieldType.int (res, σ)) {r_4 : Nat → Int32 → Int32 → Option Int32} (h_4 : ∀ {l0 : Nat} {l1 : Int32} {l2 : Int32} {H : Heap} {locs : List Loc} {cells slots : Nat} {ls : Array Slot}, r_4 l0 l1 l2 = some res → gW E D A s σ H locs → lv_has ls 3 [(0, .ref l0), (1, .int l1), (2, .int l2)] → W p l e R s m args below meth c H locs cells slots Q (F0 m 4 ls [])) (hf : X13_countSelected_4_s E σ r_4 l0 l1 l2 = some res) (hw : gW E D A s σ H locs) (hl : lv_has ls 3 [(0, .ref l0), (1, .int l1), (2, .int l2)]) : W p l e R s m args below meth c H locs cells slots Q (F0 m 4 ls []) := by
  have hC0 := hC
  obtain ⟨hx, hb, hml, hown, hts, -⟩ := hC0
  unfold X13_countSelected_4_s at hf
  refine lv_iload_n hx hb dX13_countSelected_4 rfl (lv_at hl 2 rfl) ?_
  refine lv_aload_n hx hb dX13_countSelected_5 rfl (lv_at hl 0 rfl) ?_
  obtain ⟨x1, h2, hf⟩ := ob_some hf
  refine rR_fl_X13_35 hC hw h2 dX13_countSelected_6 ?_
  refine lv_iconst (v := 1) hx hb dX13_countSelected_9 (by decide) ?_
  obtain ⟨x3, h4, hf⟩ := ob_some hf
  refine gg_aldI hC hw h4 dX13_countSelected_10 ?_
  refine lv_icmp_ge (tgt := 36) hx hb dX13_countSelected_11 (by decide) (fun c9 => ?_) (fun c9 => ?_)
  · replace hf := (if_pos c9).symm.trans hf
    refine lv_iload_n hx hb dX13_countSelected_36 rfl (lv_at hl 1 rfl) ?_
    cases hf
    exact hQ _ _ _ _ _ _ dX13_countSelected_37 rfl hw
  · replace hf := (if_neg c9).symm.trans hf
    refine lv_iload_n hx hb dX13_countSelected_14 rfl (lv_at hl 1 rfl) ?_
    refine lv_aload_n hx hb dX13_countSelected_15 rfl (lv_at hl 0 rfl) ?_
    refine lv_iload_n hx hb dX13_countSelected_16 rfl (lv_at hl 2 rfl) ?_
    obtain ⟨_, h7, hf⟩ := ob_some hf
    obtain ⟨x5, h6, hf⟩ := ob_some hf
    refine gg_cVI (As := [.int l2]) hC hw (X13_selects_M l E D A h6) h7 rfl g_ml_X13_183 hd_X13_selects (Nat.le_of_ble_eq_true rfl) (Nat.le_of_ble_eq_true rfl) hl.1 rfl (Nat.le_of_ble_eq_true rfl) dX13_countSelected_17 (fun H locs cells slots hw => ?_)
    refine lv_if_eq (tgt := 27) hx hb dX13_countSelected_20 (by decide) (fun c8 => ?_) (fun c8 => ?_)
    · replace hf := (if_pos c8).symm.trans hf
      refine lv_iconst (v := 0) hx hb dX13_countSelected_27 (by decide) ?_
      exact X13_countSelected_28_W hC hQ h_4 hf hw (lv_sub hl [0, 2] rfl)
    · replace hf := (if_neg c8).symm.trans hf
      refine lv_iconst (v := 1) hx hb dX13_countSelected_23 (by decide) ?_
      refine lv_goto (tgt := 28) hx hb dX13_countSelected_24 (by decide) ?_
      exact X13_countSelected_28_W hC hQ h_4 hf hw (lv_sub hl [0, 2] rfl)
def X13_countSelected_4 (E : gE) (σ : gS) : Nat → Nat → Int32 → Int32 → Option Int32
  | 0 => fun _ _ _ => none
  | n + 1 => X13_countSelected_4_s E σ (X13_countSelected_4 E σ n)
theorem X13_countSelected_4_W {σ : gS} {res : Int32} (hC : gC E D A p R s m args meth c cX13_countSelected 3 RX13 "countSelected" 5 111) (hQ : gQI E D A p l e R s m args below meth c Q cX13_countSelected FieldType.int (res, σ)) : ∀ (n : Nat), ∀ {l0 : Nat} {l1 : Int32} {l2 : Int32} {H : Heap} {locs : List Loc} {cells slots : Nat} {ls : Array Slot}, X13_countSelected_4 E σ n l0 l1 l2 = some res → gW E D A s σ H locs → lv_has ls 3 [(0, .ref l0), (1, .int l1), (2, .int l2)] → W p l e R s m args below meth c H locs cells slots Q (F0 m 4 ls []) := by
  intro n
  induction n with
  | zero =>
    intros
    rename_i hf _ _
    exact absurd hf (fun h => by cases (show (none : Option Int32) = some res from h))
  | succ n ih =>
    intros
    rename_i hf hw hl
    exact X13_countSelected_4_s_W hC hQ ih hf hw hl

def X13_countSelected (E : gE) (σ : gS) (l0 : Nat) : Option Int32 :=
  X13_countSelected_4 E σ (gN E) l0 (0 : Int32) (0 : Int32)
set_option maxHeartbeats 4000000 in
set_option maxRecDepth 100000 in
theorem X13_countSelected_W {σ : gS} {l0 : Nat} {res : Int32} {ls : Array Slot} (hC : gC E D A p R s m args meth c cX13_countSelected 3 RX13 "countSelected" 5 111) (hQ : gQI E D A p l e R s m args below meth c Q cX13_countSelected FieldType.int (res, σ)) (hf : X13_countSelected E σ l0 = some res) (hw : gW E D A s σ H locs) (hl : lv_has ls 3 [(0, .ref l0)]) : W p l e R s m args below meth c H locs cells slots Q (F0 m 0 ls []) := by
  have hC0 := hC
  obtain ⟨hx, hb, hml, hown, hts, -⟩ := hC0
  unfold X13_countSelected at hf
  refine lv_iconst (v := 0) hx hb dX13_countSelected_0 (by decide) ?_
  refine lv_istore_n (lv' := [(1, .int (0 : Int32)), (0, .ref l0)]) hx hb dX13_countSelected_1 rfl hl (by decide) rfl (fun ls hl => ?_)
  refine lv_iconst (v := 0) hx hb dX13_countSelected_2 (by decide) ?_
  refine lv_istore_n (lv' := [(2, .int (0 : Int32)), (1, .int (0 : Int32)), (0, .ref l0)]) hx hb dX13_countSelected_3 rfl hl (by decide) rfl (fun ls hl => ?_)
  exact X13_countSelected_4_W hC hQ (gN E) hf hw (lv_sub hl [2, 1, 0] rfl)

def X13_countSelected_f (E : gE) (σ : gS) (l0 : Nat) : Option Int32 := X13_countSelected E σ l0
set_option maxRecDepth 100000 in
theorem X13_countSelected_M (l : Launch) (E : gE) (D : va_G) (A : Nat → Prop) {l0 : Nat} {σ : gS} {res : Int32} (hf : X13_countSelected_f E σ l0 = some res) : gCI l E D A yX13_countSelected cX13_countSelected 3 5 111 (some FieldType.int) [.ref l0] σ (res, σ) := by
  refine gg_entI (own := RX13) (nm := "countSelected") (ty := FieldType.int) (by decide +kernel) rfl rfl (Nat.le_of_ble_eq_true rfl) rfl ?_
  intro p e R s m args below meth c Q ls hC hw hQ hl
  have hl : lv_has ls 3 [(0, .ref l0)] := hl
  exact X13_countSelected_W hC hQ hf hw hl

def X13_countMatches_29 (E : gE) (σ : gS) (r_4 : Nat → Int32 → Int32 → Int32 → Option Int32) (l0 : Nat) (l1 : Int32) (l3 : Int32) (s0 : Int32) (s1 : Int32) : Option Int32 :=
  r_4 l0 l1 (s1 + s0) (l3 + 1)
set_option maxHeartbeats 4000000 in
set_option maxRecDepth 100000 in
theorem X13_countMatches_29_W {σ : gS} {l0 : Nat} {l1 : Int32} {l3 : Int32} {s0 : Int32} {s1 : Int32} {res : Int32} {ls : Array Slot} (hC : gC E D A p R s m args meth c cX13_countMatches 4 RX13 "countMatches" 3 68) (hQ : gQI E D A p l e R s m args below meth c Q cX13_countMatches FieldType.int (res, σ)) {r_4 : Nat → Int32 → Int32 → Int32 → Option Int32} (h_4 : ∀ {l0 : Nat} {l1 : Int32} {l2 : Int32} {l3 : Int32} {H : Heap} {locs : List Loc} {cells slots : Nat} {ls : Array Slot}, r_4 l0 l1 l2 l3 = some res → gW E D A s σ H locs → lv_has ls 4 [(0, .ref l0), (1, .int l1), (2, .int l2), (3, .int l3)] → W p l e R s m args below meth c H locs cells slots Q (F0 m 4 ls [])) (hf : X13_countMatches_29 E σ r_4 l0 l1 l3 s0 s1 = some res) (hw : gW E D A s σ H locs) (hl : lv_has ls 4 [(0, .ref l0), (1, .int l1), (3, .int l3)]) : W p l e R s m args below meth c H locs cells slots Q (F0 m 29 ls [.int s0, .int s1]) := by
  have hC0 := hC
  obtain ⟨hx, hb, hml, hown, hts, -⟩ := hC0
  unfold X13_countMatches_29 at hf
  refine lv_iadd hx hb dX13_countMatches_29 ?_
  refine lv_istore_n (lv' := [(2, .int (s1 + s0)), (0, .ref l0), (1, .int l1), (3, .int l3)]) hx hb dX13_countMatches_30 rfl hl (by decide) rfl (fun ls hl => ?_)
  refine lv_iinc (v := (l3 + 1)) (lv' := [(3, .int (l3 + 1)), (2, .int (s1 + s0)), (0, .ref l0), (1, .int l1)]) hx hb dX13_countMatches_31 hl (k := 3) rfl rfl (by decide) rfl (fun ls hl => ?_)
  refine lv_goto (tgt := 4) hx hb dX13_countMatches_34 (by decide) ?_
  exact h_4 hf hw (lv_sub hl [2, 3, 1, 0] rfl)

def X13_countMatches_4_s (E : gE) (σ : gS) (r_4 : Nat → Int32 → Int32 → Int32 → Option Int32) (l0 : Nat) (l1 : Int32) (l2 : Int32) (l3 : Int32) : Option Int32 :=
  ob (gfR σ l0 11 8) fun x1 =>
  ob (graI E 0 σ x1 (1 : Int32)) fun x3 =>
  if x3 ≤ l3 then
    some l2
  else
    ob (gcl σ l0 11) fun _ =>
    ob (X13_fulfills_f E σ l0 l3 l1) fun x5 =>
    if x5 = 0 then
      X13_countMatches_29 E σ r_4 l0 l1 l3 (0 : Int32) l2
    else
      X13_countMatches_29 E σ r_4 l0 l1 l3 (1 : Int32) l2
set_option maxHeartbeats 4000000 in
set_option maxRecDepth 100000 in
theorem X13_countMatches_4_s_W {σ : gS} {l0 : Nat} {l1 : Int32} {l2 : Int32} {l3 : Int32} {res : Int32} {ls : Array Slot} (hC : gC E D A p R s m args meth c cX13_countMatches 4 RX13 "countMatches" 3 68) (hQ : gQI E D A p l e R s m args below meth c Q cX13_countMatches FieldType.int (res, σ)) {r_4 : Nat → Int32 → Int32 → Int32 → Option Int32} (h_4 : ∀ {l0 : Nat} {l1 : Int32} {l2 : Int32} {l3 : Int32} {H : Heap} {locs : List Loc} {cells slots : Nat} {ls : Array Slot}, r_4 l0 l1 l2 l3 = some res → gW E D A s σ H locs → lv_has ls 4 [(0, .ref l0), (1, .int l1), (2, .int l2), (3, .int l3)] → W p l e R s m args below meth c H locs cells slots Q (F0 m 4 ls [])) (hf : X13_countMatches_4_s E σ r_4 l0 l1 l2 l3 = some res) (hw : gW E D A s σ H locs) (hl : lv_has ls 4 [(0, .ref l0), (1, .int l1), (2, .int l2), (3, .int l3)]) : W p l e R s m args below meth c H locs cells slots Q (F0 m 4 ls []) := by
  have hC0 := hC
  obtain ⟨hx, hb, hml, hown, hts, -⟩ := hC0
  unfold X13_countMatches_4_s at hf
  refine lv_iload_n hx hb dX13_countMatches_4 rfl (lv_at hl 3 rfl) ?_
  refine lv_aload_n hx hb dX13_countMatches_5 rfl (lv_at hl 0 rfl) ?_
  obtain ⟨x1, h2, hf⟩ := ob_some hf
  refine rR_fl_X13_35 hC hw h2 dX13_countMatches_6 ?_
  refine lv_iconst (v := 1) hx hb dX13_countMatches_9 (by decide) ?_
  obtain ⟨x3, h4, hf⟩ := ob_some hf
  refine gg_aldI hC hw h4 dX13_countMatches_10 ?_
  refine lv_icmp_ge (tgt := 37) hx hb dX13_countMatches_11 (by decide) (fun c9 => ?_) (fun c9 => ?_)
  · replace hf := (if_pos c9).symm.trans hf
    refine lv_iload_n hx hb dX13_countMatches_37 rfl (lv_at hl 2 rfl) ?_
    cases hf
    exact hQ _ _ _ _ _ _ dX13_countMatches_38 rfl hw
  · replace hf := (if_neg c9).symm.trans hf
    refine lv_iload_n hx hb dX13_countMatches_14 rfl (lv_at hl 2 rfl) ?_
    refine lv_aload_n hx hb dX13_countMatches_15 rfl (lv_at hl 0 rfl) ?_
    refine lv_iload_n hx hb dX13_countMatches_16 rfl (lv_at hl 3 rfl) ?_
    refine lv_iload_n hx hb dX13_countMatches_17 rfl (lv_at hl 1 rfl) ?_
    obtain ⟨_, h7, hf⟩ := ob_some hf
    obtain ⟨x5, h6, hf⟩ := ob_some hf
    refine gg_cVI (As := [.int l3, .int l1]) hC hw (X13_fulfills_M l E D A h6) h7 rfl g_ml_X13_177 hd_X13_fulfills (Nat.le_of_ble_eq_true rfl) (Nat.le_of_ble_eq_true rfl) hl.1 rfl (Nat.le_of_ble_eq_true rfl) dX13_countMatches_18 (fun H locs cells slots hw => ?_)
    refine lv_if_eq (tgt := 28) hx hb dX13_countMatches_21 (by decide) (fun c8 => ?_) (fun c8 => ?_)
    · replace hf := (if_pos c8).symm.trans hf
      refine lv_iconst (v := 0) hx hb dX13_countMatches_28 (by decide) ?_
      exact X13_countMatches_29_W hC hQ h_4 hf hw (lv_sub hl [0, 1, 3] rfl)
    · replace hf := (if_neg c8).symm.trans hf
      refine lv_iconst (v := 1) hx hb dX13_countMatches_24 (by decide) ?_
      refine lv_goto (tgt := 29) hx hb dX13_countMatches_25 (by decide) ?_
      exact X13_countMatches_29_W hC hQ h_4 hf hw (lv_sub hl [0, 1, 3] rfl)
def X13_countMatches_4 (E : gE) (σ : gS) : Nat → Nat → Int32 → Int32 → Int32 → Option Int32
  | 0 => fun _ _ _ _ => none
  | n + 1 => X13_countMatches_4_s E σ (X13_countMatches_4 E σ n)
theorem X13_countMatches_4_W {σ : gS} {res : Int32} (hC : gC E D A p R s m args meth c cX13_countMatches 4 RX13 "countMatches" 3 68) (hQ : gQI E D A p l e R s m args below meth c Q cX13_countMatches FieldType.int (res, σ)) : ∀ (n : Nat), ∀ {l0 : Nat} {l1 : Int32} {l2 : Int32} {l3 : Int32} {H : Heap} {locs : List Loc} {cells slots : Nat} {ls : Array Slot}, X13_countMatches_4 E σ n l0 l1 l2 l3 = some res → gW E D A s σ H locs → lv_has ls 4 [(0, .ref l0), (1, .int l1), (2, .int l2), (3, .int l3)] → W p l e R s m args below meth c H locs cells slots Q (F0 m 4 ls []) := by
  intro n
  induction n with
  | zero =>
    intros
    rename_i hf _ _
    exact absurd hf (fun h => by cases (show (none : Option Int32) = some res from h))
  | succ n ih =>
    intros
    rename_i hf hw hl
    exact X13_countMatches_4_s_W hC hQ ih hf hw hl

def X13_countMatches (E : gE) (σ : gS) (l0 : Nat) (l1 : Int32) : Option Int32 :=
  X13_countMatches_4 E σ (gN E) l0 l1 (0 : Int32) (0 : Int32)
set_option maxHeartbeats 4000000 in
set_option maxRecDepth 100000 in
theorem X13_countMatches_W {σ : gS} {l0 : Nat} {l1 : Int32} {res : Int32} {ls : Array Slot} (hC : gC E D A p R s m args meth c cX13_countMatches 4 RX13 "countMatches" 3 68) (hQ : gQI E D A p l e R s m args below meth c Q cX13_countMatches FieldType.int (res, σ)) (hf : X13_countMatches E σ l0 l1 = some res) (hw : gW E D A s σ H locs) (hl : lv_has ls 4 [(0, .ref l0), (1, .int l1)]) : W p l e R s m args below meth c H locs cells slots Q (F0 m 0 ls []) := by
  have hC0 := hC
  obtain ⟨hx, hb, hml, hown, hts, -⟩ := hC0
  unfold X13_countMatches at hf
  refine lv_iconst (v := 0) hx hb dX13_countMatches_0 (by decide) ?_
  refine lv_istore_n (lv' := [(2, .int (0 : Int32)), (0, .ref l0), (1, .int l1)]) hx hb dX13_countMatches_1 rfl hl (by decide) rfl (fun ls hl => ?_)
  refine lv_iconst (v := 0) hx hb dX13_countMatches_2 (by decide) ?_
  refine lv_istore_n (lv' := [(3, .int (0 : Int32)), (2, .int (0 : Int32)), (0, .ref l0), (1, .int l1)]) hx hb dX13_countMatches_3 rfl hl (by decide) rfl (fun ls hl => ?_)
  exact X13_countMatches_4_W hC hQ (gN E) hf hw (lv_sub hl [2, 3, 1, 0] rfl)

def X13_countMatches_f (E : gE) (σ : gS) (l0 : Nat) (l1 : Int32) : Option Int32 := X13_countMatches E σ l0 l1
set_option maxRecDepth 100000 in
theorem X13_countMatches_M (l : Launch) (E : gE) (D : va_G) (A : Nat → Prop) {l0 : Nat} {l1 : Int32} {σ : gS} {res : Int32} (hf : X13_countMatches_f E σ l0 l1 = some res) : gCI l E D A yX13_countMatches cX13_countMatches 4 3 68 (some FieldType.int) [.ref l0, .int l1] σ (res, σ) := by
  refine gg_entI (own := RX13) (nm := "countMatches") (ty := FieldType.int) (by decide +kernel) rfl rfl (Nat.le_of_ble_eq_true rfl) rfl ?_
  intro p e R s m args below meth c Q ls hC hw hQ hl
  have hl : lv_has ls 4 [(0, .ref l0), (1, .int l1)] := hl
  exact X13_countMatches_W hC hQ hf hw hl

def X13_conditionCount (E : gE) (l0 : Nat) (σ : gS) : Option (Int32 × gS) :=
  ob (gpf E σ l0 11 10 (.int (0 : Int32))) fun σ1 =>
  ob (gfR σ1 l0 11 8) fun x3 =>
  ob (graI E 0 σ1 x3 (2 : Int32)) fun x5 =>
  some (x5, σ1)
set_option maxHeartbeats 4000000 in
set_option maxRecDepth 100000 in
theorem X13_conditionCount_W {σ : gS} {l0 : Nat} {res : (Int32 × gS)} {ls : Array Slot} (hC : gC E D A p R s m args meth c cX13_conditionCount 1 RX13 "conditionCount" 0 0) (hQ : gQI E D A p l e R s m args below meth c Q cX13_conditionCount FieldType.int res) (hf : X13_conditionCount E l0 σ = some res) (hw : gW E D A s σ H locs) (hl : lv_has ls 1 [(0, .ref l0)]) : W p l e R s m args below meth c H locs cells slots Q (F0 m 0 ls []) := by
  have hC0 := hC
  obtain ⟨hx, hb, hml, hown, hts, -⟩ := hC0
  unfold X13_conditionCount at hf
  refine lv_aload_n hx hb dX13_conditionCount_0 rfl (lv_at hl 0 rfl) ?_
  refine lv_iconst (v := 0) hx hb dX13_conditionCount_1 (by decide) ?_
  obtain ⟨σ1, h2, hf⟩ := ob_some hf
  refine p_fl_X13_85 hC hw h2 rfl rfl dX13_conditionCount_2 (fun H locs hw => ?_)
  refine lv_aload_n hx hb dX13_conditionCount_5 rfl (lv_at hl 0 rfl) ?_
  obtain ⟨x3, h4, hf⟩ := ob_some hf
  refine rR_fl_X13_35 hC hw h4 dX13_conditionCount_6 ?_
  refine lv_iconst (v := 2) hx hb dX13_conditionCount_9 (by decide) ?_
  obtain ⟨x5, h6, hf⟩ := ob_some hf
  refine gg_aldI hC hw h6 dX13_conditionCount_10 ?_
  cases hf
  exact hQ _ _ _ _ _ _ dX13_conditionCount_11 rfl hw

def X13_conditionCount_f (E : gE) (l0 : Nat) (σ : gS) : Option (Int32 × gS) := X13_conditionCount E l0 σ
set_option maxRecDepth 100000 in
theorem X13_conditionCount_M (l : Launch) (E : gE) (D : va_G) (A : Nat → Prop) {l0 : Nat} {σ : gS} {res : (Int32 × gS)} (hf : X13_conditionCount_f E l0 σ = some res) : gCI l E D A yX13_conditionCount cX13_conditionCount 1 0 0 (some FieldType.int) [.ref l0] σ res := by
  refine gg_entI (own := RX13) (nm := "conditionCount") (ty := FieldType.int) (by decide +kernel) rfl rfl (Nat.le_of_ble_eq_true rfl) rfl ?_
  intro p e R s m args below meth c Q ls hC hw hQ hl
  have hl : lv_has ls 1 [(0, .ref l0)] := hl
  exact X13_conditionCount_W hC hQ hf hw hl

def X13_conditionColumn (E : gE) (l0 : Nat) (l1 : Int32) (σ : gS) : Option (Int32 × gS) :=
  ob (gcl σ l0 11) fun _ =>
  ob (X13_told_f E l0 l1 (0 : Int32) σ) fun x1 =>
  some (x1.1, x1.2)
set_option maxHeartbeats 4000000 in
set_option maxRecDepth 100000 in
theorem X13_conditionColumn_W {σ : gS} {l0 : Nat} {l1 : Int32} {res : (Int32 × gS)} {ls : Array Slot} (hC : gC E D A p R s m args meth c cX13_conditionColumn 2 RX13 "conditionColumn" 3 65) (hQ : gQI E D A p l e R s m args below meth c Q cX13_conditionColumn FieldType.int res) (hf : X13_conditionColumn E l0 l1 σ = some res) (hw : gW E D A s σ H locs) (hl : lv_has ls 2 [(0, .ref l0), (1, .int l1)]) : W p l e R s m args below meth c H locs cells slots Q (F0 m 0 ls []) := by
  have hC0 := hC
  obtain ⟨hx, hb, hml, hown, hts, -⟩ := hC0
  unfold X13_conditionColumn at hf
  refine lv_aload_n hx hb dX13_conditionColumn_0 rfl (lv_at hl 0 rfl) ?_
  refine lv_iload_n hx hb dX13_conditionColumn_1 rfl (lv_at hl 1 rfl) ?_
  refine lv_iconst (v := 0) hx hb dX13_conditionColumn_2 (by decide) ?_
  obtain ⟨_, h3, hf⟩ := ob_some hf
  obtain ⟨x1, h2, hf⟩ := ob_some hf
  refine gg_cVI (As := [.int l1, .int (0 : Int32)]) hC hw (X13_told_M l E D A h2) h3 rfl g_ml_X13_186 hd_X13_told (Nat.le_of_ble_eq_true rfl) (Nat.le_of_ble_eq_true rfl) hl.1 rfl (Nat.le_of_ble_eq_true rfl) dX13_conditionColumn_3 (fun H locs cells slots hw => ?_)
  cases hf
  exact hQ _ _ _ _ _ _ dX13_conditionColumn_6 rfl hw

def X13_conditionColumn_f (E : gE) (l0 : Nat) (l1 : Int32) (σ : gS) : Option (Int32 × gS) := X13_conditionColumn E l0 l1 σ
set_option maxRecDepth 100000 in
theorem X13_conditionColumn_M (l : Launch) (E : gE) (D : va_G) (A : Nat → Prop) {l0 : Nat} {l1 : Int32} {σ : gS} {res : (Int32 × gS)} (hf : X13_conditionColumn_f E l0 l1 σ = some res) : gCI l E D A yX13_conditionColumn cX13_conditionColumn 2 3 65 (some FieldType.int) [.ref l0, .int l1] σ res := by
  refine gg_entI (own := RX13) (nm := "conditionColumn") (ty := FieldType.int) (by decide +kernel) rfl rfl (Nat.le_of_ble_eq_true rfl) rfl ?_
  intro p e R s m args below meth c Q ls hC hw hQ hl
  have hl : lv_has ls 2 [(0, .ref l0), (1, .int l1)] := hl
  exact X13_conditionColumn_W hC hQ hf hw hl

def X13_conditionValue (E : gE) (l0 : Nat) (l1 : Int32) (σ : gS) : Option (Int32 × gS) :=
  ob (gcl σ l0 11) fun _ =>
  ob (X13_told_f E l0 l1 (1 : Int32) σ) fun x1 =>
  some (x1.1, x1.2)
set_option maxHeartbeats 4000000 in
set_option maxRecDepth 100000 in
theorem X13_conditionValue_W {σ : gS} {l0 : Nat} {l1 : Int32} {res : (Int32 × gS)} {ls : Array Slot} (hC : gC E D A p R s m args meth c cX13_conditionValue 2 RX13 "conditionValue" 3 65) (hQ : gQI E D A p l e R s m args below meth c Q cX13_conditionValue FieldType.int res) (hf : X13_conditionValue E l0 l1 σ = some res) (hw : gW E D A s σ H locs) (hl : lv_has ls 2 [(0, .ref l0), (1, .int l1)]) : W p l e R s m args below meth c H locs cells slots Q (F0 m 0 ls []) := by
  have hC0 := hC
  obtain ⟨hx, hb, hml, hown, hts, -⟩ := hC0
  unfold X13_conditionValue at hf
  refine lv_aload_n hx hb dX13_conditionValue_0 rfl (lv_at hl 0 rfl) ?_
  refine lv_iload_n hx hb dX13_conditionValue_1 rfl (lv_at hl 1 rfl) ?_
  refine lv_iconst (v := 1) hx hb dX13_conditionValue_2 (by decide) ?_
  obtain ⟨_, h3, hf⟩ := ob_some hf
  obtain ⟨x1, h2, hf⟩ := ob_some hf
  refine gg_cVI (As := [.int l1, .int (1 : Int32)]) hC hw (X13_told_M l E D A h2) h3 rfl g_ml_X13_186 hd_X13_told (Nat.le_of_ble_eq_true rfl) (Nat.le_of_ble_eq_true rfl) hl.1 rfl (Nat.le_of_ble_eq_true rfl) dX13_conditionValue_3 (fun H locs cells slots hw => ?_)
  cases hf
  exact hQ _ _ _ _ _ _ dX13_conditionValue_6 rfl hw

def X13_conditionValue_f (E : gE) (l0 : Nat) (l1 : Int32) (σ : gS) : Option (Int32 × gS) := X13_conditionValue E l0 l1 σ
set_option maxRecDepth 100000 in
theorem X13_conditionValue_M (l : Launch) (E : gE) (D : va_G) (A : Nat → Prop) {l0 : Nat} {l1 : Int32} {σ : gS} {res : (Int32 × gS)} (hf : X13_conditionValue_f E l0 l1 σ = some res) : gCI l E D A yX13_conditionValue cX13_conditionValue 2 3 65 (some FieldType.int) [.ref l0, .int l1] σ res := by
  refine gg_entI (own := RX13) (nm := "conditionValue") (ty := FieldType.int) (by decide +kernel) rfl rfl (Nat.le_of_ble_eq_true rfl) rfl ?_
  intro p e R s m args below meth c Q ls hC hw hQ hl
  have hl : lv_has ls 2 [(0, .ref l0), (1, .int l1)] := hl
  exact X13_conditionValue_W hC hQ hf hw hl

def X13_conditionDirection (E : gE) (l0 : Nat) (l1 : Int32) (σ : gS) : Option (Int32 × gS) :=
  ob (gcl σ l0 11) fun _ =>
  ob (X13_told_f E l0 l1 (2 : Int32) σ) fun x1 =>
  some (x1.1, x1.2)
set_option maxHeartbeats 4000000 in
set_option maxRecDepth 100000 in
theorem X13_conditionDirection_W {σ : gS} {l0 : Nat} {l1 : Int32} {res : (Int32 × gS)} {ls : Array Slot} (hC : gC E D A p R s m args meth c cX13_conditionDirection 2 RX13 "conditionDirection" 3 65) (hQ : gQI E D A p l e R s m args below meth c Q cX13_conditionDirection FieldType.int res) (hf : X13_conditionDirection E l0 l1 σ = some res) (hw : gW E D A s σ H locs) (hl : lv_has ls 2 [(0, .ref l0), (1, .int l1)]) : W p l e R s m args below meth c H locs cells slots Q (F0 m 0 ls []) := by
  have hC0 := hC
  obtain ⟨hx, hb, hml, hown, hts, -⟩ := hC0
  unfold X13_conditionDirection at hf
  refine lv_aload_n hx hb dX13_conditionDirection_0 rfl (lv_at hl 0 rfl) ?_
  refine lv_iload_n hx hb dX13_conditionDirection_1 rfl (lv_at hl 1 rfl) ?_
  refine lv_iconst (v := 2) hx hb dX13_conditionDirection_2 (by decide) ?_
  obtain ⟨_, h3, hf⟩ := ob_some hf
  obtain ⟨x1, h2, hf⟩ := ob_some hf
  refine gg_cVI (As := [.int l1, .int (2 : Int32)]) hC hw (X13_told_M l E D A h2) h3 rfl g_ml_X13_186 hd_X13_told (Nat.le_of_ble_eq_true rfl) (Nat.le_of_ble_eq_true rfl) hl.1 rfl (Nat.le_of_ble_eq_true rfl) dX13_conditionDirection_3 (fun H locs cells slots hw => ?_)
  cases hf
  exact hQ _ _ _ _ _ _ dX13_conditionDirection_6 rfl hw

def X13_conditionDirection_f (E : gE) (l0 : Nat) (l1 : Int32) (σ : gS) : Option (Int32 × gS) := X13_conditionDirection E l0 l1 σ
set_option maxRecDepth 100000 in
theorem X13_conditionDirection_M (l : Launch) (E : gE) (D : va_G) (A : Nat → Prop) {l0 : Nat} {l1 : Int32} {σ : gS} {res : (Int32 × gS)} (hf : X13_conditionDirection_f E l0 l1 σ = some res) : gCI l E D A yX13_conditionDirection cX13_conditionDirection 2 3 65 (some FieldType.int) [.ref l0, .int l1] σ res := by
  refine gg_entI (own := RX13) (nm := "conditionDirection") (ty := FieldType.int) (by decide +kernel) rfl rfl (Nat.le_of_ble_eq_true rfl) rfl ?_
  intro p e R s m args below meth c Q ls hC hw hQ hl
  have hl : lv_has ls 2 [(0, .ref l0), (1, .int l1)] := hl
  exact X13_conditionDirection_W hC hQ hf hw hl

def X13_lowerCode (E : gE) (l0 : Nat) (l1 : Int32) (σ : gS) : Option (Int32 × gS) :=
  ob (gcl σ l0 11) fun _ =>
  ob (X13_isCondition_f E σ l0 l1) fun x1 =>
  ob (gcl σ l0 11) fun _ =>
  ob (X13_lacks_f E l0 x1 σ) fun x4 =>
  if x4.1 = 0 then
    ob (gcl x4.2 l0 11) fun _ =>
    ob (X13_lower_f E x4.2 l0 l1) fun x7 =>
    some (x7, x4.2)
  else
    some ((0 : Int32), x4.2)
set_option maxHeartbeats 4000000 in
set_option maxRecDepth 100000 in
theorem X13_lowerCode_W {σ : gS} {l0 : Nat} {l1 : Int32} {res : (Int32 × gS)} {ls : Array Slot} (hC : gC E D A p R s m args meth c cX13_lowerCode 2 RX13 "lowerCode" 4 90) (hQ : gQI E D A p l e R s m args below meth c Q cX13_lowerCode FieldType.int res) (hf : X13_lowerCode E l0 l1 σ = some res) (hw : gW E D A s σ H locs) (hl : lv_has ls 2 [(0, .ref l0), (1, .int l1)]) : W p l e R s m args below meth c H locs cells slots Q (F0 m 0 ls []) := by
  have hC0 := hC
  obtain ⟨hx, hb, hml, hown, hts, -⟩ := hC0
  unfold X13_lowerCode at hf
  refine lv_aload_n hx hb dX13_lowerCode_0 rfl (lv_at hl 0 rfl) ?_
  refine lv_aload_n hx hb dX13_lowerCode_1 rfl (lv_at hl 0 rfl) ?_
  refine lv_iload_n hx hb dX13_lowerCode_2 rfl (lv_at hl 1 rfl) ?_
  obtain ⟨_, h3, hf⟩ := ob_some hf
  obtain ⟨x1, h2, hf⟩ := ob_some hf
  refine gg_cVI (As := [.int l1]) hC hw (X13_isCondition_M l E D A h2) h3 rfl g_ml_X13_171 hd_X13_isCondition (Nat.le_of_ble_eq_true rfl) (Nat.le_of_ble_eq_true rfl) hl.1 rfl (Nat.le_of_ble_eq_true rfl) dX13_lowerCode_3 (fun H locs cells slots hw => ?_)
  obtain ⟨_, h6, hf⟩ := ob_some hf
  obtain ⟨x4, h5, hf⟩ := ob_some hf
  refine gg_cVI (As := [.int x1]) hC hw (X13_lacks_M l E D A h5) h6 rfl g_ml_X13_88 hd_X13_lacks (Nat.le_of_ble_eq_true rfl) (Nat.le_of_ble_eq_true rfl) hl.1 rfl (Nat.le_of_ble_eq_true rfl) dX13_lowerCode_6 (fun H locs cells slots hw => ?_)
  refine lv_if_eq (tgt := 16) hx hb dX13_lowerCode_9 (by decide) (fun c10 => ?_) (fun c10 => ?_)
  · replace hf := (if_pos c10).symm.trans hf
    refine lv_aload_n hx hb dX13_lowerCode_16 rfl (lv_at hl 0 rfl) ?_
    refine lv_iload_n hx hb dX13_lowerCode_17 rfl (lv_at hl 1 rfl) ?_
    obtain ⟨_, h9, hf⟩ := ob_some hf
    obtain ⟨x7, h8, hf⟩ := ob_some hf
    refine gg_cVI (As := [.int l1]) hC hw (X13_lower_M l E D A h8) h9 rfl g_ml_X13_189 hd_X13_lower (Nat.le_of_ble_eq_true rfl) (Nat.le_of_ble_eq_true rfl) hl.1 rfl (Nat.le_of_ble_eq_true rfl) dX13_lowerCode_18 (fun H locs cells slots hw => ?_)
    cases hf
    exact hQ _ _ _ _ _ _ dX13_lowerCode_21 rfl hw
  · replace hf := (if_neg c10).symm.trans hf
    refine lv_iconst (v := 0) hx hb dX13_lowerCode_12 (by decide) ?_
    refine lv_goto (tgt := 21) hx hb dX13_lowerCode_13 (by decide) ?_
    cases hf
    exact hQ _ _ _ _ _ _ dX13_lowerCode_21 rfl hw

def X13_lowerCode_f (E : gE) (l0 : Nat) (l1 : Int32) (σ : gS) : Option (Int32 × gS) := X13_lowerCode E l0 l1 σ
set_option maxRecDepth 100000 in
theorem X13_lowerCode_M (l : Launch) (E : gE) (D : va_G) (A : Nat → Prop) {l0 : Nat} {l1 : Int32} {σ : gS} {res : (Int32 × gS)} (hf : X13_lowerCode_f E l0 l1 σ = some res) : gCI l E D A yX13_lowerCode cX13_lowerCode 2 4 90 (some FieldType.int) [.ref l0, .int l1] σ res := by
  refine gg_entI (own := RX13) (nm := "lowerCode") (ty := FieldType.int) (by decide +kernel) rfl rfl (Nat.le_of_ble_eq_true rfl) rfl ?_
  intro p e R s m args below meth c Q ls hC hw hQ hl
  have hl : lv_has ls 2 [(0, .ref l0), (1, .int l1)] := hl
  exact X13_lowerCode_W hC hQ hf hw hl

def X13_upperCode (E : gE) (l0 : Nat) (l1 : Int32) (σ : gS) : Option (Int32 × gS) :=
  ob (gcl σ l0 11) fun _ =>
  ob (X13_isCondition_f E σ l0 l1) fun x1 =>
  ob (gcl σ l0 11) fun _ =>
  ob (X13_lacks_f E l0 x1 σ) fun x4 =>
  if x4.1 = 0 then
    ob (gcl x4.2 l0 11) fun _ =>
    ob (X13_upper_f E x4.2 l0 l1) fun x7 =>
    some (x7, x4.2)
  else
    some ((0 : Int32), x4.2)
set_option maxHeartbeats 4000000 in
set_option maxRecDepth 100000 in
theorem X13_upperCode_W {σ : gS} {l0 : Nat} {l1 : Int32} {res : (Int32 × gS)} {ls : Array Slot} (hC : gC E D A p R s m args meth c cX13_upperCode 2 RX13 "upperCode" 4 89) (hQ : gQI E D A p l e R s m args below meth c Q cX13_upperCode FieldType.int res) (hf : X13_upperCode E l0 l1 σ = some res) (hw : gW E D A s σ H locs) (hl : lv_has ls 2 [(0, .ref l0), (1, .int l1)]) : W p l e R s m args below meth c H locs cells slots Q (F0 m 0 ls []) := by
  have hC0 := hC
  obtain ⟨hx, hb, hml, hown, hts, -⟩ := hC0
  unfold X13_upperCode at hf
  refine lv_aload_n hx hb dX13_upperCode_0 rfl (lv_at hl 0 rfl) ?_
  refine lv_aload_n hx hb dX13_upperCode_1 rfl (lv_at hl 0 rfl) ?_
  refine lv_iload_n hx hb dX13_upperCode_2 rfl (lv_at hl 1 rfl) ?_
  obtain ⟨_, h3, hf⟩ := ob_some hf
  obtain ⟨x1, h2, hf⟩ := ob_some hf
  refine gg_cVI (As := [.int l1]) hC hw (X13_isCondition_M l E D A h2) h3 rfl g_ml_X13_171 hd_X13_isCondition (Nat.le_of_ble_eq_true rfl) (Nat.le_of_ble_eq_true rfl) hl.1 rfl (Nat.le_of_ble_eq_true rfl) dX13_upperCode_3 (fun H locs cells slots hw => ?_)
  obtain ⟨_, h6, hf⟩ := ob_some hf
  obtain ⟨x4, h5, hf⟩ := ob_some hf
  refine gg_cVI (As := [.int x1]) hC hw (X13_lacks_M l E D A h5) h6 rfl g_ml_X13_88 hd_X13_lacks (Nat.le_of_ble_eq_true rfl) (Nat.le_of_ble_eq_true rfl) hl.1 rfl (Nat.le_of_ble_eq_true rfl) dX13_upperCode_6 (fun H locs cells slots hw => ?_)
  refine lv_if_eq (tgt := 16) hx hb dX13_upperCode_9 (by decide) (fun c10 => ?_) (fun c10 => ?_)
  · replace hf := (if_pos c10).symm.trans hf
    refine lv_aload_n hx hb dX13_upperCode_16 rfl (lv_at hl 0 rfl) ?_
    refine lv_iload_n hx hb dX13_upperCode_17 rfl (lv_at hl 1 rfl) ?_
    obtain ⟨_, h9, hf⟩ := ob_some hf
    obtain ⟨x7, h8, hf⟩ := ob_some hf
    refine gg_cVI (As := [.int l1]) hC hw (X13_upper_M l E D A h8) h9 rfl g_ml_X13_192 hd_X13_upper (Nat.le_of_ble_eq_true rfl) (Nat.le_of_ble_eq_true rfl) hl.1 rfl (Nat.le_of_ble_eq_true rfl) dX13_upperCode_18 (fun H locs cells slots hw => ?_)
    cases hf
    exact hQ _ _ _ _ _ _ dX13_upperCode_21 rfl hw
  · replace hf := (if_neg c10).symm.trans hf
    refine lv_iconst (v := 0) hx hb dX13_upperCode_12 (by decide) ?_
    refine lv_goto (tgt := 21) hx hb dX13_upperCode_13 (by decide) ?_
    cases hf
    exact hQ _ _ _ _ _ _ dX13_upperCode_21 rfl hw

def X13_upperCode_f (E : gE) (l0 : Nat) (l1 : Int32) (σ : gS) : Option (Int32 × gS) := X13_upperCode E l0 l1 σ
set_option maxRecDepth 100000 in
theorem X13_upperCode_M (l : Launch) (E : gE) (D : va_G) (A : Nat → Prop) {l0 : Nat} {l1 : Int32} {σ : gS} {res : (Int32 × gS)} (hf : X13_upperCode_f E l0 l1 σ = some res) : gCI l E D A yX13_upperCode cX13_upperCode 2 4 89 (some FieldType.int) [.ref l0, .int l1] σ res := by
  refine gg_entI (own := RX13) (nm := "upperCode") (ty := FieldType.int) (by decide +kernel) rfl rfl (Nat.le_of_ble_eq_true rfl) rfl ?_
  intro p e R s m args below meth c Q ls hC hw hQ hl
  have hl : lv_has ls 2 [(0, .ref l0), (1, .int l1)] := hl
  exact X13_upperCode_W hC hQ hf hw hl

def X13_matches (E : gE) (l0 : Nat) (l1 : Int32) (σ : gS) : Option (Int32 × gS) :=
  ob (gcl σ l0 11) fun _ =>
  ob (X13_isCondition_f E σ l0 l1) fun x1 =>
  ob (gcl σ l0 11) fun _ =>
  ob (X13_lacks_f E l0 x1 σ) fun x4 =>
  if x4.1 = 0 then
    ob (gcl x4.2 l0 11) fun _ =>
    ob (X13_countMatches_f E x4.2 l0 l1) fun x7 =>
    some (x7, x4.2)
  else
    some ((0 : Int32), x4.2)
set_option maxHeartbeats 4000000 in
set_option maxRecDepth 100000 in
theorem X13_matches_W {σ : gS} {l0 : Nat} {l1 : Int32} {res : (Int32 × gS)} {ls : Array Slot} (hC : gC E D A p R s m args meth c cX13_matches 2 RX13 "matches" 4 91) (hQ : gQI E D A p l e R s m args below meth c Q cX13_matches FieldType.int res) (hf : X13_matches E l0 l1 σ = some res) (hw : gW E D A s σ H locs) (hl : lv_has ls 2 [(0, .ref l0), (1, .int l1)]) : W p l e R s m args below meth c H locs cells slots Q (F0 m 0 ls []) := by
  have hC0 := hC
  obtain ⟨hx, hb, hml, hown, hts, -⟩ := hC0
  unfold X13_matches at hf
  refine lv_aload_n hx hb dX13_matches_0 rfl (lv_at hl 0 rfl) ?_
  refine lv_aload_n hx hb dX13_matches_1 rfl (lv_at hl 0 rfl) ?_
  refine lv_iload_n hx hb dX13_matches_2 rfl (lv_at hl 1 rfl) ?_
  obtain ⟨_, h3, hf⟩ := ob_some hf
  obtain ⟨x1, h2, hf⟩ := ob_some hf
  refine gg_cVI (As := [.int l1]) hC hw (X13_isCondition_M l E D A h2) h3 rfl g_ml_X13_171 hd_X13_isCondition (Nat.le_of_ble_eq_true rfl) (Nat.le_of_ble_eq_true rfl) hl.1 rfl (Nat.le_of_ble_eq_true rfl) dX13_matches_3 (fun H locs cells slots hw => ?_)
  obtain ⟨_, h6, hf⟩ := ob_some hf
  obtain ⟨x4, h5, hf⟩ := ob_some hf
  refine gg_cVI (As := [.int x1]) hC hw (X13_lacks_M l E D A h5) h6 rfl g_ml_X13_88 hd_X13_lacks (Nat.le_of_ble_eq_true rfl) (Nat.le_of_ble_eq_true rfl) hl.1 rfl (Nat.le_of_ble_eq_true rfl) dX13_matches_6 (fun H locs cells slots hw => ?_)
  refine lv_if_eq (tgt := 16) hx hb dX13_matches_9 (by decide) (fun c10 => ?_) (fun c10 => ?_)
  · replace hf := (if_pos c10).symm.trans hf
    refine lv_aload_n hx hb dX13_matches_16 rfl (lv_at hl 0 rfl) ?_
    refine lv_iload_n hx hb dX13_matches_17 rfl (lv_at hl 1 rfl) ?_
    obtain ⟨_, h9, hf⟩ := ob_some hf
    obtain ⟨x7, h8, hf⟩ := ob_some hf
    refine gg_cVI (As := [.int l1]) hC hw (X13_countMatches_M l E D A h8) h9 rfl g_ml_X13_195 hd_X13_countMatches (Nat.le_of_ble_eq_true rfl) (Nat.le_of_ble_eq_true rfl) hl.1 rfl (Nat.le_of_ble_eq_true rfl) dX13_matches_18 (fun H locs cells slots hw => ?_)
    cases hf
    exact hQ _ _ _ _ _ _ dX13_matches_21 rfl hw
  · replace hf := (if_neg c10).symm.trans hf
    refine lv_iconst (v := 0) hx hb dX13_matches_12 (by decide) ?_
    refine lv_goto (tgt := 21) hx hb dX13_matches_13 (by decide) ?_
    cases hf
    exact hQ _ _ _ _ _ _ dX13_matches_21 rfl hw

def X13_matches_f (E : gE) (l0 : Nat) (l1 : Int32) (σ : gS) : Option (Int32 × gS) := X13_matches E l0 l1 σ
set_option maxRecDepth 100000 in
theorem X13_matches_M (l : Launch) (E : gE) (D : va_G) (A : Nat → Prop) {l0 : Nat} {l1 : Int32} {σ : gS} {res : (Int32 × gS)} (hf : X13_matches_f E l0 l1 σ = some res) : gCI l E D A yX13_matches cX13_matches 2 4 91 (some FieldType.int) [.ref l0, .int l1] σ res := by
  refine gg_entI (own := RX13) (nm := "matches") (ty := FieldType.int) (by decide +kernel) rfl rfl (Nat.le_of_ble_eq_true rfl) rfl ?_
  intro p e R s m args below meth c Q ls hC hw hQ hl
  have hl : lv_has ls 2 [(0, .ref l0), (1, .int l1)] := hl
  exact X13_matches_W hC hQ hf hw hl

end MM2
