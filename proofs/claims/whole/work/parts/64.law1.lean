/-! decompiled: the law -/
section ML0
variable {p : Program} {l : Launch} {e : Env} {R : Room} {s : State} {m : MethodId} {args : Array Value} {below : List Frame} {meth : Method} {c : Code} {H : Heap} {locs : List Loc} {cells slots : Nat} {Q : State → Prop} {nm : String} {E : gE} {D : va_G} {A : Nat → Prop}
def L_law_3358 (E : gE) (r_28 : Nat → Nat → Nat → Nat → Nat → Int32 → gS → Option (Int32 × gS)) (l0 : Nat) (l1 : Nat) (l2 : Nat) (l3 : Nat) (l4 : Nat) (l5 : Int32) (σ : gS) : Option (Int32 × gS) :=
  r_28 l0 l1 l2 l3 l4 (l5 + 6) σ
set_option maxHeartbeats 4000000 in
set_option maxRecDepth 100000 in
theorem L_law_3358_W {σ : gS} {l0 : Nat} {l1 : Nat} {l2 : Nat} {l3 : Nat} {l4 : Nat} {l5 : Int32} {res : (Int32 × gS)} {ls : Array Slot} (hC : gC E D A p R s m args meth c cL_law 10 RL nm 11 259) (hQ : gQI E D A p l e R s m args below meth c Q cL_law FieldType.boolean res) (hst : l.stackTraces = false) {r_28 : Nat → Nat → Nat → Nat → Nat → Int32 → gS → Option (Int32 × gS)} (h_28 : ∀ {l0 : Nat} {l1 : Nat} {l2 : Nat} {l3 : Nat} {l4 : Nat} {l5 : Int32} {σ : gS} {H : Heap} {locs : List Loc} {cells slots : Nat} {ls : Array Slot}, r_28 l0 l1 l2 l3 l4 l5 σ = some res → gW E D A s σ H locs → lv_has ls 10 [(0, .ref l0), (1, .ref l1), (2, .ref l2), (3, .ref l3), (4, .ref l4), (5, .int l5)] → W p l e R s m args below meth c H locs cells slots Q (F0 m 28 ls [])) (hf : L_law_3358 E r_28 l0 l1 l2 l3 l4 l5 σ = some res) (hw : gW E D A s σ H locs) (hl : lv_has ls 10 [(0, .ref l0), (1, .ref l1), (2, .ref l2), (3, .ref l3), (4, .ref l4), (5, .int l5)]) : W p l e R s m args below meth c H locs cells slots Q (F0 m 3358 ls []) := by
  have hC0 := hC
  obtain ⟨hx, hb, hml, hown, hts, -⟩ := hC0
  unfold L_law_3358 at hf
  refine lv_iinc (v := (l5 + 6)) (lv' := [(5, .int (l5 + 6)), (0, .ref l0), (1, .ref l1), (2, .ref l2), (3, .ref l3), (4, .ref l4)]) hx hb dL_law_3358 hl (k := 5) rfl rfl (by decide) rfl (fun ls hl => ?_)
  refine lv_goto (tgt := 28) hx hb dL_law_3361 (by decide) ?_
  exact h_28 hf hw (lv_sub hl [1, 2, 3, 4, 5, 0] rfl)

def L_law_308 (E : gE) (r_28 : Nat → Nat → Nat → Nat → Nat → Int32 → gS → Option (Int32 × gS)) (l0 : Nat) (l1 : Nat) (l2 : Nat) (l3 : Nat) (l4 : Nat) (l5 : Int32) (σ : gS) : Option (Int32 × gS) :=
  ob (graI E 0 σ l0 (l5 + (1 : Int32))) fun x1 =>
  ob (graI E 0 σ l0 (l5 + (2 : Int32))) fun x3 =>
  ob (graI E 0 σ l0 (l5 + (3 : Int32))) fun x5 =>
  ob (graI E 0 σ l0 (l5 + (4 : Int32))) fun x7 =>
  ob (graI E 0 σ l0 (l5 + (5 : Int32))) fun x9 =>
  ob (gcl σ l1 10) fun _ =>
  ob (X12_appendText_f E l1 x1 x3 x5 x7 x9 σ) fun x11 =>
  ob (graI E 0 x11.2 l0 (l5 + (1 : Int32))) fun x14 =>
  ob (graI E 0 x11.2 l0 (l5 + (2 : Int32))) fun x16 =>
  ob (graI E 0 x11.2 l0 (l5 + (3 : Int32))) fun x18 =>
  ob (graI E 0 x11.2 l0 (l5 + (4 : Int32))) fun x20 =>
  ob (graI E 0 x11.2 l0 (l5 + (5 : Int32))) fun x22 =>
  ob (gcl x11.2 l2 11) fun _ =>
  ob (X13_appendText_f E l2 x14 x16 x18 x20 x22 x11.2) fun x24 =>
  if x11.1 = x24.1 then
    L_law_3358 E r_28 l0 l1 l2 l3 l4 l5 x24.2
  else
    some ((0 : Int32), x24.2)
set_option maxHeartbeats 4000000 in
set_option maxRecDepth 100000 in
theorem L_law_308_W {σ : gS} {l0 : Nat} {l1 : Nat} {l2 : Nat} {l3 : Nat} {l4 : Nat} {l5 : Int32} {res : (Int32 × gS)} {ls : Array Slot} (hC : gC E D A p R s m args meth c cL_law 10 RL nm 11 259) (hQ : gQI E D A p l e R s m args below meth c Q cL_law FieldType.boolean res) (hst : l.stackTraces = false) {r_28 : Nat → Nat → Nat → Nat → Nat → Int32 → gS → Option (Int32 × gS)} (h_28 : ∀ {l0 : Nat} {l1 : Nat} {l2 : Nat} {l3 : Nat} {l4 : Nat} {l5 : Int32} {σ : gS} {H : Heap} {locs : List Loc} {cells slots : Nat} {ls : Array Slot}, r_28 l0 l1 l2 l3 l4 l5 σ = some res → gW E D A s σ H locs → lv_has ls 10 [(0, .ref l0), (1, .ref l1), (2, .ref l2), (3, .ref l3), (4, .ref l4), (5, .int l5)] → W p l e R s m args below meth c H locs cells slots Q (F0 m 28 ls [])) (hf : L_law_308 E r_28 l0 l1 l2 l3 l4 l5 σ = some res) (hw : gW E D A s σ H locs) (hl : lv_has ls 10 [(0, .ref l0), (1, .ref l1), (2, .ref l2), (3, .ref l3), (4, .ref l4), (5, .int l5)]) : W p l e R s m args below meth c H locs cells slots Q (F0 m 308 ls []) := by
  have hC0 := hC
  obtain ⟨hx, hb, hml, hown, hts, -⟩ := hC0
  unfold L_law_308 at hf
  refine lv_aload_n hx hb dL_law_308 rfl (lv_at hl 1 rfl) ?_
  refine lv_aload_n hx hb dL_law_309 rfl (lv_at hl 0 rfl) ?_
  refine lv_iload hx hb dL_law_310 (lv_at hl 5 rfl) ?_
  refine lv_iconst (v := 1) hx hb dL_law_312 (by decide) ?_
  refine lv_iadd hx hb dL_law_313 ?_
  obtain ⟨x1, h2, hf⟩ := ob_some hf
  refine gg_aldI hC hw h2 dL_law_314 ?_
  refine lv_aload_n hx hb dL_law_315 rfl (lv_at hl 0 rfl) ?_
  refine lv_iload hx hb dL_law_316 (lv_at hl 5 rfl) ?_
  refine lv_iconst (v := 2) hx hb dL_law_318 (by decide) ?_
  refine lv_iadd hx hb dL_law_319 ?_
  obtain ⟨x3, h4, hf⟩ := ob_some hf
  refine gg_aldI hC hw h4 dL_law_320 ?_
  refine lv_aload_n hx hb dL_law_321 rfl (lv_at hl 0 rfl) ?_
  refine lv_iload hx hb dL_law_322 (lv_at hl 5 rfl) ?_
  refine lv_iconst (v := 3) hx hb dL_law_324 (by decide) ?_
  refine lv_iadd hx hb dL_law_325 ?_
  obtain ⟨x5, h6, hf⟩ := ob_some hf
  refine gg_aldI hC hw h6 dL_law_326 ?_
  refine lv_aload_n hx hb dL_law_327 rfl (lv_at hl 0 rfl) ?_
  refine lv_iload hx hb dL_law_328 (lv_at hl 5 rfl) ?_
  refine lv_iconst (v := 4) hx hb dL_law_330 (by decide) ?_
  refine lv_iadd hx hb dL_law_331 ?_
  obtain ⟨x7, h8, hf⟩ := ob_some hf
  refine gg_aldI hC hw h8 dL_law_332 ?_
  refine lv_aload_n hx hb dL_law_333 rfl (lv_at hl 0 rfl) ?_
  refine lv_iload hx hb dL_law_334 (lv_at hl 5 rfl) ?_
  refine lv_iconst (v := 5) hx hb dL_law_336 (by decide) ?_
  refine lv_iadd hx hb dL_law_337 ?_
  obtain ⟨x9, h10, hf⟩ := ob_some hf
  refine gg_aldI hC hw h10 dL_law_338 ?_
  obtain ⟨_, h13, hf⟩ := ob_some hf
  obtain ⟨x11, h12, hf⟩ := ob_some hf
  refine gg_cVI (As := [.int x1, .int x3, .int x5, .int x7, .int x9]) hC hw (X12_appendText_M l E D A h12) h13 rfl g_ml_L_163 hd_X12_appendText (Nat.le_of_ble_eq_true rfl) (Nat.le_of_ble_eq_true rfl) hl.1 rfl (Nat.le_of_ble_eq_true rfl) dL_law_339 (fun H locs cells slots hw => ?_)
  refine lv_aload_n hx hb dL_law_342 rfl (lv_at hl 2 rfl) ?_
  refine lv_aload_n hx hb dL_law_343 rfl (lv_at hl 0 rfl) ?_
  refine lv_iload hx hb dL_law_344 (lv_at hl 5 rfl) ?_
  refine lv_iconst (v := 1) hx hb dL_law_346 (by decide) ?_
  refine lv_iadd hx hb dL_law_347 ?_
  obtain ⟨x14, h15, hf⟩ := ob_some hf
  refine gg_aldI hC hw h15 dL_law_348 ?_
  refine lv_aload_n hx hb dL_law_349 rfl (lv_at hl 0 rfl) ?_
  refine lv_iload hx hb dL_law_350 (lv_at hl 5 rfl) ?_
  refine lv_iconst (v := 2) hx hb dL_law_352 (by decide) ?_
  refine lv_iadd hx hb dL_law_353 ?_
  obtain ⟨x16, h17, hf⟩ := ob_some hf
  refine gg_aldI hC hw h17 dL_law_354 ?_
  refine lv_aload_n hx hb dL_law_355 rfl (lv_at hl 0 rfl) ?_
  refine lv_iload hx hb dL_law_356 (lv_at hl 5 rfl) ?_
  refine lv_iconst (v := 3) hx hb dL_law_358 (by decide) ?_
  refine lv_iadd hx hb dL_law_359 ?_
  obtain ⟨x18, h19, hf⟩ := ob_some hf
  refine gg_aldI hC hw h19 dL_law_360 ?_
  refine lv_aload_n hx hb dL_law_361 rfl (lv_at hl 0 rfl) ?_
  refine lv_iload hx hb dL_law_362 (lv_at hl 5 rfl) ?_
  refine lv_iconst (v := 4) hx hb dL_law_364 (by decide) ?_
  refine lv_iadd hx hb dL_law_365 ?_
  obtain ⟨x20, h21, hf⟩ := ob_some hf
  refine gg_aldI hC hw h21 dL_law_366 ?_
  refine lv_aload_n hx hb dL_law_367 rfl (lv_at hl 0 rfl) ?_
  refine lv_iload hx hb dL_law_368 (lv_at hl 5 rfl) ?_
  refine lv_iconst (v := 5) hx hb dL_law_370 (by decide) ?_
  refine lv_iadd hx hb dL_law_371 ?_
  obtain ⟨x22, h23, hf⟩ := ob_some hf
  refine gg_aldI hC hw h23 dL_law_372 ?_
  obtain ⟨_, h26, hf⟩ := ob_some hf
  obtain ⟨x24, h25, hf⟩ := ob_some hf
  refine gg_cVI (As := [.int x14, .int x16, .int x18, .int x20, .int x22]) hC hw (X13_appendText_M l E D A h25) h26 rfl g_ml_L_167 hd_X13_appendText (Nat.le_of_ble_eq_true rfl) (Nat.le_of_ble_eq_true rfl) hl.1 rfl (Nat.le_of_ble_eq_true rfl) dL_law_373 (fun H locs cells slots hw => ?_)
  refine lv_icmp_eq (tgt := 3358) hx hb dL_law_376 (by decide) (fun c27 => ?_) (fun c27 => ?_)
  · replace hf := (if_pos c27).symm.trans hf
    exact L_law_3358_W hC hQ hst h_28 hf hw (lv_sub hl [0, 1, 2, 3, 4, 5] rfl)
  · replace hf := (if_neg c27).symm.trans hf
    refine lv_iconst (v := 0) hx hb dL_law_379 (by decide) ?_
    cases hf
    exact hQ _ _ _ _ _ _ dL_law_380 gz0 hw

def L_law_381 (E : gE) (r_28 : Nat → Nat → Nat → Nat → Nat → Int32 → gS → Option (Int32 × gS)) (l0 : Nat) (l1 : Nat) (l2 : Nat) (l3 : Nat) (l4 : Nat) (l5 : Int32) (σ : gS) : Option (Int32 × gS) :=
  ob (graI E 0 σ l0 (l5 + (1 : Int32))) fun x28 =>
  ob (L_loadTable_f E l1 x28 l3 σ) fun x30 =>
  ob (graI E 0 x30.2 l0 (l5 + (1 : Int32))) fun x32 =>
  ob (gcl x30.2 l2 11) fun _ =>
  ob (X13_loadTable_f E l2 x32 x30.2) fun x34 =>
  ob (gcl x34.2 l2 11) fun _ =>
  ob (X13_thrown_f E x34.2 l2) fun x37 =>
  if x37 = x30.1 then
    if x30.1 = 0 then
      ob (graJ E x34.2 l3 (0 : Int32)) fun x40 =>
      if (lg_cmp x40 ((x34.1).toInt64)) = 0 then
        L_law_3358 E r_28 l0 l1 l2 l3 l4 l5 x34.2
      else
        some ((0 : Int32), x34.2)
    else
      L_law_3358 E r_28 l0 l1 l2 l3 l4 l5 x34.2
  else
    some ((0 : Int32), x34.2)
set_option maxHeartbeats 4000000 in
set_option maxRecDepth 100000 in
theorem L_law_381_W {σ : gS} {l0 : Nat} {l1 : Nat} {l2 : Nat} {l3 : Nat} {l4 : Nat} {l5 : Int32} {res : (Int32 × gS)} {ls : Array Slot} (hC : gC E D A p R s m args meth c cL_law 10 RL nm 11 259) (hQ : gQI E D A p l e R s m args below meth c Q cL_law FieldType.boolean res) (hst : l.stackTraces = false) {r_28 : Nat → Nat → Nat → Nat → Nat → Int32 → gS → Option (Int32 × gS)} (h_28 : ∀ {l0 : Nat} {l1 : Nat} {l2 : Nat} {l3 : Nat} {l4 : Nat} {l5 : Int32} {σ : gS} {H : Heap} {locs : List Loc} {cells slots : Nat} {ls : Array Slot}, r_28 l0 l1 l2 l3 l4 l5 σ = some res → gW E D A s σ H locs → lv_has ls 10 [(0, .ref l0), (1, .ref l1), (2, .ref l2), (3, .ref l3), (4, .ref l4), (5, .int l5)] → W p l e R s m args below meth c H locs cells slots Q (F0 m 28 ls [])) (hf : L_law_381 E r_28 l0 l1 l2 l3 l4 l5 σ = some res) (hw : gW E D A s σ H locs) (hl : lv_has ls 10 [(0, .ref l0), (1, .ref l1), (2, .ref l2), (3, .ref l3), (4, .ref l4), (5, .int l5)]) : W p l e R s m args below meth c H locs cells slots Q (F0 m 381 ls []) := by
  have hC0 := hC
  obtain ⟨hx, hb, hml, hown, hts, -⟩ := hC0
  unfold L_law_381 at hf
  refine lv_aload_n hx hb dL_law_381 rfl (lv_at hl 1 rfl) ?_
  refine lv_aload_n hx hb dL_law_382 rfl (lv_at hl 0 rfl) ?_
  refine lv_iload hx hb dL_law_383 (lv_at hl 5 rfl) ?_
  refine lv_iconst (v := 1) hx hb dL_law_385 (by decide) ?_
  refine lv_iadd hx hb dL_law_386 ?_
  obtain ⟨x28, h29, hf⟩ := ob_some hf
  refine gg_aldI hC hw h29 dL_law_387 ?_
  refine lv_aload_n hx hb dL_law_388 rfl (lv_at hl 3 rfl) ?_
  obtain ⟨x30, h31, hf⟩ := ob_some hf
  refine gg_yHI (As := [.ref l1, .int x28, .ref l3]) hC hw (L_loadTable_M l hst E D A h31) g_ml_L_168 hd_L_loadTable.2 (Nat.le_of_ble_eq_true rfl) (Nat.le_of_ble_eq_true rfl) hl.1 rfl (Nat.le_of_ble_eq_true rfl) dL_law_389 (fun _ _ he => nomatch (congrArg Prod.fst he)) (fun r9 σ9 he H locs cells slots hw => ?_)
  cases he
  refine lv_istore (lv' := [(6, .int x30.1), (0, .ref l0), (1, .ref l1), (2, .ref l2), (3, .ref l3), (4, .ref l4), (5, .int l5)]) hx hb dL_law_392 hl (by decide) rfl (fun ls hl => ?_)
  refine lv_aload_n hx hb dL_law_394 rfl (lv_at hl 3 rfl) ?_
  refine lv_aload_n hx hb dL_law_395 rfl (lv_at hl 1 rfl) ?_
  refine lv_iload hx hb dL_law_396 (lv_at hl 6 rfl) ?_
  refine lv_iconst (v := 1) hx hb dL_law_398 (by decide) ?_
  refine lv_iadd hx hb dL_law_399 ?_
  obtain ⟨x32, h33, hf⟩ := ob_some hf
  refine gg_aldI hC hw h33 dL_law_400 ?_
  obtain ⟨_, h36, hf⟩ := ob_some hf
  obtain ⟨x34, h35, hf⟩ := ob_some hf
  refine gg_cVI (As := [.int x32]) hC hw (X13_loadTable_M l E D A h35) h36 rfl g_ml_L_173 hd_X13_loadTable (Nat.le_of_ble_eq_true rfl) (Nat.le_of_ble_eq_true rfl) hl.1 rfl (Nat.le_of_ble_eq_true rfl) dL_law_401 (fun H locs cells slots hw => ?_)
  refine lv_istore (lv' := [(7, .int x34.1), (6, .int x30.1), (0, .ref l0), (1, .ref l1), (2, .ref l2), (3, .ref l3), (4, .ref l4), (5, .int l5)]) hx hb dL_law_404 hl (by decide) rfl (fun ls hl => ?_)
  refine lv_aload_n hx hb dL_law_406 rfl (lv_at hl 4 rfl) ?_
  obtain ⟨_, h39, hf⟩ := ob_some hf
  obtain ⟨x37, h38, hf⟩ := ob_some hf
  refine gg_cVI (As := []) hC hw (X13_thrown_M l E D A h38) h39 rfl g_ml_L_174 hd_X13_thrown (Nat.le_of_ble_eq_true rfl) (Nat.le_of_ble_eq_true rfl) hl.1 rfl (Nat.le_of_ble_eq_true rfl) dL_law_407 (fun H locs cells slots hw => ?_)
  refine lv_iload hx hb dL_law_410 (lv_at hl 1 rfl) ?_
  refine lv_icmp_eq (tgt := 417) hx hb dL_law_412 (by decide) (fun c44 => ?_) (fun c44 => ?_)
  · replace hf := (if_pos c44).symm.trans hf
    refine lv_iload hx hb dL_law_417 (lv_at hl 1 rfl) ?_
    refine lv_if_ne (tgt := 434) hx hb dL_law_419 (by decide) (fun c43 => ?_) (fun c43 => ?_)
    · replace hf := (if_neg c43).symm.trans hf
      refine lv_goto (tgt := 3358) hx hb dL_law_434 (by decide) ?_
      exact L_law_3358_W hC hQ hst h_28 hf hw (lv_sub hl [2, 3, 4, 5, 6, 7] rfl)
    · replace hf := (if_pos c43).symm.trans hf
      refine lv_aload_n hx hb dL_law_422 rfl (lv_at hl 5 rfl) ?_
      refine lv_iconst (v := 0) hx hb dL_law_423 (by decide) ?_
      obtain ⟨x40, h41, hf⟩ := ob_some hf
      refine gg_aldJ hC hw h41 dL_law_424 ?_
      refine lv_iload hx hb dL_law_425 (lv_at hl 0 rfl) ?_
      refine lv_i2l (v := (x34.1).toInt64) hx hb dL_law_427 rfl ?_
      refine W.lcmp hx hb dL_law_428 ?_
      refine lv_if_eq (tgt := 434) hx hb dL_law_429 (by decide) (fun c42 => ?_) (fun c42 => ?_)
      · replace hf := (if_pos c42).symm.trans hf
        refine lv_goto (tgt := 3358) hx hb dL_law_434 (by decide) ?_
        exact L_law_3358_W hC hQ hst h_28 hf hw (lv_sub hl [2, 3, 4, 5, 6, 7] rfl)
      · replace hf := (if_neg c42).symm.trans hf
        refine lv_iconst (v := 0) hx hb dL_law_432 (by decide) ?_
        cases hf
        exact hQ _ _ _ _ _ _ dL_law_433 gz0 hw
  · replace hf := (if_neg c44).symm.trans hf
    refine lv_iconst (v := 0) hx hb dL_law_415 (by decide) ?_
    cases hf
    exact hQ _ _ _ _ _ _ dL_law_416 gz0 hw

def L_law_437 (E : gE) (r_28 : Nat → Nat → Nat → Nat → Nat → Int32 → gS → Option (Int32 × gS)) (l0 : Nat) (l1 : Nat) (l2 : Nat) (l3 : Nat) (l4 : Nat) (l5 : Int32) (σ : gS) : Option (Int32 × gS) :=
  ob (gcl σ l1 10) fun _ =>
  ob (X12_errorCode_f E σ l1) fun x45 =>
  ob (gcl σ l2 11) fun _ =>
  ob (X13_errorCode_f E l2 σ) fun x48 =>
  if x45 = x48.1 then
    L_law_3358 E r_28 l0 l1 l2 l3 l4 l5 x48.2
  else
    some ((0 : Int32), x48.2)
set_option maxHeartbeats 4000000 in
set_option maxRecDepth 100000 in
theorem L_law_437_W {σ : gS} {l0 : Nat} {l1 : Nat} {l2 : Nat} {l3 : Nat} {l4 : Nat} {l5 : Int32} {res : (Int32 × gS)} {ls : Array Slot} (hC : gC E D A p R s m args meth c cL_law 10 RL nm 11 259) (hQ : gQI E D A p l e R s m args below meth c Q cL_law FieldType.boolean res) (hst : l.stackTraces = false) {r_28 : Nat → Nat → Nat → Nat → Nat → Int32 → gS → Option (Int32 × gS)} (h_28 : ∀ {l0 : Nat} {l1 : Nat} {l2 : Nat} {l3 : Nat} {l4 : Nat} {l5 : Int32} {σ : gS} {H : Heap} {locs : List Loc} {cells slots : Nat} {ls : Array Slot}, r_28 l0 l1 l2 l3 l4 l5 σ = some res → gW E D A s σ H locs → lv_has ls 10 [(0, .ref l0), (1, .ref l1), (2, .ref l2), (3, .ref l3), (4, .ref l4), (5, .int l5)] → W p l e R s m args below meth c H locs cells slots Q (F0 m 28 ls [])) (hf : L_law_437 E r_28 l0 l1 l2 l3 l4 l5 σ = some res) (hw : gW E D A s σ H locs) (hl : lv_has ls 10 [(0, .ref l0), (1, .ref l1), (2, .ref l2), (3, .ref l3), (4, .ref l4), (5, .int l5)]) : W p l e R s m args below meth c H locs cells slots Q (F0 m 437 ls []) := by
  have hC0 := hC
  obtain ⟨hx, hb, hml, hown, hts, -⟩ := hC0
  unfold L_law_437 at hf
  refine lv_aload_n hx hb dL_law_437 rfl (lv_at hl 1 rfl) ?_
  obtain ⟨_, h47, hf⟩ := ob_some hf
  obtain ⟨x45, h46, hf⟩ := ob_some hf
  refine gg_cVI (As := []) hC hw (X12_errorCode_M l E D A h46) h47 rfl g_ml_L_177 hd_X12_errorCode (Nat.le_of_ble_eq_true rfl) (Nat.le_of_ble_eq_true rfl) hl.1 rfl (Nat.le_of_ble_eq_true rfl) dL_law_438 (fun H locs cells slots hw => ?_)
  refine lv_aload_n hx hb dL_law_441 rfl (lv_at hl 2 rfl) ?_
  obtain ⟨_, h50, hf⟩ := ob_some hf
  obtain ⟨x48, h49, hf⟩ := ob_some hf
  refine gg_cVI (As := []) hC hw (X13_errorCode_M l E D A h49) h50 rfl g_ml_L_180 hd_X13_errorCode (Nat.le_of_ble_eq_true rfl) (Nat.le_of_ble_eq_true rfl) hl.1 rfl (Nat.le_of_ble_eq_true rfl) dL_law_442 (fun H locs cells slots hw => ?_)
  refine lv_icmp_eq (tgt := 3358) hx hb dL_law_445 (by decide) (fun c51 => ?_) (fun c51 => ?_)
  · replace hf := (if_pos c51).symm.trans hf
    exact L_law_3358_W hC hQ hst h_28 hf hw (lv_sub hl [0, 1, 2, 3, 4, 5] rfl)
  · replace hf := (if_neg c51).symm.trans hf
    refine lv_iconst (v := 0) hx hb dL_law_448 (by decide) ?_
    cases hf
    exact hQ _ _ _ _ _ _ dL_law_449 gz0 hw

def L_law_450 (E : gE) (r_28 : Nat → Nat → Nat → Nat → Nat → Int32 → gS → Option (Int32 × gS)) (l0 : Nat) (l1 : Nat) (l2 : Nat) (l3 : Nat) (l4 : Nat) (l5 : Int32) (σ : gS) : Option (Int32 × gS) :=
  ob (gcl σ l1 10) fun _ =>
  ob (X12_errorOffset_f E σ l1) fun x52 =>
  ob (gcl σ l2 11) fun _ =>
  ob (X13_errorOffset_f E l2 σ) fun x55 =>
  if x52 = x55.1 then
    L_law_3358 E r_28 l0 l1 l2 l3 l4 l5 x55.2
  else
    some ((0 : Int32), x55.2)
set_option maxHeartbeats 4000000 in
set_option maxRecDepth 100000 in
theorem L_law_450_W {σ : gS} {l0 : Nat} {l1 : Nat} {l2 : Nat} {l3 : Nat} {l4 : Nat} {l5 : Int32} {res : (Int32 × gS)} {ls : Array Slot} (hC : gC E D A p R s m args meth c cL_law 10 RL nm 11 259) (hQ : gQI E D A p l e R s m args below meth c Q cL_law FieldType.boolean res) (hst : l.stackTraces = false) {r_28 : Nat → Nat → Nat → Nat → Nat → Int32 → gS → Option (Int32 × gS)} (h_28 : ∀ {l0 : Nat} {l1 : Nat} {l2 : Nat} {l3 : Nat} {l4 : Nat} {l5 : Int32} {σ : gS} {H : Heap} {locs : List Loc} {cells slots : Nat} {ls : Array Slot}, r_28 l0 l1 l2 l3 l4 l5 σ = some res → gW E D A s σ H locs → lv_has ls 10 [(0, .ref l0), (1, .ref l1), (2, .ref l2), (3, .ref l3), (4, .ref l4), (5, .int l5)] → W p l e R s m args below meth c H locs cells slots Q (F0 m 28 ls [])) (hf : L_law_450 E r_28 l0 l1 l2 l3 l4 l5 σ = some res) (hw : gW E D A s σ H locs) (hl : lv_has ls 10 [(0, .ref l0), (1, .ref l1), (2, .ref l2), (3, .ref l3), (4, .ref l4), (5, .int l5)]) : W p l e R s m args below meth c H locs cells slots Q (F0 m 450 ls []) := by
  have hC0 := hC
  obtain ⟨hx, hb, hml, hown, hts, -⟩ := hC0
  unfold L_law_450 at hf
  refine lv_aload_n hx hb dL_law_450 rfl (lv_at hl 1 rfl) ?_
  obtain ⟨_, h54, hf⟩ := ob_some hf
  obtain ⟨x52, h53, hf⟩ := ob_some hf
  refine gg_cVI (As := []) hC hw (X12_errorOffset_M l E D A h53) h54 rfl g_ml_L_181 hd_X12_errorOffset (Nat.le_of_ble_eq_true rfl) (Nat.le_of_ble_eq_true rfl) hl.1 rfl (Nat.le_of_ble_eq_true rfl) dL_law_451 (fun H locs cells slots hw => ?_)
  refine lv_aload_n hx hb dL_law_454 rfl (lv_at hl 2 rfl) ?_
  obtain ⟨_, h57, hf⟩ := ob_some hf
  obtain ⟨x55, h56, hf⟩ := ob_some hf
  refine gg_cVI (As := []) hC hw (X13_errorOffset_M l E D A h56) h57 rfl g_ml_L_184 hd_X13_errorOffset (Nat.le_of_ble_eq_true rfl) (Nat.le_of_ble_eq_true rfl) hl.1 rfl (Nat.le_of_ble_eq_true rfl) dL_law_455 (fun H locs cells slots hw => ?_)
  refine lv_icmp_eq (tgt := 3358) hx hb dL_law_458 (by decide) (fun c58 => ?_) (fun c58 => ?_)
  · replace hf := (if_pos c58).symm.trans hf
    exact L_law_3358_W hC hQ hst h_28 hf hw (lv_sub hl [0, 1, 2, 3, 4, 5] rfl)
  · replace hf := (if_neg c58).symm.trans hf
    refine lv_iconst (v := 0) hx hb dL_law_461 (by decide) ?_
    cases hf
    exact hQ _ _ _ _ _ _ dL_law_462 gz0 hw

def L_law_463 (E : gE) (r_28 : Nat → Nat → Nat → Nat → Nat → Int32 → gS → Option (Int32 × gS)) (l0 : Nat) (l1 : Nat) (l2 : Nat) (l3 : Nat) (l4 : Nat) (l5 : Int32) (σ : gS) : Option (Int32 × gS) :=
  ob (gcl σ l1 10) fun _ =>
  ob (X12_columnCount_f E σ l1) fun x59 =>
  ob (gcl σ l2 11) fun _ =>
  ob (X13_columnCount_f E l2 σ) fun x62 =>
  if x59 = x62.1 then
    L_law_3358 E r_28 l0 l1 l2 l3 l4 l5 x62.2
  else
    some ((0 : Int32), x62.2)
set_option maxHeartbeats 4000000 in
set_option maxRecDepth 100000 in
theorem L_law_463_W {σ : gS} {l0 : Nat} {l1 : Nat} {l2 : Nat} {l3 : Nat} {l4 : Nat} {l5 : Int32} {res : (Int32 × gS)} {ls : Array Slot} (hC : gC E D A p R s m args meth c cL_law 10 RL nm 11 259) (hQ : gQI E D A p l e R s m args below meth c Q cL_law FieldType.boolean res) (hst : l.stackTraces = false) {r_28 : Nat → Nat → Nat → Nat → Nat → Int32 → gS → Option (Int32 × gS)} (h_28 : ∀ {l0 : Nat} {l1 : Nat} {l2 : Nat} {l3 : Nat} {l4 : Nat} {l5 : Int32} {σ : gS} {H : Heap} {locs : List Loc} {cells slots : Nat} {ls : Array Slot}, r_28 l0 l1 l2 l3 l4 l5 σ = some res → gW E D A s σ H locs → lv_has ls 10 [(0, .ref l0), (1, .ref l1), (2, .ref l2), (3, .ref l3), (4, .ref l4), (5, .int l5)] → W p l e R s m args below meth c H locs cells slots Q (F0 m 28 ls [])) (hf : L_law_463 E r_28 l0 l1 l2 l3 l4 l5 σ = some res) (hw : gW E D A s σ H locs) (hl : lv_has ls 10 [(0, .ref l0), (1, .ref l1), (2, .ref l2), (3, .ref l3), (4, .ref l4), (5, .int l5)]) : W p l e R s m args below meth c H locs cells slots Q (F0 m 463 ls []) := by
  have hC0 := hC
  obtain ⟨hx, hb, hml, hown, hts, -⟩ := hC0
  unfold L_law_463 at hf
  refine lv_aload_n hx hb dL_law_463 rfl (lv_at hl 1 rfl) ?_
  obtain ⟨_, h61, hf⟩ := ob_some hf
  obtain ⟨x59, h60, hf⟩ := ob_some hf
  refine gg_cVI (As := []) hC hw (X12_columnCount_M l E D A h60) h61 rfl g_ml_L_185 hd_X12_columnCount (Nat.le_of_ble_eq_true rfl) (Nat.le_of_ble_eq_true rfl) hl.1 rfl (Nat.le_of_ble_eq_true rfl) dL_law_464 (fun H locs cells slots hw => ?_)
  refine lv_aload_n hx hb dL_law_467 rfl (lv_at hl 2 rfl) ?_
  obtain ⟨_, h64, hf⟩ := ob_some hf
  obtain ⟨x62, h63, hf⟩ := ob_some hf
  refine gg_cVI (As := []) hC hw (X13_columnCount_M l E D A h63) h64 rfl g_ml_L_188 hd_X13_columnCount (Nat.le_of_ble_eq_true rfl) (Nat.le_of_ble_eq_true rfl) hl.1 rfl (Nat.le_of_ble_eq_true rfl) dL_law_468 (fun H locs cells slots hw => ?_)
  refine lv_icmp_eq (tgt := 3358) hx hb dL_law_471 (by decide) (fun c65 => ?_) (fun c65 => ?_)
  · replace hf := (if_pos c65).symm.trans hf
    exact L_law_3358_W hC hQ hst h_28 hf hw (lv_sub hl [0, 1, 2, 3, 4, 5] rfl)
  · replace hf := (if_neg c65).symm.trans hf
    refine lv_iconst (v := 0) hx hb dL_law_474 (by decide) ?_
    cases hf
    exact hQ _ _ _ _ _ _ dL_law_475 gz0 hw

def L_law_476 (E : gE) (r_28 : Nat → Nat → Nat → Nat → Nat → Int32 → gS → Option (Int32 × gS)) (l0 : Nat) (l1 : Nat) (l2 : Nat) (l3 : Nat) (l4 : Nat) (l5 : Int32) (σ : gS) : Option (Int32 × gS) :=
  ob (gcl σ l1 10) fun _ =>
  ob (X12_rowCount_f E σ l1) fun x66 =>
  ob (gcl σ l2 11) fun _ =>
  ob (X13_rowCount_f E l2 σ) fun x69 =>
  if x66 = x69.1 then
    L_law_3358 E r_28 l0 l1 l2 l3 l4 l5 x69.2
  else
    some ((0 : Int32), x69.2)
set_option maxHeartbeats 4000000 in
set_option maxRecDepth 100000 in
theorem L_law_476_W {σ : gS} {l0 : Nat} {l1 : Nat} {l2 : Nat} {l3 : Nat} {l4 : Nat} {l5 : Int32} {res : (Int32 × gS)} {ls : Array Slot} (hC : gC E D A p R s m args meth c cL_law 10 RL nm 11 259) (hQ : gQI E D A p l e R s m args below meth c Q cL_law FieldType.boolean res) (hst : l.stackTraces = false) {r_28 : Nat → Nat → Nat → Nat → Nat → Int32 → gS → Option (Int32 × gS)} (h_28 : ∀ {l0 : Nat} {l1 : Nat} {l2 : Nat} {l3 : Nat} {l4 : Nat} {l5 : Int32} {σ : gS} {H : Heap} {locs : List Loc} {cells slots : Nat} {ls : Array Slot}, r_28 l0 l1 l2 l3 l4 l5 σ = some res → gW E D A s σ H locs → lv_has ls 10 [(0, .ref l0), (1, .ref l1), (2, .ref l2), (3, .ref l3), (4, .ref l4), (5, .int l5)] → W p l e R s m args below meth c H locs cells slots Q (F0 m 28 ls [])) (hf : L_law_476 E r_28 l0 l1 l2 l3 l4 l5 σ = some res) (hw : gW E D A s σ H locs) (hl : lv_has ls 10 [(0, .ref l0), (1, .ref l1), (2, .ref l2), (3, .ref l3), (4, .ref l4), (5, .int l5)]) : W p l e R s m args below meth c H locs cells slots Q (F0 m 476 ls []) := by
  have hC0 := hC
  obtain ⟨hx, hb, hml, hown, hts, -⟩ := hC0
  unfold L_law_476 at hf
  refine lv_aload_n hx hb dL_law_476 rfl (lv_at hl 1 rfl) ?_
  obtain ⟨_, h68, hf⟩ := ob_some hf
  obtain ⟨x66, h67, hf⟩ := ob_some hf
  refine gg_cVI (As := []) hC hw (X12_rowCount_M l E D A h67) h68 rfl g_ml_L_189 hd_X12_rowCount (Nat.le_of_ble_eq_true rfl) (Nat.le_of_ble_eq_true rfl) hl.1 rfl (Nat.le_of_ble_eq_true rfl) dL_law_477 (fun H locs cells slots hw => ?_)
  refine lv_aload_n hx hb dL_law_480 rfl (lv_at hl 2 rfl) ?_
  obtain ⟨_, h71, hf⟩ := ob_some hf
  obtain ⟨x69, h70, hf⟩ := ob_some hf
  refine gg_cVI (As := []) hC hw (X13_rowCount_M l E D A h70) h71 rfl g_ml_L_192 hd_X13_rowCount (Nat.le_of_ble_eq_true rfl) (Nat.le_of_ble_eq_true rfl) hl.1 rfl (Nat.le_of_ble_eq_true rfl) dL_law_481 (fun H locs cells slots hw => ?_)
  refine lv_icmp_eq (tgt := 3358) hx hb dL_law_484 (by decide) (fun c72 => ?_) (fun c72 => ?_)
  · replace hf := (if_pos c72).symm.trans hf
    exact L_law_3358_W hC hQ hst h_28 hf hw (lv_sub hl [0, 1, 2, 3, 4, 5] rfl)
  · replace hf := (if_neg c72).symm.trans hf
    refine lv_iconst (v := 0) hx hb dL_law_487 (by decide) ?_
    cases hf
    exact hQ _ _ _ _ _ _ dL_law_488 gz0 hw

def L_law_489 (E : gE) (r_28 : Nat → Nat → Nat → Nat → Nat → Int32 → gS → Option (Int32 × gS)) (l0 : Nat) (l1 : Nat) (l2 : Nat) (l3 : Nat) (l4 : Nat) (l5 : Int32) (σ : gS) : Option (Int32 × gS) :=
  ob (graI E 0 σ l0 (l5 + (1 : Int32))) fun x73 =>
  ob (graI E 0 σ l0 (l5 + (2 : Int32))) fun x75 =>
  ob (L_value_f E l1 x73 x75 l3 σ) fun x77 =>
  ob (graI E 0 x77.2 l0 (l5 + (1 : Int32))) fun x79 =>
  ob (graI E 0 x77.2 l0 (l5 + (2 : Int32))) fun x81 =>
  ob (gcl x77.2 l2 11) fun _ =>
  ob (X13_value_f E l2 x79 x81 x77.2) fun x83 =>
  ob (gcl x83.2 l2 11) fun _ =>
  ob (X13_thrown_f E x83.2 l2) fun x86 =>
  if x86 = x77.1 then
    if x77.1 = 0 then
      ob (graJ E x83.2 l3 (0 : Int32)) fun x89 =>
      if (lg_cmp x89 ((x83.1).toInt64)) = 0 then
        L_law_3358 E r_28 l0 l1 l2 l3 l4 l5 x83.2
      else
        some ((0 : Int32), x83.2)
    else
      L_law_3358 E r_28 l0 l1 l2 l3 l4 l5 x83.2
  else
    some ((0 : Int32), x83.2)
set_option maxHeartbeats 4000000 in
set_option maxRecDepth 100000 in
theorem L_law_489_W {σ : gS} {l0 : Nat} {l1 : Nat} {l2 : Nat} {l3 : Nat} {l4 : Nat} {l5 : Int32} {res : (Int32 × gS)} {ls : Array Slot} (hC : gC E D A p R s m args meth c cL_law 10 RL nm 11 259) (hQ : gQI E D A p l e R s m args below meth c Q cL_law FieldType.boolean res) (hst : l.stackTraces = false) {r_28 : Nat → Nat → Nat → Nat → Nat → Int32 → gS → Option (Int32 × gS)} (h_28 : ∀ {l0 : Nat} {l1 : Nat} {l2 : Nat} {l3 : Nat} {l4 : Nat} {l5 : Int32} {σ : gS} {H : Heap} {locs : List Loc} {cells slots : Nat} {ls : Array Slot}, r_28 l0 l1 l2 l3 l4 l5 σ = some res → gW E D A s σ H locs → lv_has ls 10 [(0, .ref l0), (1, .ref l1), (2, .ref l2), (3, .ref l3), (4, .ref l4), (5, .int l5)] → W p l e R s m args below meth c H locs cells slots Q (F0 m 28 ls [])) (hf : L_law_489 E r_28 l0 l1 l2 l3 l4 l5 σ = some res) (hw : gW E D A s σ H locs) (hl : lv_has ls 10 [(0, .ref l0), (1, .ref l1), (2, .ref l2), (3, .ref l3), (4, .ref l4), (5, .int l5)]) : W p l e R s m args below meth c H locs cells slots Q (F0 m 489 ls []) := by
  have hC0 := hC
  obtain ⟨hx, hb, hml, hown, hts, -⟩ := hC0
  unfold L_law_489 at hf
  refine lv_aload_n hx hb dL_law_489 rfl (lv_at hl 1 rfl) ?_
  refine lv_aload_n hx hb dL_law_490 rfl (lv_at hl 0 rfl) ?_
  refine lv_iload hx hb dL_law_491 (lv_at hl 5 rfl) ?_
  refine lv_iconst (v := 1) hx hb dL_law_493 (by decide) ?_
  refine lv_iadd hx hb dL_law_494 ?_
  obtain ⟨x73, h74, hf⟩ := ob_some hf
  refine gg_aldI hC hw h74 dL_law_495 ?_
  refine lv_aload_n hx hb dL_law_496 rfl (lv_at hl 0 rfl) ?_
  refine lv_iload hx hb dL_law_497 (lv_at hl 5 rfl) ?_
  refine lv_iconst (v := 2) hx hb dL_law_499 (by decide) ?_
  refine lv_iadd hx hb dL_law_500 ?_
  obtain ⟨x75, h76, hf⟩ := ob_some hf
  refine gg_aldI hC hw h76 dL_law_501 ?_
  refine lv_aload_n hx hb dL_law_502 rfl (lv_at hl 3 rfl) ?_
  obtain ⟨x77, h78, hf⟩ := ob_some hf
  refine gg_yHI (As := [.ref l1, .int x73, .int x75, .ref l3]) hC hw (L_value_M l hst E D A h78) g_ml_L_193 hd_L_value.2 (Nat.le_of_ble_eq_true rfl) (Nat.le_of_ble_eq_true rfl) hl.1 rfl (Nat.le_of_ble_eq_true rfl) dL_law_503 (fun _ _ he => nomatch (congrArg Prod.fst he)) (fun r9 σ9 he H locs cells slots hw => ?_)
  cases he
  refine lv_istore (lv' := [(6, .int x77.1), (0, .ref l0), (1, .ref l1), (2, .ref l2), (3, .ref l3), (4, .ref l4), (5, .int l5)]) hx hb dL_law_506 hl (by decide) rfl (fun ls hl => ?_)
  refine lv_aload_n hx hb dL_law_508 rfl (lv_at hl 3 rfl) ?_
  refine lv_aload_n hx hb dL_law_509 rfl (lv_at hl 1 rfl) ?_
  refine lv_iload hx hb dL_law_510 (lv_at hl 6 rfl) ?_
  refine lv_iconst (v := 1) hx hb dL_law_512 (by decide) ?_
  refine lv_iadd hx hb dL_law_513 ?_
  obtain ⟨x79, h80, hf⟩ := ob_some hf
  refine gg_aldI hC hw h80 dL_law_514 ?_
  refine lv_aload_n hx hb dL_law_515 rfl (lv_at hl 1 rfl) ?_
  refine lv_iload hx hb dL_law_516 (lv_at hl 6 rfl) ?_
  refine lv_iconst (v := 2) hx hb dL_law_518 (by decide) ?_
  refine lv_iadd hx hb dL_law_519 ?_
  obtain ⟨x81, h82, hf⟩ := ob_some hf
  refine gg_aldI hC hw h82 dL_law_520 ?_
  obtain ⟨_, h85, hf⟩ := ob_some hf
  obtain ⟨x83, h84, hf⟩ := ob_some hf
  refine gg_cVI (As := [.int x79, .int x81]) hC hw (X13_value_M l E D A h84) h85 rfl g_ml_L_196 hd_X13_value (Nat.le_of_ble_eq_true rfl) (Nat.le_of_ble_eq_true rfl) hl.1 rfl (Nat.le_of_ble_eq_true rfl) dL_law_521 (fun H locs cells slots hw => ?_)
  refine lv_istore (lv' := [(7, .int x83.1), (6, .int x77.1), (0, .ref l0), (1, .ref l1), (2, .ref l2), (3, .ref l3), (4, .ref l4), (5, .int l5)]) hx hb dL_law_524 hl (by decide) rfl (fun ls hl => ?_)
  refine lv_aload_n hx hb dL_law_526 rfl (lv_at hl 4 rfl) ?_
  obtain ⟨_, h88, hf⟩ := ob_some hf
  obtain ⟨x86, h87, hf⟩ := ob_some hf
  refine gg_cVI (As := []) hC hw (X13_thrown_M l E D A h87) h88 rfl g_ml_L_174 hd_X13_thrown (Nat.le_of_ble_eq_true rfl) (Nat.le_of_ble_eq_true rfl) hl.1 rfl (Nat.le_of_ble_eq_true rfl) dL_law_527 (fun H locs cells slots hw => ?_)
  refine lv_iload hx hb dL_law_530 (lv_at hl 1 rfl) ?_
  refine lv_icmp_eq (tgt := 537) hx hb dL_law_532 (by decide) (fun c93 => ?_) (fun c93 => ?_)
  · replace hf := (if_pos c93).symm.trans hf
    refine lv_iload hx hb dL_law_537 (lv_at hl 1 rfl) ?_
    refine lv_if_ne (tgt := 554) hx hb dL_law_539 (by decide) (fun c92 => ?_) (fun c92 => ?_)
    · replace hf := (if_neg c92).symm.trans hf
      refine lv_goto (tgt := 3358) hx hb dL_law_554 (by decide) ?_
      exact L_law_3358_W hC hQ hst h_28 hf hw (lv_sub hl [2, 3, 4, 5, 6, 7] rfl)
    · replace hf := (if_pos c92).symm.trans hf
      refine lv_aload_n hx hb dL_law_542 rfl (lv_at hl 5 rfl) ?_
      refine lv_iconst (v := 0) hx hb dL_law_543 (by decide) ?_
      obtain ⟨x89, h90, hf⟩ := ob_some hf
      refine gg_aldJ hC hw h90 dL_law_544 ?_
      refine lv_iload hx hb dL_law_545 (lv_at hl 0 rfl) ?_
      refine lv_i2l (v := (x83.1).toInt64) hx hb dL_law_547 rfl ?_
      refine W.lcmp hx hb dL_law_548 ?_
      refine lv_if_eq (tgt := 554) hx hb dL_law_549 (by decide) (fun c91 => ?_) (fun c91 => ?_)
      · replace hf := (if_pos c91).symm.trans hf
        refine lv_goto (tgt := 3358) hx hb dL_law_554 (by decide) ?_
        exact L_law_3358_W hC hQ hst h_28 hf hw (lv_sub hl [2, 3, 4, 5, 6, 7] rfl)
      · replace hf := (if_neg c91).symm.trans hf
        refine lv_iconst (v := 0) hx hb dL_law_552 (by decide) ?_
        cases hf
        exact hQ _ _ _ _ _ _ dL_law_553 gz0 hw
  · replace hf := (if_neg c93).symm.trans hf
    refine lv_iconst (v := 0) hx hb dL_law_535 (by decide) ?_
    cases hf
    exact hQ _ _ _ _ _ _ dL_law_536 gz0 hw

def L_law_557 (E : gE) (r_28 : Nat → Nat → Nat → Nat → Nat → Int32 → gS → Option (Int32 × gS)) (l0 : Nat) (l1 : Nat) (l2 : Nat) (l3 : Nat) (l4 : Nat) (l5 : Int32) (σ : gS) : Option (Int32 × gS) :=
  ob (graI E 0 σ l0 (l5 + (1 : Int32))) fun x94 =>
  ob (graI E 0 σ l0 (l5 + (2 : Int32))) fun x96 =>
  ob (L_code_f E l1 x94 x96 l3 σ) fun x98 =>
  ob (graI E 0 x98.2 l0 (l5 + (1 : Int32))) fun x100 =>
  ob (graI E 0 x98.2 l0 (l5 + (2 : Int32))) fun x102 =>
  ob (gcl x98.2 l2 11) fun _ =>
  ob (X13_code_f E l2 x100 x102 x98.2) fun x104 =>
  ob (gcl x104.2 l2 11) fun _ =>
  ob (X13_thrown_f E x104.2 l2) fun x107 =>
  if x107 = x98.1 then
    if x98.1 = 0 then
      ob (graJ E x104.2 l3 (0 : Int32)) fun x110 =>
      if (lg_cmp x110 ((x104.1).toInt64)) = 0 then
        L_law_3358 E r_28 l0 l1 l2 l3 l4 l5 x104.2
      else
        some ((0 : Int32), x104.2)
    else
      L_law_3358 E r_28 l0 l1 l2 l3 l4 l5 x104.2
  else
    some ((0 : Int32), x104.2)
set_option maxHeartbeats 4000000 in
set_option maxRecDepth 100000 in
theorem L_law_557_W {σ : gS} {l0 : Nat} {l1 : Nat} {l2 : Nat} {l3 : Nat} {l4 : Nat} {l5 : Int32} {res : (Int32 × gS)} {ls : Array Slot} (hC : gC E D A p R s m args meth c cL_law 10 RL nm 11 259) (hQ : gQI E D A p l e R s m args below meth c Q cL_law FieldType.boolean res) (hst : l.stackTraces = false) {r_28 : Nat → Nat → Nat → Nat → Nat → Int32 → gS → Option (Int32 × gS)} (h_28 : ∀ {l0 : Nat} {l1 : Nat} {l2 : Nat} {l3 : Nat} {l4 : Nat} {l5 : Int32} {σ : gS} {H : Heap} {locs : List Loc} {cells slots : Nat} {ls : Array Slot}, r_28 l0 l1 l2 l3 l4 l5 σ = some res → gW E D A s σ H locs → lv_has ls 10 [(0, .ref l0), (1, .ref l1), (2, .ref l2), (3, .ref l3), (4, .ref l4), (5, .int l5)] → W p l e R s m args below meth c H locs cells slots Q (F0 m 28 ls [])) (hf : L_law_557 E r_28 l0 l1 l2 l3 l4 l5 σ = some res) (hw : gW E D A s σ H locs) (hl : lv_has ls 10 [(0, .ref l0), (1, .ref l1), (2, .ref l2), (3, .ref l3), (4, .ref l4), (5, .int l5)]) : W p l e R s m args below meth c H locs cells slots Q (F0 m 557 ls []) := by
  have hC0 := hC
  obtain ⟨hx, hb, hml, hown, hts, -⟩ := hC0
  unfold L_law_557 at hf
  refine lv_aload_n hx hb dL_law_557 rfl (lv_at hl 1 rfl) ?_
  refine lv_aload_n hx hb dL_law_558 rfl (lv_at hl 0 rfl) ?_
  refine lv_iload hx hb dL_law_559 (lv_at hl 5 rfl) ?_
  refine lv_iconst (v := 1) hx hb dL_law_561 (by decide) ?_
  refine lv_iadd hx hb dL_law_562 ?_
  obtain ⟨x94, h95, hf⟩ := ob_some hf
  refine gg_aldI hC hw h95 dL_law_563 ?_
  refine lv_aload_n hx hb dL_law_564 rfl (lv_at hl 0 rfl) ?_
  refine lv_iload hx hb dL_law_565 (lv_at hl 5 rfl) ?_
  refine lv_iconst (v := 2) hx hb dL_law_567 (by decide) ?_
  refine lv_iadd hx hb dL_law_568 ?_
  obtain ⟨x96, h97, hf⟩ := ob_some hf
  refine gg_aldI hC hw h97 dL_law_569 ?_
  refine lv_aload_n hx hb dL_law_570 rfl (lv_at hl 3 rfl) ?_
  obtain ⟨x98, h99, hf⟩ := ob_some hf
  refine gg_yHI (As := [.ref l1, .int x94, .int x96, .ref l3]) hC hw (L_code_M l hst E D A h99) g_ml_L_197 hd_L_code.2 (Nat.le_of_ble_eq_true rfl) (Nat.le_of_ble_eq_true rfl) hl.1 rfl (Nat.le_of_ble_eq_true rfl) dL_law_571 (fun _ _ he => nomatch (congrArg Prod.fst he)) (fun r9 σ9 he H locs cells slots hw => ?_)
  cases he
  refine lv_istore (lv' := [(6, .int x98.1), (0, .ref l0), (1, .ref l1), (2, .ref l2), (3, .ref l3), (4, .ref l4), (5, .int l5)]) hx hb dL_law_574 hl (by decide) rfl (fun ls hl => ?_)
  refine lv_aload_n hx hb dL_law_576 rfl (lv_at hl 3 rfl) ?_
  refine lv_aload_n hx hb dL_law_577 rfl (lv_at hl 1 rfl) ?_
  refine lv_iload hx hb dL_law_578 (lv_at hl 6 rfl) ?_
  refine lv_iconst (v := 1) hx hb dL_law_580 (by decide) ?_
  refine lv_iadd hx hb dL_law_581 ?_
  obtain ⟨x100, h101, hf⟩ := ob_some hf
  refine gg_aldI hC hw h101 dL_law_582 ?_
  refine lv_aload_n hx hb dL_law_583 rfl (lv_at hl 1 rfl) ?_
  refine lv_iload hx hb dL_law_584 (lv_at hl 6 rfl) ?_
  refine lv_iconst (v := 2) hx hb dL_law_586 (by decide) ?_
  refine lv_iadd hx hb dL_law_587 ?_
  obtain ⟨x102, h103, hf⟩ := ob_some hf
  refine gg_aldI hC hw h103 dL_law_588 ?_
  obtain ⟨_, h106, hf⟩ := ob_some hf
  obtain ⟨x104, h105, hf⟩ := ob_some hf
  refine gg_cVI (As := [.int x100, .int x102]) hC hw (X13_code_M l E D A h105) h106 rfl g_ml_L_199 hd_X13_code (Nat.le_of_ble_eq_true rfl) (Nat.le_of_ble_eq_true rfl) hl.1 rfl (Nat.le_of_ble_eq_true rfl) dL_law_589 (fun H locs cells slots hw => ?_)
  refine lv_istore (lv' := [(7, .int x104.1), (6, .int x98.1), (0, .ref l0), (1, .ref l1), (2, .ref l2), (3, .ref l3), (4, .ref l4), (5, .int l5)]) hx hb dL_law_592 hl (by decide) rfl (fun ls hl => ?_)
  refine lv_aload_n hx hb dL_law_594 rfl (lv_at hl 4 rfl) ?_
  obtain ⟨_, h109, hf⟩ := ob_some hf
  obtain ⟨x107, h108, hf⟩ := ob_some hf
  refine gg_cVI (As := []) hC hw (X13_thrown_M l E D A h108) h109 rfl g_ml_L_174 hd_X13_thrown (Nat.le_of_ble_eq_true rfl) (Nat.le_of_ble_eq_true rfl) hl.1 rfl (Nat.le_of_ble_eq_true rfl) dL_law_595 (fun H locs cells slots hw => ?_)
  refine lv_iload hx hb dL_law_598 (lv_at hl 1 rfl) ?_
  refine lv_icmp_eq (tgt := 605) hx hb dL_law_600 (by decide) (fun c114 => ?_) (fun c114 => ?_)
  · replace hf := (if_pos c114).symm.trans hf
    refine lv_iload hx hb dL_law_605 (lv_at hl 1 rfl) ?_
    refine lv_if_ne (tgt := 622) hx hb dL_law_607 (by decide) (fun c113 => ?_) (fun c113 => ?_)
    · replace hf := (if_neg c113).symm.trans hf
      refine lv_goto (tgt := 3358) hx hb dL_law_622 (by decide) ?_
      exact L_law_3358_W hC hQ hst h_28 hf hw (lv_sub hl [2, 3, 4, 5, 6, 7] rfl)
    · replace hf := (if_pos c113).symm.trans hf
      refine lv_aload_n hx hb dL_law_610 rfl (lv_at hl 5 rfl) ?_
      refine lv_iconst (v := 0) hx hb dL_law_611 (by decide) ?_
      obtain ⟨x110, h111, hf⟩ := ob_some hf
      refine gg_aldJ hC hw h111 dL_law_612 ?_
      refine lv_iload hx hb dL_law_613 (lv_at hl 0 rfl) ?_
      refine lv_i2l (v := (x104.1).toInt64) hx hb dL_law_615 rfl ?_
      refine W.lcmp hx hb dL_law_616 ?_
      refine lv_if_eq (tgt := 622) hx hb dL_law_617 (by decide) (fun c112 => ?_) (fun c112 => ?_)
      · replace hf := (if_pos c112).symm.trans hf
        refine lv_goto (tgt := 3358) hx hb dL_law_622 (by decide) ?_
        exact L_law_3358_W hC hQ hst h_28 hf hw (lv_sub hl [2, 3, 4, 5, 6, 7] rfl)
      · replace hf := (if_neg c112).symm.trans hf
        refine lv_iconst (v := 0) hx hb dL_law_620 (by decide) ?_
        cases hf
        exact hQ _ _ _ _ _ _ dL_law_621 gz0 hw
  · replace hf := (if_neg c114).symm.trans hf
    refine lv_iconst (v := 0) hx hb dL_law_603 (by decide) ?_
    cases hf
    exact hQ _ _ _ _ _ _ dL_law_604 gz0 hw

def L_law_625 (E : gE) (r_28 : Nat → Nat → Nat → Nat → Nat → Int32 → gS → Option (Int32 × gS)) (l0 : Nat) (l1 : Nat) (l2 : Nat) (l3 : Nat) (l4 : Nat) (l5 : Int32) (σ : gS) : Option (Int32 × gS) :=
  ob (graI E 0 σ l0 (l5 + (1 : Int32))) fun x115 =>
  ob (L_dictionarySize_f E l1 x115 l3 σ) fun x117 =>
  ob (graI E 0 x117.2 l0 (l5 + (1 : Int32))) fun x119 =>
  ob (gcl x117.2 l2 11) fun _ =>
  ob (X13_dictionarySize_f E l2 x119 x117.2) fun x121 =>
  ob (gcl x121.2 l2 11) fun _ =>
  ob (X13_thrown_f E x121.2 l2) fun x124 =>
  if x124 = x117.1 then
    if x117.1 = 0 then
      ob (graJ E x121.2 l3 (0 : Int32)) fun x127 =>
      if (lg_cmp x127 ((x121.1).toInt64)) = 0 then
        L_law_3358 E r_28 l0 l1 l2 l3 l4 l5 x121.2
      else
        some ((0 : Int32), x121.2)
    else
      L_law_3358 E r_28 l0 l1 l2 l3 l4 l5 x121.2
  else
    some ((0 : Int32), x121.2)
set_option maxHeartbeats 4000000 in
set_option maxRecDepth 100000 in
theorem L_law_625_W {σ : gS} {l0 : Nat} {l1 : Nat} {l2 : Nat} {l3 : Nat} {l4 : Nat} {l5 : Int32} {res : (Int32 × gS)} {ls : Array Slot} (hC : gC E D A p R s m args meth c cL_law 10 RL nm 11 259) (hQ : gQI E D A p l e R s m args below meth c Q cL_law FieldType.boolean res) (hst : l.stackTraces = false) {r_28 : Nat → Nat → Nat → Nat → Nat → Int32 → gS → Option (Int32 × gS)} (h_28 : ∀ {l0 : Nat} {l1 : Nat} {l2 : Nat} {l3 : Nat} {l4 : Nat} {l5 : Int32} {σ : gS} {H : Heap} {locs : List Loc} {cells slots : Nat} {ls : Array Slot}, r_28 l0 l1 l2 l3 l4 l5 σ = some res → gW E D A s σ H locs → lv_has ls 10 [(0, .ref l0), (1, .ref l1), (2, .ref l2), (3, .ref l3), (4, .ref l4), (5, .int l5)] → W p l e R s m args below meth c H locs cells slots Q (F0 m 28 ls [])) (hf : L_law_625 E r_28 l0 l1 l2 l3 l4 l5 σ = some res) (hw : gW E D A s σ H locs) (hl : lv_has ls 10 [(0, .ref l0), (1, .ref l1), (2, .ref l2), (3, .ref l3), (4, .ref l4), (5, .int l5)]) : W p l e R s m args below meth c H locs cells slots Q (F0 m 625 ls []) := by
  have hC0 := hC
  obtain ⟨hx, hb, hml, hown, hts, -⟩ := hC0
  unfold L_law_625 at hf
  refine lv_aload_n hx hb dL_law_625 rfl (lv_at hl 1 rfl) ?_
  refine lv_aload_n hx hb dL_law_626 rfl (lv_at hl 0 rfl) ?_
  refine lv_iload hx hb dL_law_627 (lv_at hl 5 rfl) ?_
  refine lv_iconst (v := 1) hx hb dL_law_629 (by decide) ?_
  refine lv_iadd hx hb dL_law_630 ?_
  obtain ⟨x115, h116, hf⟩ := ob_some hf
  refine gg_aldI hC hw h116 dL_law_631 ?_
  refine lv_aload_n hx hb dL_law_632 rfl (lv_at hl 3 rfl) ?_
  obtain ⟨x117, h118, hf⟩ := ob_some hf
  refine gg_yHI (As := [.ref l1, .int x115, .ref l3]) hC hw (L_dictionarySize_M l hst E D A h118) g_ml_L_200 hd_L_dictionarySize.2 (Nat.le_of_ble_eq_true rfl) (Nat.le_of_ble_eq_true rfl) hl.1 rfl (Nat.le_of_ble_eq_true rfl) dL_law_633 (fun _ _ he => nomatch (congrArg Prod.fst he)) (fun r9 σ9 he H locs cells slots hw => ?_)
  cases he
  refine lv_istore (lv' := [(6, .int x117.1), (0, .ref l0), (1, .ref l1), (2, .ref l2), (3, .ref l3), (4, .ref l4), (5, .int l5)]) hx hb dL_law_636 hl (by decide) rfl (fun ls hl => ?_)
  refine lv_aload_n hx hb dL_law_638 rfl (lv_at hl 3 rfl) ?_
  refine lv_aload_n hx hb dL_law_639 rfl (lv_at hl 1 rfl) ?_
  refine lv_iload hx hb dL_law_640 (lv_at hl 6 rfl) ?_
  refine lv_iconst (v := 1) hx hb dL_law_642 (by decide) ?_
  refine lv_iadd hx hb dL_law_643 ?_
  obtain ⟨x119, h120, hf⟩ := ob_some hf
  refine gg_aldI hC hw h120 dL_law_644 ?_
  obtain ⟨_, h123, hf⟩ := ob_some hf
  obtain ⟨x121, h122, hf⟩ := ob_some hf
  refine gg_cVI (As := [.int x119]) hC hw (X13_dictionarySize_M l E D A h122) h123 rfl g_ml_L_202 hd_X13_dictionarySize (Nat.le_of_ble_eq_true rfl) (Nat.le_of_ble_eq_true rfl) hl.1 rfl (Nat.le_of_ble_eq_true rfl) dL_law_645 (fun H locs cells slots hw => ?_)
  refine lv_istore (lv' := [(7, .int x121.1), (6, .int x117.1), (0, .ref l0), (1, .ref l1), (2, .ref l2), (3, .ref l3), (4, .ref l4), (5, .int l5)]) hx hb dL_law_648 hl (by decide) rfl (fun ls hl => ?_)
  refine lv_aload_n hx hb dL_law_650 rfl (lv_at hl 4 rfl) ?_
  obtain ⟨_, h126, hf⟩ := ob_some hf
  obtain ⟨x124, h125, hf⟩ := ob_some hf
  refine gg_cVI (As := []) hC hw (X13_thrown_M l E D A h125) h126 rfl g_ml_L_174 hd_X13_thrown (Nat.le_of_ble_eq_true rfl) (Nat.le_of_ble_eq_true rfl) hl.1 rfl (Nat.le_of_ble_eq_true rfl) dL_law_651 (fun H locs cells slots hw => ?_)
  refine lv_iload hx hb dL_law_654 (lv_at hl 1 rfl) ?_
  refine lv_icmp_eq (tgt := 661) hx hb dL_law_656 (by decide) (fun c131 => ?_) (fun c131 => ?_)
  · replace hf := (if_pos c131).symm.trans hf
    refine lv_iload hx hb dL_law_661 (lv_at hl 1 rfl) ?_
    refine lv_if_ne (tgt := 678) hx hb dL_law_663 (by decide) (fun c130 => ?_) (fun c130 => ?_)
    · replace hf := (if_neg c130).symm.trans hf
      refine lv_goto (tgt := 3358) hx hb dL_law_678 (by decide) ?_
      exact L_law_3358_W hC hQ hst h_28 hf hw (lv_sub hl [2, 3, 4, 5, 6, 7] rfl)
    · replace hf := (if_pos c130).symm.trans hf
      refine lv_aload_n hx hb dL_law_666 rfl (lv_at hl 5 rfl) ?_
      refine lv_iconst (v := 0) hx hb dL_law_667 (by decide) ?_
      obtain ⟨x127, h128, hf⟩ := ob_some hf
      refine gg_aldJ hC hw h128 dL_law_668 ?_
      refine lv_iload hx hb dL_law_669 (lv_at hl 0 rfl) ?_
      refine lv_i2l (v := (x121.1).toInt64) hx hb dL_law_671 rfl ?_
      refine W.lcmp hx hb dL_law_672 ?_
      refine lv_if_eq (tgt := 678) hx hb dL_law_673 (by decide) (fun c129 => ?_) (fun c129 => ?_)
      · replace hf := (if_pos c129).symm.trans hf
        refine lv_goto (tgt := 3358) hx hb dL_law_678 (by decide) ?_
        exact L_law_3358_W hC hQ hst h_28 hf hw (lv_sub hl [2, 3, 4, 5, 6, 7] rfl)
      · replace hf := (if_neg c129).symm.trans hf
        refine lv_iconst (v := 0) hx hb dL_law_676 (by decide) ?_
        cases hf
        exact hQ _ _ _ _ _ _ dL_law_677 gz0 hw
  · replace hf := (if_neg c131).symm.trans hf
    refine lv_iconst (v := 0) hx hb dL_law_659 (by decide) ?_
    cases hf
    exact hQ _ _ _ _ _ _ dL_law_660 gz0 hw

def L_law_681 (E : gE) (r_28 : Nat → Nat → Nat → Nat → Nat → Int32 → gS → Option (Int32 × gS)) (l0 : Nat) (l1 : Nat) (l2 : Nat) (l3 : Nat) (l4 : Nat) (l5 : Int32) (σ : gS) : Option (Int32 × gS) :=
  ob (graI E 0 σ l0 (l5 + (1 : Int32))) fun x132 =>
  ob (graI E 0 σ l0 (l5 + (2 : Int32))) fun x134 =>
  ob (L_dictionaryValue_f E l1 x132 x134 l3 σ) fun x136 =>
  ob (graI E 0 x136.2 l0 (l5 + (1 : Int32))) fun x138 =>
  ob (graI E 0 x136.2 l0 (l5 + (2 : Int32))) fun x140 =>
  ob (gcl x136.2 l2 11) fun _ =>
  ob (X13_dictionaryValue_f E l2 x138 x140 x136.2) fun x142 =>
  ob (gcl x142.2 l2 11) fun _ =>
  ob (X13_thrown_f E x142.2 l2) fun x145 =>
  if x145 = x136.1 then
    if x136.1 = 0 then
      ob (graJ E x142.2 l3 (0 : Int32)) fun x148 =>
      if (lg_cmp x148 ((x142.1).toInt64)) = 0 then
        L_law_3358 E r_28 l0 l1 l2 l3 l4 l5 x142.2
      else
        some ((0 : Int32), x142.2)
    else
      L_law_3358 E r_28 l0 l1 l2 l3 l4 l5 x142.2
  else
    some ((0 : Int32), x142.2)
set_option maxHeartbeats 4000000 in
set_option maxRecDepth 100000 in
theorem L_law_681_W {σ : gS} {l0 : Nat} {l1 : Nat} {l2 : Nat} {l3 : Nat} {l4 : Nat} {l5 : Int32} {res : (Int32 × gS)} {ls : Array Slot} (hC : gC E D A p R s m args meth c cL_law 10 RL nm 11 259) (hQ : gQI E D A p l e R s m args below meth c Q cL_law FieldType.boolean res) (hst : l.stackTraces = false) {r_28 : Nat → Nat → Nat → Nat → Nat → Int32 → gS → Option (Int32 × gS)} (h_28 : ∀ {l0 : Nat} {l1 : Nat} {l2 : Nat} {l3 : Nat} {l4 : Nat} {l5 : Int32} {σ : gS} {H : Heap} {locs : List Loc} {cells slots : Nat} {ls : Array Slot}, r_28 l0 l1 l2 l3 l4 l5 σ = some res → gW E D A s σ H locs → lv_has ls 10 [(0, .ref l0), (1, .ref l1), (2, .ref l2), (3, .ref l3), (4, .ref l4), (5, .int l5)] → W p l e R s m args below meth c H locs cells slots Q (F0 m 28 ls [])) (hf : L_law_681 E r_28 l0 l1 l2 l3 l4 l5 σ = some res) (hw : gW E D A s σ H locs) (hl : lv_has ls 10 [(0, .ref l0), (1, .ref l1), (2, .ref l2), (3, .ref l3), (4, .ref l4), (5, .int l5)]) : W p l e R s m args below meth c H locs cells slots Q (F0 m 681 ls []) := by
  have hC0 := hC
  obtain ⟨hx, hb, hml, hown, hts, -⟩ := hC0
  unfold L_law_681 at hf
  refine lv_aload_n hx hb dL_law_681 rfl (lv_at hl 1 rfl) ?_
  refine lv_aload_n hx hb dL_law_682 rfl (lv_at hl 0 rfl) ?_
  refine lv_iload hx hb dL_law_683 (lv_at hl 5 rfl) ?_
  refine lv_iconst (v := 1) hx hb dL_law_685 (by decide) ?_
  refine lv_iadd hx hb dL_law_686 ?_
  obtain ⟨x132, h133, hf⟩ := ob_some hf
  refine gg_aldI hC hw h133 dL_law_687 ?_
  refine lv_aload_n hx hb dL_law_688 rfl (lv_at hl 0 rfl) ?_
  refine lv_iload hx hb dL_law_689 (lv_at hl 5 rfl) ?_
  refine lv_iconst (v := 2) hx hb dL_law_691 (by decide) ?_
  refine lv_iadd hx hb dL_law_692 ?_
  obtain ⟨x134, h135, hf⟩ := ob_some hf
  refine gg_aldI hC hw h135 dL_law_693 ?_
  refine lv_aload_n hx hb dL_law_694 rfl (lv_at hl 3 rfl) ?_
  obtain ⟨x136, h137, hf⟩ := ob_some hf
  refine gg_yHI (As := [.ref l1, .int x132, .int x134, .ref l3]) hC hw (L_dictionaryValue_M l hst E D A h137) g_ml_L_203 hd_L_dictionaryValue.2 (Nat.le_of_ble_eq_true rfl) (Nat.le_of_ble_eq_true rfl) hl.1 rfl (Nat.le_of_ble_eq_true rfl) dL_law_695 (fun _ _ he => nomatch (congrArg Prod.fst he)) (fun r9 σ9 he H locs cells slots hw => ?_)
  cases he
  refine lv_istore (lv' := [(6, .int x136.1), (0, .ref l0), (1, .ref l1), (2, .ref l2), (3, .ref l3), (4, .ref l4), (5, .int l5)]) hx hb dL_law_698 hl (by decide) rfl (fun ls hl => ?_)
  refine lv_aload_n hx hb dL_law_700 rfl (lv_at hl 3 rfl) ?_
  refine lv_aload_n hx hb dL_law_701 rfl (lv_at hl 1 rfl) ?_
  refine lv_iload hx hb dL_law_702 (lv_at hl 6 rfl) ?_
  refine lv_iconst (v := 1) hx hb dL_law_704 (by decide) ?_
  refine lv_iadd hx hb dL_law_705 ?_
  obtain ⟨x138, h139, hf⟩ := ob_some hf
  refine gg_aldI hC hw h139 dL_law_706 ?_
  refine lv_aload_n hx hb dL_law_707 rfl (lv_at hl 1 rfl) ?_
  refine lv_iload hx hb dL_law_708 (lv_at hl 6 rfl) ?_
  refine lv_iconst (v := 2) hx hb dL_law_710 (by decide) ?_
  refine lv_iadd hx hb dL_law_711 ?_
  obtain ⟨x140, h141, hf⟩ := ob_some hf
  refine gg_aldI hC hw h141 dL_law_712 ?_
  obtain ⟨_, h144, hf⟩ := ob_some hf
  obtain ⟨x142, h143, hf⟩ := ob_some hf
  refine gg_cVI (As := [.int x138, .int x140]) hC hw (X13_dictionaryValue_M l E D A h143) h144 rfl g_ml_L_205 hd_X13_dictionaryValue (Nat.le_of_ble_eq_true rfl) (Nat.le_of_ble_eq_true rfl) hl.1 rfl (Nat.le_of_ble_eq_true rfl) dL_law_713 (fun H locs cells slots hw => ?_)
  refine lv_istore (lv' := [(7, .int x142.1), (6, .int x136.1), (0, .ref l0), (1, .ref l1), (2, .ref l2), (3, .ref l3), (4, .ref l4), (5, .int l5)]) hx hb dL_law_716 hl (by decide) rfl (fun ls hl => ?_)
  refine lv_aload_n hx hb dL_law_718 rfl (lv_at hl 4 rfl) ?_
  obtain ⟨_, h147, hf⟩ := ob_some hf
  obtain ⟨x145, h146, hf⟩ := ob_some hf
  refine gg_cVI (As := []) hC hw (X13_thrown_M l E D A h146) h147 rfl g_ml_L_174 hd_X13_thrown (Nat.le_of_ble_eq_true rfl) (Nat.le_of_ble_eq_true rfl) hl.1 rfl (Nat.le_of_ble_eq_true rfl) dL_law_719 (fun H locs cells slots hw => ?_)
  refine lv_iload hx hb dL_law_722 (lv_at hl 1 rfl) ?_
  refine lv_icmp_eq (tgt := 729) hx hb dL_law_724 (by decide) (fun c152 => ?_) (fun c152 => ?_)
  · replace hf := (if_pos c152).symm.trans hf
    refine lv_iload hx hb dL_law_729 (lv_at hl 1 rfl) ?_
    refine lv_if_ne (tgt := 746) hx hb dL_law_731 (by decide) (fun c151 => ?_) (fun c151 => ?_)
    · replace hf := (if_neg c151).symm.trans hf
      refine lv_goto (tgt := 3358) hx hb dL_law_746 (by decide) ?_
      exact L_law_3358_W hC hQ hst h_28 hf hw (lv_sub hl [2, 3, 4, 5, 6, 7] rfl)
    · replace hf := (if_pos c151).symm.trans hf
      refine lv_aload_n hx hb dL_law_734 rfl (lv_at hl 5 rfl) ?_
      refine lv_iconst (v := 0) hx hb dL_law_735 (by decide) ?_
      obtain ⟨x148, h149, hf⟩ := ob_some hf
      refine gg_aldJ hC hw h149 dL_law_736 ?_
      refine lv_iload hx hb dL_law_737 (lv_at hl 0 rfl) ?_
      refine lv_i2l (v := (x142.1).toInt64) hx hb dL_law_739 rfl ?_
      refine W.lcmp hx hb dL_law_740 ?_
      refine lv_if_eq (tgt := 746) hx hb dL_law_741 (by decide) (fun c150 => ?_) (fun c150 => ?_)
      · replace hf := (if_pos c150).symm.trans hf
        refine lv_goto (tgt := 3358) hx hb dL_law_746 (by decide) ?_
        exact L_law_3358_W hC hQ hst h_28 hf hw (lv_sub hl [2, 3, 4, 5, 6, 7] rfl)
      · replace hf := (if_neg c150).symm.trans hf
        refine lv_iconst (v := 0) hx hb dL_law_744 (by decide) ?_
        cases hf
        exact hQ _ _ _ _ _ _ dL_law_745 gz0 hw
  · replace hf := (if_neg c152).symm.trans hf
    refine lv_iconst (v := 0) hx hb dL_law_727 (by decide) ?_
    cases hf
    exact hQ _ _ _ _ _ _ dL_law_728 gz0 hw

def L_law_749 (E : gE) (r_28 : Nat → Nat → Nat → Nat → Nat → Int32 → gS → Option (Int32 × gS)) (l0 : Nat) (l1 : Nat) (l2 : Nat) (l3 : Nat) (l4 : Nat) (l5 : Int32) (σ : gS) : Option (Int32 × gS) :=
  ob (graI E 0 σ l0 (l5 + (1 : Int32))) fun x153 =>
  ob (graI E 0 σ l0 (l5 + (2 : Int32))) fun x155 =>
  ob (L_findCode_f E l1 x153 x155 l3 σ) fun x157 =>
  ob (graI E 0 x157.2 l0 (l5 + (1 : Int32))) fun x159 =>
  ob (graI E 0 x157.2 l0 (l5 + (2 : Int32))) fun x161 =>
  ob (gcl x157.2 l2 11) fun _ =>
  ob (X13_findCode_f E l2 x159 x161 x157.2) fun x163 =>
  ob (gcl x163.2 l2 11) fun _ =>
  ob (X13_thrown_f E x163.2 l2) fun x166 =>
  if x166 = x157.1 then
    if x157.1 = 0 then
      ob (graJ E x163.2 l3 (0 : Int32)) fun x169 =>
      if (lg_cmp x169 ((x163.1).toInt64)) = 0 then
        L_law_3358 E r_28 l0 l1 l2 l3 l4 l5 x163.2
      else
        some ((0 : Int32), x163.2)
    else
      L_law_3358 E r_28 l0 l1 l2 l3 l4 l5 x163.2
  else
    some ((0 : Int32), x163.2)
set_option maxHeartbeats 4000000 in
set_option maxRecDepth 100000 in
theorem L_law_749_W {σ : gS} {l0 : Nat} {l1 : Nat} {l2 : Nat} {l3 : Nat} {l4 : Nat} {l5 : Int32} {res : (Int32 × gS)} {ls : Array Slot} (hC : gC E D A p R s m args meth c cL_law 10 RL nm 11 259) (hQ : gQI E D A p l e R s m args below meth c Q cL_law FieldType.boolean res) (hst : l.stackTraces = false) {r_28 : Nat → Nat → Nat → Nat → Nat → Int32 → gS → Option (Int32 × gS)} (h_28 : ∀ {l0 : Nat} {l1 : Nat} {l2 : Nat} {l3 : Nat} {l4 : Nat} {l5 : Int32} {σ : gS} {H : Heap} {locs : List Loc} {cells slots : Nat} {ls : Array Slot}, r_28 l0 l1 l2 l3 l4 l5 σ = some res → gW E D A s σ H locs → lv_has ls 10 [(0, .ref l0), (1, .ref l1), (2, .ref l2), (3, .ref l3), (4, .ref l4), (5, .int l5)] → W p l e R s m args below meth c H locs cells slots Q (F0 m 28 ls [])) (hf : L_law_749 E r_28 l0 l1 l2 l3 l4 l5 σ = some res) (hw : gW E D A s σ H locs) (hl : lv_has ls 10 [(0, .ref l0), (1, .ref l1), (2, .ref l2), (3, .ref l3), (4, .ref l4), (5, .int l5)]) : W p l e R s m args below meth c H locs cells slots Q (F0 m 749 ls []) := by
  have hC0 := hC
  obtain ⟨hx, hb, hml, hown, hts, -⟩ := hC0
  unfold L_law_749 at hf
  refine lv_aload_n hx hb dL_law_749 rfl (lv_at hl 1 rfl) ?_
  refine lv_aload_n hx hb dL_law_750 rfl (lv_at hl 0 rfl) ?_
  refine lv_iload hx hb dL_law_751 (lv_at hl 5 rfl) ?_
  refine lv_iconst (v := 1) hx hb dL_law_753 (by decide) ?_
  refine lv_iadd hx hb dL_law_754 ?_
  obtain ⟨x153, h154, hf⟩ := ob_some hf
  refine gg_aldI hC hw h154 dL_law_755 ?_
  refine lv_aload_n hx hb dL_law_756 rfl (lv_at hl 0 rfl) ?_
  refine lv_iload hx hb dL_law_757 (lv_at hl 5 rfl) ?_
  refine lv_iconst (v := 2) hx hb dL_law_759 (by decide) ?_
  refine lv_iadd hx hb dL_law_760 ?_
  obtain ⟨x155, h156, hf⟩ := ob_some hf
  refine gg_aldI hC hw h156 dL_law_761 ?_
  refine lv_aload_n hx hb dL_law_762 rfl (lv_at hl 3 rfl) ?_
  obtain ⟨x157, h158, hf⟩ := ob_some hf
  refine gg_yHI (As := [.ref l1, .int x153, .int x155, .ref l3]) hC hw (L_findCode_M l hst E D A h158) g_ml_L_206 hd_L_findCode.2 (Nat.le_of_ble_eq_true rfl) (Nat.le_of_ble_eq_true rfl) hl.1 rfl (Nat.le_of_ble_eq_true rfl) dL_law_763 (fun _ _ he => nomatch (congrArg Prod.fst he)) (fun r9 σ9 he H locs cells slots hw => ?_)
  cases he
  refine lv_istore (lv' := [(6, .int x157.1), (0, .ref l0), (1, .ref l1), (2, .ref l2), (3, .ref l3), (4, .ref l4), (5, .int l5)]) hx hb dL_law_766 hl (by decide) rfl (fun ls hl => ?_)
  refine lv_aload_n hx hb dL_law_768 rfl (lv_at hl 3 rfl) ?_
  refine lv_aload_n hx hb dL_law_769 rfl (lv_at hl 1 rfl) ?_
  refine lv_iload hx hb dL_law_770 (lv_at hl 6 rfl) ?_
  refine lv_iconst (v := 1) hx hb dL_law_772 (by decide) ?_
  refine lv_iadd hx hb dL_law_773 ?_
  obtain ⟨x159, h160, hf⟩ := ob_some hf
  refine gg_aldI hC hw h160 dL_law_774 ?_
  refine lv_aload_n hx hb dL_law_775 rfl (lv_at hl 1 rfl) ?_
  refine lv_iload hx hb dL_law_776 (lv_at hl 6 rfl) ?_
  refine lv_iconst (v := 2) hx hb dL_law_778 (by decide) ?_
  refine lv_iadd hx hb dL_law_779 ?_
  obtain ⟨x161, h162, hf⟩ := ob_some hf
  refine gg_aldI hC hw h162 dL_law_780 ?_
  obtain ⟨_, h165, hf⟩ := ob_some hf
  obtain ⟨x163, h164, hf⟩ := ob_some hf
  refine gg_cVI (As := [.int x159, .int x161]) hC hw (X13_findCode_M l E D A h164) h165 rfl g_ml_L_208 hd_X13_findCode (Nat.le_of_ble_eq_true rfl) (Nat.le_of_ble_eq_true rfl) hl.1 rfl (Nat.le_of_ble_eq_true rfl) dL_law_781 (fun H locs cells slots hw => ?_)
  refine lv_istore (lv' := [(7, .int x163.1), (6, .int x157.1), (0, .ref l0), (1, .ref l1), (2, .ref l2), (3, .ref l3), (4, .ref l4), (5, .int l5)]) hx hb dL_law_784 hl (by decide) rfl (fun ls hl => ?_)
  refine lv_aload_n hx hb dL_law_786 rfl (lv_at hl 4 rfl) ?_
  obtain ⟨_, h168, hf⟩ := ob_some hf
  obtain ⟨x166, h167, hf⟩ := ob_some hf
  refine gg_cVI (As := []) hC hw (X13_thrown_M l E D A h167) h168 rfl g_ml_L_174 hd_X13_thrown (Nat.le_of_ble_eq_true rfl) (Nat.le_of_ble_eq_true rfl) hl.1 rfl (Nat.le_of_ble_eq_true rfl) dL_law_787 (fun H locs cells slots hw => ?_)
  refine lv_iload hx hb dL_law_790 (lv_at hl 1 rfl) ?_
  refine lv_icmp_eq (tgt := 797) hx hb dL_law_792 (by decide) (fun c173 => ?_) (fun c173 => ?_)
  · replace hf := (if_pos c173).symm.trans hf
    refine lv_iload hx hb dL_law_797 (lv_at hl 1 rfl) ?_
    refine lv_if_ne (tgt := 814) hx hb dL_law_799 (by decide) (fun c172 => ?_) (fun c172 => ?_)
    · replace hf := (if_neg c172).symm.trans hf
      refine lv_goto (tgt := 3358) hx hb dL_law_814 (by decide) ?_
      exact L_law_3358_W hC hQ hst h_28 hf hw (lv_sub hl [2, 3, 4, 5, 6, 7] rfl)
    · replace hf := (if_pos c172).symm.trans hf
      refine lv_aload_n hx hb dL_law_802 rfl (lv_at hl 5 rfl) ?_
      refine lv_iconst (v := 0) hx hb dL_law_803 (by decide) ?_
      obtain ⟨x169, h170, hf⟩ := ob_some hf
      refine gg_aldJ hC hw h170 dL_law_804 ?_
      refine lv_iload hx hb dL_law_805 (lv_at hl 0 rfl) ?_
      refine lv_i2l (v := (x163.1).toInt64) hx hb dL_law_807 rfl ?_
      refine W.lcmp hx hb dL_law_808 ?_
      refine lv_if_eq (tgt := 814) hx hb dL_law_809 (by decide) (fun c171 => ?_) (fun c171 => ?_)
      · replace hf := (if_pos c171).symm.trans hf
        refine lv_goto (tgt := 3358) hx hb dL_law_814 (by decide) ?_
        exact L_law_3358_W hC hQ hst h_28 hf hw (lv_sub hl [2, 3, 4, 5, 6, 7] rfl)
      · replace hf := (if_neg c171).symm.trans hf
        refine lv_iconst (v := 0) hx hb dL_law_812 (by decide) ?_
        cases hf
        exact hQ _ _ _ _ _ _ dL_law_813 gz0 hw
  · replace hf := (if_neg c173).symm.trans hf
    refine lv_iconst (v := 0) hx hb dL_law_795 (by decide) ?_
    cases hf
    exact hQ _ _ _ _ _ _ dL_law_796 gz0 hw

def L_law_817 (E : gE) (r_28 : Nat → Nat → Nat → Nat → Nat → Int32 → gS → Option (Int32 × gS)) (l0 : Nat) (l1 : Nat) (l2 : Nat) (l3 : Nat) (l4 : Nat) (l5 : Int32) (σ : gS) : Option (Int32 × gS) :=
  ob (graI E 0 σ l0 (l5 + (1 : Int32))) fun x174 =>
  ob (L_staleCount_f E l1 x174 l3 σ) fun x176 =>
  ob (graI E 0 x176.2 l0 (l5 + (1 : Int32))) fun x178 =>
  ob (gcl x176.2 l2 11) fun _ =>
  ob (X13_staleCount_f E l2 x178 x176.2) fun x180 =>
  ob (gcl x180.2 l2 11) fun _ =>
  ob (X13_thrown_f E x180.2 l2) fun x183 =>
  if x183 = x176.1 then
    if x176.1 = 0 then
      ob (graJ E x180.2 l3 (0 : Int32)) fun x186 =>
      if (lg_cmp x186 ((x180.1).toInt64)) = 0 then
        L_law_3358 E r_28 l0 l1 l2 l3 l4 l5 x180.2
      else
        some ((0 : Int32), x180.2)
    else
      L_law_3358 E r_28 l0 l1 l2 l3 l4 l5 x180.2
  else
    some ((0 : Int32), x180.2)
set_option maxHeartbeats 4000000 in
set_option maxRecDepth 100000 in
theorem L_law_817_W {σ : gS} {l0 : Nat} {l1 : Nat} {l2 : Nat} {l3 : Nat} {l4 : Nat} {l5 : Int32} {res : (Int32 × gS)} {ls : Array Slot} (hC : gC E D A p R s m args meth c cL_law 10 RL nm 11 259) (hQ : gQI E D A p l e R s m args below meth c Q cL_law FieldType.boolean res) (hst : l.stackTraces = false) {r_28 : Nat → Nat → Nat → Nat → Nat → Int32 → gS → Option (Int32 × gS)} (h_28 : ∀ {l0 : Nat} {l1 : Nat} {l2 : Nat} {l3 : Nat} {l4 : Nat} {l5 : Int32} {σ : gS} {H : Heap} {locs : List Loc} {cells slots : Nat} {ls : Array Slot}, r_28 l0 l1 l2 l3 l4 l5 σ = some res → gW E D A s σ H locs → lv_has ls 10 [(0, .ref l0), (1, .ref l1), (2, .ref l2), (3, .ref l3), (4, .ref l4), (5, .int l5)] → W p l e R s m args below meth c H locs cells slots Q (F0 m 28 ls [])) (hf : L_law_817 E r_28 l0 l1 l2 l3 l4 l5 σ = some res) (hw : gW E D A s σ H locs) (hl : lv_has ls 10 [(0, .ref l0), (1, .ref l1), (2, .ref l2), (3, .ref l3), (4, .ref l4), (5, .int l5)]) : W p l e R s m args below meth c H locs cells slots Q (F0 m 817 ls []) := by
  have hC0 := hC
  obtain ⟨hx, hb, hml, hown, hts, -⟩ := hC0
  unfold L_law_817 at hf
  refine lv_aload_n hx hb dL_law_817 rfl (lv_at hl 1 rfl) ?_
  refine lv_aload_n hx hb dL_law_818 rfl (lv_at hl 0 rfl) ?_
  refine lv_iload hx hb dL_law_819 (lv_at hl 5 rfl) ?_
  refine lv_iconst (v := 1) hx hb dL_law_821 (by decide) ?_
  refine lv_iadd hx hb dL_law_822 ?_
  obtain ⟨x174, h175, hf⟩ := ob_some hf
  refine gg_aldI hC hw h175 dL_law_823 ?_
  refine lv_aload_n hx hb dL_law_824 rfl (lv_at hl 3 rfl) ?_
  obtain ⟨x176, h177, hf⟩ := ob_some hf
  refine gg_yHI (As := [.ref l1, .int x174, .ref l3]) hC hw (L_staleCount_M l hst E D A h177) g_ml_L_209 hd_L_staleCount.2 (Nat.le_of_ble_eq_true rfl) (Nat.le_of_ble_eq_true rfl) hl.1 rfl (Nat.le_of_ble_eq_true rfl) dL_law_825 (fun _ _ he => nomatch (congrArg Prod.fst he)) (fun r9 σ9 he H locs cells slots hw => ?_)
  cases he
  refine lv_istore (lv' := [(6, .int x176.1), (0, .ref l0), (1, .ref l1), (2, .ref l2), (3, .ref l3), (4, .ref l4), (5, .int l5)]) hx hb dL_law_828 hl (by decide) rfl (fun ls hl => ?_)
  refine lv_aload_n hx hb dL_law_830 rfl (lv_at hl 3 rfl) ?_
  refine lv_aload_n hx hb dL_law_831 rfl (lv_at hl 1 rfl) ?_
  refine lv_iload hx hb dL_law_832 (lv_at hl 6 rfl) ?_
  refine lv_iconst (v := 1) hx hb dL_law_834 (by decide) ?_
  refine lv_iadd hx hb dL_law_835 ?_
  obtain ⟨x178, h179, hf⟩ := ob_some hf
  refine gg_aldI hC hw h179 dL_law_836 ?_
  obtain ⟨_, h182, hf⟩ := ob_some hf
  obtain ⟨x180, h181, hf⟩ := ob_some hf
  refine gg_cVI (As := [.int x178]) hC hw (X13_staleCount_M l E D A h181) h182 rfl g_ml_L_211 hd_X13_staleCount (Nat.le_of_ble_eq_true rfl) (Nat.le_of_ble_eq_true rfl) hl.1 rfl (Nat.le_of_ble_eq_true rfl) dL_law_837 (fun H locs cells slots hw => ?_)
  refine lv_istore (lv' := [(7, .int x180.1), (6, .int x176.1), (0, .ref l0), (1, .ref l1), (2, .ref l2), (3, .ref l3), (4, .ref l4), (5, .int l5)]) hx hb dL_law_840 hl (by decide) rfl (fun ls hl => ?_)
  refine lv_aload_n hx hb dL_law_842 rfl (lv_at hl 4 rfl) ?_
  obtain ⟨_, h185, hf⟩ := ob_some hf
  obtain ⟨x183, h184, hf⟩ := ob_some hf
  refine gg_cVI (As := []) hC hw (X13_thrown_M l E D A h184) h185 rfl g_ml_L_174 hd_X13_thrown (Nat.le_of_ble_eq_true rfl) (Nat.le_of_ble_eq_true rfl) hl.1 rfl (Nat.le_of_ble_eq_true rfl) dL_law_843 (fun H locs cells slots hw => ?_)
  refine lv_iload hx hb dL_law_846 (lv_at hl 1 rfl) ?_
  refine lv_icmp_eq (tgt := 853) hx hb dL_law_848 (by decide) (fun c190 => ?_) (fun c190 => ?_)
  · replace hf := (if_pos c190).symm.trans hf
    refine lv_iload hx hb dL_law_853 (lv_at hl 1 rfl) ?_
    refine lv_if_ne (tgt := 870) hx hb dL_law_855 (by decide) (fun c189 => ?_) (fun c189 => ?_)
    · replace hf := (if_neg c189).symm.trans hf
      refine lv_goto (tgt := 3358) hx hb dL_law_870 (by decide) ?_
      exact L_law_3358_W hC hQ hst h_28 hf hw (lv_sub hl [2, 3, 4, 5, 6, 7] rfl)
    · replace hf := (if_pos c189).symm.trans hf
      refine lv_aload_n hx hb dL_law_858 rfl (lv_at hl 5 rfl) ?_
      refine lv_iconst (v := 0) hx hb dL_law_859 (by decide) ?_
      obtain ⟨x186, h187, hf⟩ := ob_some hf
      refine gg_aldJ hC hw h187 dL_law_860 ?_
      refine lv_iload hx hb dL_law_861 (lv_at hl 0 rfl) ?_
      refine lv_i2l (v := (x180.1).toInt64) hx hb dL_law_863 rfl ?_
      refine W.lcmp hx hb dL_law_864 ?_
      refine lv_if_eq (tgt := 870) hx hb dL_law_865 (by decide) (fun c188 => ?_) (fun c188 => ?_)
      · replace hf := (if_pos c188).symm.trans hf
        refine lv_goto (tgt := 3358) hx hb dL_law_870 (by decide) ?_
        exact L_law_3358_W hC hQ hst h_28 hf hw (lv_sub hl [2, 3, 4, 5, 6, 7] rfl)
      · replace hf := (if_neg c188).symm.trans hf
        refine lv_iconst (v := 0) hx hb dL_law_868 (by decide) ?_
        cases hf
        exact hQ _ _ _ _ _ _ dL_law_869 gz0 hw
  · replace hf := (if_neg c190).symm.trans hf
    refine lv_iconst (v := 0) hx hb dL_law_851 (by decide) ?_
    cases hf
    exact hQ _ _ _ _ _ _ dL_law_852 gz0 hw

def L_law_873 (E : gE) (r_28 : Nat → Nat → Nat → Nat → Nat → Int32 → gS → Option (Int32 × gS)) (l0 : Nat) (l1 : Nat) (l2 : Nat) (l3 : Nat) (l4 : Nat) (l5 : Int32) (σ : gS) : Option (Int32 × gS) :=
  ob (graI E 0 σ l0 (l5 + (1 : Int32))) fun x191 =>
  ob (graI E 0 σ l0 (l5 + (2 : Int32))) fun x193 =>
  ob (L_frequency_f E l1 x191 x193 l3 σ) fun x195 =>
  ob (graI E 0 x195.2 l0 (l5 + (1 : Int32))) fun x197 =>
  ob (graI E 0 x195.2 l0 (l5 + (2 : Int32))) fun x199 =>
  ob (gcl x195.2 l2 11) fun _ =>
  ob (X13_frequency_f E l2 x197 x199 x195.2) fun x201 =>
  ob (gcl x201.2 l2 11) fun _ =>
  ob (X13_thrown_f E x201.2 l2) fun x204 =>
  if x204 = x195.1 then
    if x195.1 = 0 then
      ob (graJ E x201.2 l3 (0 : Int32)) fun x207 =>
      if (lg_cmp x207 ((x201.1).toInt64)) = 0 then
        L_law_3358 E r_28 l0 l1 l2 l3 l4 l5 x201.2
      else
        some ((0 : Int32), x201.2)
    else
      L_law_3358 E r_28 l0 l1 l2 l3 l4 l5 x201.2
  else
    some ((0 : Int32), x201.2)
set_option maxHeartbeats 4000000 in
set_option maxRecDepth 100000 in
theorem L_law_873_W {σ : gS} {l0 : Nat} {l1 : Nat} {l2 : Nat} {l3 : Nat} {l4 : Nat} {l5 : Int32} {res : (Int32 × gS)} {ls : Array Slot} (hC : gC E D A p R s m args meth c cL_law 10 RL nm 11 259) (hQ : gQI E D A p l e R s m args below meth c Q cL_law FieldType.boolean res) (hst : l.stackTraces = false) {r_28 : Nat → Nat → Nat → Nat → Nat → Int32 → gS → Option (Int32 × gS)} (h_28 : ∀ {l0 : Nat} {l1 : Nat} {l2 : Nat} {l3 : Nat} {l4 : Nat} {l5 : Int32} {σ : gS} {H : Heap} {locs : List Loc} {cells slots : Nat} {ls : Array Slot}, r_28 l0 l1 l2 l3 l4 l5 σ = some res → gW E D A s σ H locs → lv_has ls 10 [(0, .ref l0), (1, .ref l1), (2, .ref l2), (3, .ref l3), (4, .ref l4), (5, .int l5)] → W p l e R s m args below meth c H locs cells slots Q (F0 m 28 ls [])) (hf : L_law_873 E r_28 l0 l1 l2 l3 l4 l5 σ = some res) (hw : gW E D A s σ H locs) (hl : lv_has ls 10 [(0, .ref l0), (1, .ref l1), (2, .ref l2), (3, .ref l3), (4, .ref l4), (5, .int l5)]) : W p l e R s m args below meth c H locs cells slots Q (F0 m 873 ls []) := by
  have hC0 := hC
  obtain ⟨hx, hb, hml, hown, hts, -⟩ := hC0
  unfold L_law_873 at hf
  refine lv_aload_n hx hb dL_law_873 rfl (lv_at hl 1 rfl) ?_
  refine lv_aload_n hx hb dL_law_874 rfl (lv_at hl 0 rfl) ?_
  refine lv_iload hx hb dL_law_875 (lv_at hl 5 rfl) ?_
  refine lv_iconst (v := 1) hx hb dL_law_877 (by decide) ?_
  refine lv_iadd hx hb dL_law_878 ?_
  obtain ⟨x191, h192, hf⟩ := ob_some hf
  refine gg_aldI hC hw h192 dL_law_879 ?_
  refine lv_aload_n hx hb dL_law_880 rfl (lv_at hl 0 rfl) ?_
  refine lv_iload hx hb dL_law_881 (lv_at hl 5 rfl) ?_
  refine lv_iconst (v := 2) hx hb dL_law_883 (by decide) ?_
  refine lv_iadd hx hb dL_law_884 ?_
  obtain ⟨x193, h194, hf⟩ := ob_some hf
  refine gg_aldI hC hw h194 dL_law_885 ?_
  refine lv_aload_n hx hb dL_law_886 rfl (lv_at hl 3 rfl) ?_
  obtain ⟨x195, h196, hf⟩ := ob_some hf
  refine gg_yHI (As := [.ref l1, .int x191, .int x193, .ref l3]) hC hw (L_frequency_M l hst E D A h196) g_ml_L_212 hd_L_frequency.2 (Nat.le_of_ble_eq_true rfl) (Nat.le_of_ble_eq_true rfl) hl.1 rfl (Nat.le_of_ble_eq_true rfl) dL_law_887 (fun _ _ he => nomatch (congrArg Prod.fst he)) (fun r9 σ9 he H locs cells slots hw => ?_)
  cases he
  refine lv_istore (lv' := [(6, .int x195.1), (0, .ref l0), (1, .ref l1), (2, .ref l2), (3, .ref l3), (4, .ref l4), (5, .int l5)]) hx hb dL_law_890 hl (by decide) rfl (fun ls hl => ?_)
  refine lv_aload_n hx hb dL_law_892 rfl (lv_at hl 3 rfl) ?_
  refine lv_aload_n hx hb dL_law_893 rfl (lv_at hl 1 rfl) ?_
  refine lv_iload hx hb dL_law_894 (lv_at hl 6 rfl) ?_
  refine lv_iconst (v := 1) hx hb dL_law_896 (by decide) ?_
  refine lv_iadd hx hb dL_law_897 ?_
  obtain ⟨x197, h198, hf⟩ := ob_some hf
  refine gg_aldI hC hw h198 dL_law_898 ?_
  refine lv_aload_n hx hb dL_law_899 rfl (lv_at hl 1 rfl) ?_
  refine lv_iload hx hb dL_law_900 (lv_at hl 6 rfl) ?_
  refine lv_iconst (v := 2) hx hb dL_law_902 (by decide) ?_
  refine lv_iadd hx hb dL_law_903 ?_
  obtain ⟨x199, h200, hf⟩ := ob_some hf
  refine gg_aldI hC hw h200 dL_law_904 ?_
  obtain ⟨_, h203, hf⟩ := ob_some hf
  obtain ⟨x201, h202, hf⟩ := ob_some hf
  refine gg_cVI (As := [.int x197, .int x199]) hC hw (X13_frequency_M l E D A h202) h203 rfl g_ml_L_214 hd_X13_frequency (Nat.le_of_ble_eq_true rfl) (Nat.le_of_ble_eq_true rfl) hl.1 rfl (Nat.le_of_ble_eq_true rfl) dL_law_905 (fun H locs cells slots hw => ?_)
  refine lv_istore (lv' := [(7, .int x201.1), (6, .int x195.1), (0, .ref l0), (1, .ref l1), (2, .ref l2), (3, .ref l3), (4, .ref l4), (5, .int l5)]) hx hb dL_law_908 hl (by decide) rfl (fun ls hl => ?_)
  refine lv_aload_n hx hb dL_law_910 rfl (lv_at hl 4 rfl) ?_
  obtain ⟨_, h206, hf⟩ := ob_some hf
  obtain ⟨x204, h205, hf⟩ := ob_some hf
  refine gg_cVI (As := []) hC hw (X13_thrown_M l E D A h205) h206 rfl g_ml_L_174 hd_X13_thrown (Nat.le_of_ble_eq_true rfl) (Nat.le_of_ble_eq_true rfl) hl.1 rfl (Nat.le_of_ble_eq_true rfl) dL_law_911 (fun H locs cells slots hw => ?_)
  refine lv_iload hx hb dL_law_914 (lv_at hl 1 rfl) ?_
  refine lv_icmp_eq (tgt := 921) hx hb dL_law_916 (by decide) (fun c211 => ?_) (fun c211 => ?_)
  · replace hf := (if_pos c211).symm.trans hf
    refine lv_iload hx hb dL_law_921 (lv_at hl 1 rfl) ?_
    refine lv_if_ne (tgt := 938) hx hb dL_law_923 (by decide) (fun c210 => ?_) (fun c210 => ?_)
    · replace hf := (if_neg c210).symm.trans hf
      refine lv_goto (tgt := 3358) hx hb dL_law_938 (by decide) ?_
      exact L_law_3358_W hC hQ hst h_28 hf hw (lv_sub hl [2, 3, 4, 5, 6, 7] rfl)
    · replace hf := (if_pos c210).symm.trans hf
      refine lv_aload_n hx hb dL_law_926 rfl (lv_at hl 5 rfl) ?_
      refine lv_iconst (v := 0) hx hb dL_law_927 (by decide) ?_
      obtain ⟨x207, h208, hf⟩ := ob_some hf
      refine gg_aldJ hC hw h208 dL_law_928 ?_
      refine lv_iload hx hb dL_law_929 (lv_at hl 0 rfl) ?_
      refine lv_i2l (v := (x201.1).toInt64) hx hb dL_law_931 rfl ?_
      refine W.lcmp hx hb dL_law_932 ?_
      refine lv_if_eq (tgt := 938) hx hb dL_law_933 (by decide) (fun c209 => ?_) (fun c209 => ?_)
      · replace hf := (if_pos c209).symm.trans hf
        refine lv_goto (tgt := 3358) hx hb dL_law_938 (by decide) ?_
        exact L_law_3358_W hC hQ hst h_28 hf hw (lv_sub hl [2, 3, 4, 5, 6, 7] rfl)
      · replace hf := (if_neg c209).symm.trans hf
        refine lv_iconst (v := 0) hx hb dL_law_936 (by decide) ?_
        cases hf
        exact hQ _ _ _ _ _ _ dL_law_937 gz0 hw
  · replace hf := (if_neg c211).symm.trans hf
    refine lv_iconst (v := 0) hx hb dL_law_919 (by decide) ?_
    cases hf
    exact hQ _ _ _ _ _ _ dL_law_920 gz0 hw

def L_law_941 (E : gE) (r_28 : Nat → Nat → Nat → Nat → Nat → Int32 → gS → Option (Int32 × gS)) (l0 : Nat) (l1 : Nat) (l2 : Nat) (l3 : Nat) (l4 : Nat) (l5 : Int32) (σ : gS) : Option (Int32 × gS) :=
  ob (graI E 0 σ l0 (l5 + (1 : Int32))) fun x212 =>
  ob (L_commonestCode_f E l1 x212 l3 σ) fun x214 =>
  ob (graI E 0 x214.2 l0 (l5 + (1 : Int32))) fun x216 =>
  ob (gcl x214.2 l2 11) fun _ =>
  ob (X13_commonestCode_f E l2 x216 x214.2) fun x218 =>
  ob (gcl x218.2 l2 11) fun _ =>
  ob (X13_thrown_f E x218.2 l2) fun x221 =>
  if x221 = x214.1 then
    if x214.1 = 0 then
      ob (graJ E x218.2 l3 (0 : Int32)) fun x224 =>
      if (lg_cmp x224 ((x218.1).toInt64)) = 0 then
        L_law_3358 E r_28 l0 l1 l2 l3 l4 l5 x218.2
      else
        some ((0 : Int32), x218.2)
    else
      L_law_3358 E r_28 l0 l1 l2 l3 l4 l5 x218.2
  else
    some ((0 : Int32), x218.2)
set_option maxHeartbeats 4000000 in
set_option maxRecDepth 100000 in
theorem L_law_941_W {σ : gS} {l0 : Nat} {l1 : Nat} {l2 : Nat} {l3 : Nat} {l4 : Nat} {l5 : Int32} {res : (Int32 × gS)} {ls : Array Slot} (hC : gC E D A p R s m args meth c cL_law 10 RL nm 11 259) (hQ : gQI E D A p l e R s m args below meth c Q cL_law FieldType.boolean res) (hst : l.stackTraces = false) {r_28 : Nat → Nat → Nat → Nat → Nat → Int32 → gS → Option (Int32 × gS)} (h_28 : ∀ {l0 : Nat} {l1 : Nat} {l2 : Nat} {l3 : Nat} {l4 : Nat} {l5 : Int32} {σ : gS} {H : Heap} {locs : List Loc} {cells slots : Nat} {ls : Array Slot}, r_28 l0 l1 l2 l3 l4 l5 σ = some res → gW E D A s σ H locs → lv_has ls 10 [(0, .ref l0), (1, .ref l1), (2, .ref l2), (3, .ref l3), (4, .ref l4), (5, .int l5)] → W p l e R s m args below meth c H locs cells slots Q (F0 m 28 ls [])) (hf : L_law_941 E r_28 l0 l1 l2 l3 l4 l5 σ = some res) (hw : gW E D A s σ H locs) (hl : lv_has ls 10 [(0, .ref l0), (1, .ref l1), (2, .ref l2), (3, .ref l3), (4, .ref l4), (5, .int l5)]) : W p l e R s m args below meth c H locs cells slots Q (F0 m 941 ls []) := by
  have hC0 := hC
  obtain ⟨hx, hb, hml, hown, hts, -⟩ := hC0
  unfold L_law_941 at hf
  refine lv_aload_n hx hb dL_law_941 rfl (lv_at hl 1 rfl) ?_
  refine lv_aload_n hx hb dL_law_942 rfl (lv_at hl 0 rfl) ?_
  refine lv_iload hx hb dL_law_943 (lv_at hl 5 rfl) ?_
  refine lv_iconst (v := 1) hx hb dL_law_945 (by decide) ?_
  refine lv_iadd hx hb dL_law_946 ?_
  obtain ⟨x212, h213, hf⟩ := ob_some hf
  refine gg_aldI hC hw h213 dL_law_947 ?_
  refine lv_aload_n hx hb dL_law_948 rfl (lv_at hl 3 rfl) ?_
  obtain ⟨x214, h215, hf⟩ := ob_some hf
  refine gg_yHI (As := [.ref l1, .int x212, .ref l3]) hC hw (L_commonestCode_M l hst E D A h215) g_ml_L_215 hd_L_commonestCode.2 (Nat.le_of_ble_eq_true rfl) (Nat.le_of_ble_eq_true rfl) hl.1 rfl (Nat.le_of_ble_eq_true rfl) dL_law_949 (fun _ _ he => nomatch (congrArg Prod.fst he)) (fun r9 σ9 he H locs cells slots hw => ?_)
  cases he
  refine lv_istore (lv' := [(6, .int x214.1), (0, .ref l0), (1, .ref l1), (2, .ref l2), (3, .ref l3), (4, .ref l4), (5, .int l5)]) hx hb dL_law_952 hl (by decide) rfl (fun ls hl => ?_)
  refine lv_aload_n hx hb dL_law_954 rfl (lv_at hl 3 rfl) ?_
  refine lv_aload_n hx hb dL_law_955 rfl (lv_at hl 1 rfl) ?_
  refine lv_iload hx hb dL_law_956 (lv_at hl 6 rfl) ?_
  refine lv_iconst (v := 1) hx hb dL_law_958 (by decide) ?_
  refine lv_iadd hx hb dL_law_959 ?_
  obtain ⟨x216, h217, hf⟩ := ob_some hf
  refine gg_aldI hC hw h217 dL_law_960 ?_
  obtain ⟨_, h220, hf⟩ := ob_some hf
  obtain ⟨x218, h219, hf⟩ := ob_some hf
  refine gg_cVI (As := [.int x216]) hC hw (X13_commonestCode_M l E D A h219) h220 rfl g_ml_L_217 hd_X13_commonestCode (Nat.le_of_ble_eq_true rfl) (Nat.le_of_ble_eq_true rfl) hl.1 rfl (Nat.le_of_ble_eq_true rfl) dL_law_961 (fun H locs cells slots hw => ?_)
  refine lv_istore (lv' := [(7, .int x218.1), (6, .int x214.1), (0, .ref l0), (1, .ref l1), (2, .ref l2), (3, .ref l3), (4, .ref l4), (5, .int l5)]) hx hb dL_law_964 hl (by decide) rfl (fun ls hl => ?_)
  refine lv_aload_n hx hb dL_law_966 rfl (lv_at hl 4 rfl) ?_
  obtain ⟨_, h223, hf⟩ := ob_some hf
  obtain ⟨x221, h222, hf⟩ := ob_some hf
  refine gg_cVI (As := []) hC hw (X13_thrown_M l E D A h222) h223 rfl g_ml_L_174 hd_X13_thrown (Nat.le_of_ble_eq_true rfl) (Nat.le_of_ble_eq_true rfl) hl.1 rfl (Nat.le_of_ble_eq_true rfl) dL_law_967 (fun H locs cells slots hw => ?_)
  refine lv_iload hx hb dL_law_970 (lv_at hl 1 rfl) ?_
  refine lv_icmp_eq (tgt := 977) hx hb dL_law_972 (by decide) (fun c228 => ?_) (fun c228 => ?_)
  · replace hf := (if_pos c228).symm.trans hf
    refine lv_iload hx hb dL_law_977 (lv_at hl 1 rfl) ?_
    refine lv_if_ne (tgt := 994) hx hb dL_law_979 (by decide) (fun c227 => ?_) (fun c227 => ?_)
    · replace hf := (if_neg c227).symm.trans hf
      refine lv_goto (tgt := 3358) hx hb dL_law_994 (by decide) ?_
      exact L_law_3358_W hC hQ hst h_28 hf hw (lv_sub hl [2, 3, 4, 5, 6, 7] rfl)
    · replace hf := (if_pos c227).symm.trans hf
      refine lv_aload_n hx hb dL_law_982 rfl (lv_at hl 5 rfl) ?_
      refine lv_iconst (v := 0) hx hb dL_law_983 (by decide) ?_
      obtain ⟨x224, h225, hf⟩ := ob_some hf
      refine gg_aldJ hC hw h225 dL_law_984 ?_
      refine lv_iload hx hb dL_law_985 (lv_at hl 0 rfl) ?_
      refine lv_i2l (v := (x218.1).toInt64) hx hb dL_law_987 rfl ?_
      refine W.lcmp hx hb dL_law_988 ?_
      refine lv_if_eq (tgt := 994) hx hb dL_law_989 (by decide) (fun c226 => ?_) (fun c226 => ?_)
      · replace hf := (if_pos c226).symm.trans hf
        refine lv_goto (tgt := 3358) hx hb dL_law_994 (by decide) ?_
        exact L_law_3358_W hC hQ hst h_28 hf hw (lv_sub hl [2, 3, 4, 5, 6, 7] rfl)
      · replace hf := (if_neg c226).symm.trans hf
        refine lv_iconst (v := 0) hx hb dL_law_992 (by decide) ?_
        cases hf
        exact hQ _ _ _ _ _ _ dL_law_993 gz0 hw
  · replace hf := (if_neg c228).symm.trans hf
    refine lv_iconst (v := 0) hx hb dL_law_975 (by decide) ?_
    cases hf
    exact hQ _ _ _ _ _ _ dL_law_976 gz0 hw

def L_law_997 (E : gE) (r_28 : Nat → Nat → Nat → Nat → Nat → Int32 → gS → Option (Int32 × gS)) (l0 : Nat) (l1 : Nat) (l2 : Nat) (l3 : Nat) (l4 : Nat) (l5 : Int32) (σ : gS) : Option (Int32 × gS) :=
  ob (graI E 0 σ l0 (l5 + (1 : Int32))) fun x229 =>
  ob (L_bitWidth_f E l1 x229 l3 σ) fun x231 =>
  ob (graI E 0 x231.2 l0 (l5 + (1 : Int32))) fun x233 =>
  ob (gcl x231.2 l2 11) fun _ =>
  ob (X13_bitWidth_f E l2 x233 x231.2) fun x235 =>
  ob (gcl x235.2 l2 11) fun _ =>
  ob (X13_thrown_f E x235.2 l2) fun x238 =>
  if x238 = x231.1 then
    if x231.1 = 0 then
      ob (graJ E x235.2 l3 (0 : Int32)) fun x241 =>
      if (lg_cmp x241 ((x235.1).toInt64)) = 0 then
        L_law_3358 E r_28 l0 l1 l2 l3 l4 l5 x235.2
      else
        some ((0 : Int32), x235.2)
    else
      L_law_3358 E r_28 l0 l1 l2 l3 l4 l5 x235.2
  else
    some ((0 : Int32), x235.2)
set_option maxHeartbeats 4000000 in
set_option maxRecDepth 100000 in
theorem L_law_997_W {σ : gS} {l0 : Nat} {l1 : Nat} {l2 : Nat} {l3 : Nat} {l4 : Nat} {l5 : Int32} {res : (Int32 × gS)} {ls : Array Slot} (hC : gC E D A p R s m args meth c cL_law 10 RL nm 11 259) (hQ : gQI E D A p l e R s m args below meth c Q cL_law FieldType.boolean res) (hst : l.stackTraces = false) {r_28 : Nat → Nat → Nat → Nat → Nat → Int32 → gS → Option (Int32 × gS)} (h_28 : ∀ {l0 : Nat} {l1 : Nat} {l2 : Nat} {l3 : Nat} {l4 : Nat} {l5 : Int32} {σ : gS} {H : Heap} {locs : List Loc} {cells slots : Nat} {ls : Array Slot}, r_28 l0 l1 l2 l3 l4 l5 σ = some res → gW E D A s σ H locs → lv_has ls 10 [(0, .ref l0), (1, .ref l1), (2, .ref l2), (3, .ref l3), (4, .ref l4), (5, .int l5)] → W p l e R s m args below meth c H locs cells slots Q (F0 m 28 ls [])) (hf : L_law_997 E r_28 l0 l1 l2 l3 l4 l5 σ = some res) (hw : gW E D A s σ H locs) (hl : lv_has ls 10 [(0, .ref l0), (1, .ref l1), (2, .ref l2), (3, .ref l3), (4, .ref l4), (5, .int l5)]) : W p l e R s m args below meth c H locs cells slots Q (F0 m 997 ls []) := by
  have hC0 := hC
  obtain ⟨hx, hb, hml, hown, hts, -⟩ := hC0
  unfold L_law_997 at hf
  refine lv_aload_n hx hb dL_law_997 rfl (lv_at hl 1 rfl) ?_
  refine lv_aload_n hx hb dL_law_998 rfl (lv_at hl 0 rfl) ?_
  refine lv_iload hx hb dL_law_999 (lv_at hl 5 rfl) ?_
  refine lv_iconst (v := 1) hx hb dL_law_1001 (by decide) ?_
  refine lv_iadd hx hb dL_law_1002 ?_
  obtain ⟨x229, h230, hf⟩ := ob_some hf
  refine gg_aldI hC hw h230 dL_law_1003 ?_
  refine lv_aload_n hx hb dL_law_1004 rfl (lv_at hl 3 rfl) ?_
  obtain ⟨x231, h232, hf⟩ := ob_some hf
  refine gg_yHI (As := [.ref l1, .int x229, .ref l3]) hC hw (L_bitWidth_M l hst E D A h232) g_ml_L_218 hd_L_bitWidth.2 (Nat.le_of_ble_eq_true rfl) (Nat.le_of_ble_eq_true rfl) hl.1 rfl (Nat.le_of_ble_eq_true rfl) dL_law_1005 (fun _ _ he => nomatch (congrArg Prod.fst he)) (fun r9 σ9 he H locs cells slots hw => ?_)
  cases he
  refine lv_istore (lv' := [(6, .int x231.1), (0, .ref l0), (1, .ref l1), (2, .ref l2), (3, .ref l3), (4, .ref l4), (5, .int l5)]) hx hb dL_law_1008 hl (by decide) rfl (fun ls hl => ?_)
  refine lv_aload_n hx hb dL_law_1010 rfl (lv_at hl 3 rfl) ?_
  refine lv_aload_n hx hb dL_law_1011 rfl (lv_at hl 1 rfl) ?_
  refine lv_iload hx hb dL_law_1012 (lv_at hl 6 rfl) ?_
  refine lv_iconst (v := 1) hx hb dL_law_1014 (by decide) ?_
  refine lv_iadd hx hb dL_law_1015 ?_
  obtain ⟨x233, h234, hf⟩ := ob_some hf
  refine gg_aldI hC hw h234 dL_law_1016 ?_
  obtain ⟨_, h237, hf⟩ := ob_some hf
  obtain ⟨x235, h236, hf⟩ := ob_some hf
  refine gg_cVI (As := [.int x233]) hC hw (X13_bitWidth_M l E D A h236) h237 rfl g_ml_L_220 hd_X13_bitWidth (Nat.le_of_ble_eq_true rfl) (Nat.le_of_ble_eq_true rfl) hl.1 rfl (Nat.le_of_ble_eq_true rfl) dL_law_1017 (fun H locs cells slots hw => ?_)
  refine lv_istore (lv' := [(7, .int x235.1), (6, .int x231.1), (0, .ref l0), (1, .ref l1), (2, .ref l2), (3, .ref l3), (4, .ref l4), (5, .int l5)]) hx hb dL_law_1020 hl (by decide) rfl (fun ls hl => ?_)
  refine lv_aload_n hx hb dL_law_1022 rfl (lv_at hl 4 rfl) ?_
  obtain ⟨_, h240, hf⟩ := ob_some hf
  obtain ⟨x238, h239, hf⟩ := ob_some hf
  refine gg_cVI (As := []) hC hw (X13_thrown_M l E D A h239) h240 rfl g_ml_L_174 hd_X13_thrown (Nat.le_of_ble_eq_true rfl) (Nat.le_of_ble_eq_true rfl) hl.1 rfl (Nat.le_of_ble_eq_true rfl) dL_law_1023 (fun H locs cells slots hw => ?_)
  refine lv_iload hx hb dL_law_1026 (lv_at hl 1 rfl) ?_
  refine lv_icmp_eq (tgt := 1033) hx hb dL_law_1028 (by decide) (fun c245 => ?_) (fun c245 => ?_)
  · replace hf := (if_pos c245).symm.trans hf
    refine lv_iload hx hb dL_law_1033 (lv_at hl 1 rfl) ?_
    refine lv_if_ne (tgt := 1050) hx hb dL_law_1035 (by decide) (fun c244 => ?_) (fun c244 => ?_)
    · replace hf := (if_neg c244).symm.trans hf
      refine lv_goto (tgt := 3358) hx hb dL_law_1050 (by decide) ?_
      exact L_law_3358_W hC hQ hst h_28 hf hw (lv_sub hl [2, 3, 4, 5, 6, 7] rfl)
    · replace hf := (if_pos c244).symm.trans hf
      refine lv_aload_n hx hb dL_law_1038 rfl (lv_at hl 5 rfl) ?_
      refine lv_iconst (v := 0) hx hb dL_law_1039 (by decide) ?_
      obtain ⟨x241, h242, hf⟩ := ob_some hf
      refine gg_aldJ hC hw h242 dL_law_1040 ?_
      refine lv_iload hx hb dL_law_1041 (lv_at hl 0 rfl) ?_
      refine lv_i2l (v := (x235.1).toInt64) hx hb dL_law_1043 rfl ?_
      refine W.lcmp hx hb dL_law_1044 ?_
      refine lv_if_eq (tgt := 1050) hx hb dL_law_1045 (by decide) (fun c243 => ?_) (fun c243 => ?_)
      · replace hf := (if_pos c243).symm.trans hf
        refine lv_goto (tgt := 3358) hx hb dL_law_1050 (by decide) ?_
        exact L_law_3358_W hC hQ hst h_28 hf hw (lv_sub hl [2, 3, 4, 5, 6, 7] rfl)
      · replace hf := (if_neg c243).symm.trans hf
        refine lv_iconst (v := 0) hx hb dL_law_1048 (by decide) ?_
        cases hf
        exact hQ _ _ _ _ _ _ dL_law_1049 gz0 hw
  · replace hf := (if_neg c245).symm.trans hf
    refine lv_iconst (v := 0) hx hb dL_law_1031 (by decide) ?_
    cases hf
    exact hQ _ _ _ _ _ _ dL_law_1032 gz0 hw

def L_law_1053 (E : gE) (r_28 : Nat → Nat → Nat → Nat → Nat → Int32 → gS → Option (Int32 × gS)) (l0 : Nat) (l1 : Nat) (l2 : Nat) (l3 : Nat) (l4 : Nat) (l5 : Int32) (σ : gS) : Option (Int32 × gS) :=
  ob (graI E 0 σ l0 (l5 + (1 : Int32))) fun x246 =>
  ob (L_wordCount_f E l1 x246 l3 σ) fun x248 =>
  ob (graI E 0 x248.2 l0 (l5 + (1 : Int32))) fun x250 =>
  ob (gcl x248.2 l2 11) fun _ =>
  ob (X13_wordCount_f E l2 x250 x248.2) fun x252 =>
  ob (gcl x252.2 l2 11) fun _ =>
  ob (X13_thrown_f E x252.2 l2) fun x255 =>
  if x255 = x248.1 then
    if x248.1 = 0 then
      ob (graJ E x252.2 l3 (0 : Int32)) fun x258 =>
      if (lg_cmp x258 ((x252.1).toInt64)) = 0 then
        L_law_3358 E r_28 l0 l1 l2 l3 l4 l5 x252.2
      else
        some ((0 : Int32), x252.2)
    else
      L_law_3358 E r_28 l0 l1 l2 l3 l4 l5 x252.2
  else
    some ((0 : Int32), x252.2)
set_option maxHeartbeats 4000000 in
set_option maxRecDepth 100000 in
theorem L_law_1053_W {σ : gS} {l0 : Nat} {l1 : Nat} {l2 : Nat} {l3 : Nat} {l4 : Nat} {l5 : Int32} {res : (Int32 × gS)} {ls : Array Slot} (hC : gC E D A p R s m args meth c cL_law 10 RL nm 11 259) (hQ : gQI E D A p l e R s m args below meth c Q cL_law FieldType.boolean res) (hst : l.stackTraces = false) {r_28 : Nat → Nat → Nat → Nat → Nat → Int32 → gS → Option (Int32 × gS)} (h_28 : ∀ {l0 : Nat} {l1 : Nat} {l2 : Nat} {l3 : Nat} {l4 : Nat} {l5 : Int32} {σ : gS} {H : Heap} {locs : List Loc} {cells slots : Nat} {ls : Array Slot}, r_28 l0 l1 l2 l3 l4 l5 σ = some res → gW E D A s σ H locs → lv_has ls 10 [(0, .ref l0), (1, .ref l1), (2, .ref l2), (3, .ref l3), (4, .ref l4), (5, .int l5)] → W p l e R s m args below meth c H locs cells slots Q (F0 m 28 ls [])) (hf : L_law_1053 E r_28 l0 l1 l2 l3 l4 l5 σ = some res) (hw : gW E D A s σ H locs) (hl : lv_has ls 10 [(0, .ref l0), (1, .ref l1), (2, .ref l2), (3, .ref l3), (4, .ref l4), (5, .int l5)]) : W p l e R s m args below meth c H locs cells slots Q (F0 m 1053 ls []) := by
  have hC0 := hC
  obtain ⟨hx, hb, hml, hown, hts, -⟩ := hC0
  unfold L_law_1053 at hf
  refine lv_aload_n hx hb dL_law_1053 rfl (lv_at hl 1 rfl) ?_
  refine lv_aload_n hx hb dL_law_1054 rfl (lv_at hl 0 rfl) ?_
  refine lv_iload hx hb dL_law_1055 (lv_at hl 5 rfl) ?_
  refine lv_iconst (v := 1) hx hb dL_law_1057 (by decide) ?_
  refine lv_iadd hx hb dL_law_1058 ?_
  obtain ⟨x246, h247, hf⟩ := ob_some hf
  refine gg_aldI hC hw h247 dL_law_1059 ?_
  refine lv_aload_n hx hb dL_law_1060 rfl (lv_at hl 3 rfl) ?_
  obtain ⟨x248, h249, hf⟩ := ob_some hf
  refine gg_yHI (As := [.ref l1, .int x246, .ref l3]) hC hw (L_wordCount_M l hst E D A h249) g_ml_L_221 hd_L_wordCount.2 (Nat.le_of_ble_eq_true rfl) (Nat.le_of_ble_eq_true rfl) hl.1 rfl (Nat.le_of_ble_eq_true rfl) dL_law_1061 (fun _ _ he => nomatch (congrArg Prod.fst he)) (fun r9 σ9 he H locs cells slots hw => ?_)
  cases he
  refine lv_istore (lv' := [(6, .int x248.1), (0, .ref l0), (1, .ref l1), (2, .ref l2), (3, .ref l3), (4, .ref l4), (5, .int l5)]) hx hb dL_law_1064 hl (by decide) rfl (fun ls hl => ?_)
  refine lv_aload_n hx hb dL_law_1066 rfl (lv_at hl 3 rfl) ?_
  refine lv_aload_n hx hb dL_law_1067 rfl (lv_at hl 1 rfl) ?_
  refine lv_iload hx hb dL_law_1068 (lv_at hl 6 rfl) ?_
  refine lv_iconst (v := 1) hx hb dL_law_1070 (by decide) ?_
  refine lv_iadd hx hb dL_law_1071 ?_
  obtain ⟨x250, h251, hf⟩ := ob_some hf
  refine gg_aldI hC hw h251 dL_law_1072 ?_
  obtain ⟨_, h254, hf⟩ := ob_some hf
  obtain ⟨x252, h253, hf⟩ := ob_some hf
  refine gg_cVI (As := [.int x250]) hC hw (X13_wordCount_M l E D A h253) h254 rfl g_ml_L_223 hd_X13_wordCount (Nat.le_of_ble_eq_true rfl) (Nat.le_of_ble_eq_true rfl) hl.1 rfl (Nat.le_of_ble_eq_true rfl) dL_law_1073 (fun H locs cells slots hw => ?_)
  refine lv_istore (lv' := [(7, .int x252.1), (6, .int x248.1), (0, .ref l0), (1, .ref l1), (2, .ref l2), (3, .ref l3), (4, .ref l4), (5, .int l5)]) hx hb dL_law_1076 hl (by decide) rfl (fun ls hl => ?_)
  refine lv_aload_n hx hb dL_law_1078 rfl (lv_at hl 4 rfl) ?_
  obtain ⟨_, h257, hf⟩ := ob_some hf
  obtain ⟨x255, h256, hf⟩ := ob_some hf
  refine gg_cVI (As := []) hC hw (X13_thrown_M l E D A h256) h257 rfl g_ml_L_174 hd_X13_thrown (Nat.le_of_ble_eq_true rfl) (Nat.le_of_ble_eq_true rfl) hl.1 rfl (Nat.le_of_ble_eq_true rfl) dL_law_1079 (fun H locs cells slots hw => ?_)
  refine lv_iload hx hb dL_law_1082 (lv_at hl 1 rfl) ?_
  refine lv_icmp_eq (tgt := 1089) hx hb dL_law_1084 (by decide) (fun c262 => ?_) (fun c262 => ?_)
  · replace hf := (if_pos c262).symm.trans hf
    refine lv_iload hx hb dL_law_1089 (lv_at hl 1 rfl) ?_
    refine lv_if_ne (tgt := 1106) hx hb dL_law_1091 (by decide) (fun c261 => ?_) (fun c261 => ?_)
    · replace hf := (if_neg c261).symm.trans hf
      refine lv_goto (tgt := 3358) hx hb dL_law_1106 (by decide) ?_
      exact L_law_3358_W hC hQ hst h_28 hf hw (lv_sub hl [2, 3, 4, 5, 6, 7] rfl)
    · replace hf := (if_pos c261).symm.trans hf
      refine lv_aload_n hx hb dL_law_1094 rfl (lv_at hl 5 rfl) ?_
      refine lv_iconst (v := 0) hx hb dL_law_1095 (by decide) ?_
      obtain ⟨x258, h259, hf⟩ := ob_some hf
      refine gg_aldJ hC hw h259 dL_law_1096 ?_
      refine lv_iload hx hb dL_law_1097 (lv_at hl 0 rfl) ?_
      refine lv_i2l (v := (x252.1).toInt64) hx hb dL_law_1099 rfl ?_
      refine W.lcmp hx hb dL_law_1100 ?_
      refine lv_if_eq (tgt := 1106) hx hb dL_law_1101 (by decide) (fun c260 => ?_) (fun c260 => ?_)
      · replace hf := (if_pos c260).symm.trans hf
        refine lv_goto (tgt := 3358) hx hb dL_law_1106 (by decide) ?_
        exact L_law_3358_W hC hQ hst h_28 hf hw (lv_sub hl [2, 3, 4, 5, 6, 7] rfl)
      · replace hf := (if_neg c260).symm.trans hf
        refine lv_iconst (v := 0) hx hb dL_law_1104 (by decide) ?_
        cases hf
        exact hQ _ _ _ _ _ _ dL_law_1105 gz0 hw
  · replace hf := (if_neg c262).symm.trans hf
    refine lv_iconst (v := 0) hx hb dL_law_1087 (by decide) ?_
    cases hf
    exact hQ _ _ _ _ _ _ dL_law_1088 gz0 hw

def L_law_1109 (E : gE) (r_28 : Nat → Nat → Nat → Nat → Nat → Int32 → gS → Option (Int32 × gS)) (l0 : Nat) (l1 : Nat) (l2 : Nat) (l3 : Nat) (l4 : Nat) (l5 : Int32) (σ : gS) : Option (Int32 × gS) :=
  ob (graI E 0 σ l0 (l5 + (1 : Int32))) fun x263 =>
  ob (graI E 0 σ l0 (l5 + (2 : Int32))) fun x265 =>
  ob (L_packedWord_f E l1 x263 x265 l3 σ) fun x267 =>
  ob (graI E 0 x267.2 l0 (l5 + (1 : Int32))) fun x269 =>
  ob (graI E 0 x267.2 l0 (l5 + (2 : Int32))) fun x271 =>
  ob (gcl x267.2 l2 11) fun _ =>
  ob (X13_packedWord_f E l2 x269 x271 x267.2) fun x273 =>
  ob (gcl x273.2 l2 11) fun _ =>
  ob (X13_thrown_f E x273.2 l2) fun x276 =>
  if x276 = x267.1 then
    if x267.1 = 0 then
      ob (graJ E x273.2 l3 (0 : Int32)) fun x279 =>
      if (lg_cmp x279 x273.1) = 0 then
        L_law_3358 E r_28 l0 l1 l2 l3 l4 l5 x273.2
      else
        some ((0 : Int32), x273.2)
    else
      L_law_3358 E r_28 l0 l1 l2 l3 l4 l5 x273.2
  else
    some ((0 : Int32), x273.2)
set_option maxHeartbeats 4000000 in
set_option maxRecDepth 100000 in
theorem L_law_1109_W {σ : gS} {l0 : Nat} {l1 : Nat} {l2 : Nat} {l3 : Nat} {l4 : Nat} {l5 : Int32} {res : (Int32 × gS)} {ls : Array Slot} (hC : gC E D A p R s m args meth c cL_law 10 RL nm 11 259) (hQ : gQI E D A p l e R s m args below meth c Q cL_law FieldType.boolean res) (hst : l.stackTraces = false) {r_28 : Nat → Nat → Nat → Nat → Nat → Int32 → gS → Option (Int32 × gS)} (h_28 : ∀ {l0 : Nat} {l1 : Nat} {l2 : Nat} {l3 : Nat} {l4 : Nat} {l5 : Int32} {σ : gS} {H : Heap} {locs : List Loc} {cells slots : Nat} {ls : Array Slot}, r_28 l0 l1 l2 l3 l4 l5 σ = some res → gW E D A s σ H locs → lv_has ls 10 [(0, .ref l0), (1, .ref l1), (2, .ref l2), (3, .ref l3), (4, .ref l4), (5, .int l5)] → W p l e R s m args below meth c H locs cells slots Q (F0 m 28 ls [])) (hf : L_law_1109 E r_28 l0 l1 l2 l3 l4 l5 σ = some res) (hw : gW E D A s σ H locs) (hl : lv_has ls 10 [(0, .ref l0), (1, .ref l1), (2, .ref l2), (3, .ref l3), (4, .ref l4), (5, .int l5)]) : W p l e R s m args below meth c H locs cells slots Q (F0 m 1109 ls []) := by
  have hC0 := hC
  obtain ⟨hx, hb, hml, hown, hts, -⟩ := hC0
  unfold L_law_1109 at hf
  refine lv_aload_n hx hb dL_law_1109 rfl (lv_at hl 1 rfl) ?_
  refine lv_aload_n hx hb dL_law_1110 rfl (lv_at hl 0 rfl) ?_
  refine lv_iload hx hb dL_law_1111 (lv_at hl 5 rfl) ?_
  refine lv_iconst (v := 1) hx hb dL_law_1113 (by decide) ?_
  refine lv_iadd hx hb dL_law_1114 ?_
  obtain ⟨x263, h264, hf⟩ := ob_some hf
  refine gg_aldI hC hw h264 dL_law_1115 ?_
  refine lv_aload_n hx hb dL_law_1116 rfl (lv_at hl 0 rfl) ?_
  refine lv_iload hx hb dL_law_1117 (lv_at hl 5 rfl) ?_
  refine lv_iconst (v := 2) hx hb dL_law_1119 (by decide) ?_
  refine lv_iadd hx hb dL_law_1120 ?_
  obtain ⟨x265, h266, hf⟩ := ob_some hf
  refine gg_aldI hC hw h266 dL_law_1121 ?_
  refine lv_aload_n hx hb dL_law_1122 rfl (lv_at hl 3 rfl) ?_
  obtain ⟨x267, h268, hf⟩ := ob_some hf
  refine gg_yHI (As := [.ref l1, .int x263, .int x265, .ref l3]) hC hw (L_packedWord_M l hst E D A h268) g_ml_L_224 hd_L_packedWord.2 (Nat.le_of_ble_eq_true rfl) (Nat.le_of_ble_eq_true rfl) hl.1 rfl (Nat.le_of_ble_eq_true rfl) dL_law_1123 (fun _ _ he => nomatch (congrArg Prod.fst he)) (fun r9 σ9 he H locs cells slots hw => ?_)
  cases he
  refine lv_istore (lv' := [(6, .int x267.1), (0, .ref l0), (1, .ref l1), (2, .ref l2), (3, .ref l3), (4, .ref l4), (5, .int l5)]) hx hb dL_law_1126 hl (by decide) rfl (fun ls hl => ?_)
  refine lv_aload_n hx hb dL_law_1128 rfl (lv_at hl 3 rfl) ?_
  refine lv_aload_n hx hb dL_law_1129 rfl (lv_at hl 1 rfl) ?_
  refine lv_iload hx hb dL_law_1130 (lv_at hl 6 rfl) ?_
  refine lv_iconst (v := 1) hx hb dL_law_1132 (by decide) ?_
  refine lv_iadd hx hb dL_law_1133 ?_
  obtain ⟨x269, h270, hf⟩ := ob_some hf
  refine gg_aldI hC hw h270 dL_law_1134 ?_
  refine lv_aload_n hx hb dL_law_1135 rfl (lv_at hl 1 rfl) ?_
  refine lv_iload hx hb dL_law_1136 (lv_at hl 6 rfl) ?_
  refine lv_iconst (v := 2) hx hb dL_law_1138 (by decide) ?_
  refine lv_iadd hx hb dL_law_1139 ?_
  obtain ⟨x271, h272, hf⟩ := ob_some hf
  refine gg_aldI hC hw h272 dL_law_1140 ?_
  obtain ⟨_, h275, hf⟩ := ob_some hf
  obtain ⟨x273, h274, hf⟩ := ob_some hf
  refine gg_cVJ (As := [.int x269, .int x271]) hC hw (X13_packedWord_M l E D A h274) h275 rfl g_ml_L_226 hd_X13_packedWord (Nat.le_of_ble_eq_true rfl) (Nat.le_of_ble_eq_true rfl) hl.1 rfl (Nat.le_of_ble_eq_true rfl) dL_law_1141 (fun H locs cells slots hw => ?_)
  refine lv_lstore (lv' := [(7, .long x273.1), (6, .int x267.1), (0, .ref l0), (1, .ref l1), (2, .ref l2), (3, .ref l3), (4, .ref l4), (5, .int l5)]) hx hb dL_law_1144 hl (by decide) rfl (fun ls hl => ?_)
  refine lv_aload_n hx hb dL_law_1146 rfl (lv_at hl 4 rfl) ?_
  obtain ⟨_, h278, hf⟩ := ob_some hf
  obtain ⟨x276, h277, hf⟩ := ob_some hf
  refine gg_cVI (As := []) hC hw (X13_thrown_M l E D A h277) h278 rfl g_ml_L_174 hd_X13_thrown (Nat.le_of_ble_eq_true rfl) (Nat.le_of_ble_eq_true rfl) hl.1 rfl (Nat.le_of_ble_eq_true rfl) dL_law_1147 (fun H locs cells slots hw => ?_)
  refine lv_iload hx hb dL_law_1150 (lv_at hl 1 rfl) ?_
  refine lv_icmp_eq (tgt := 1157) hx hb dL_law_1152 (by decide) (fun c283 => ?_) (fun c283 => ?_)
  · replace hf := (if_pos c283).symm.trans hf
    refine lv_iload hx hb dL_law_1157 (lv_at hl 1 rfl) ?_
    refine lv_if_ne (tgt := 1173) hx hb dL_law_1159 (by decide) (fun c282 => ?_) (fun c282 => ?_)
    · replace hf := (if_neg c282).symm.trans hf
      refine lv_goto (tgt := 3358) hx hb dL_law_1173 (by decide) ?_
      exact L_law_3358_W hC hQ hst h_28 hf hw (lv_sub hl [2, 3, 4, 5, 6, 7] rfl)
    · replace hf := (if_pos c282).symm.trans hf
      refine lv_aload_n hx hb dL_law_1162 rfl (lv_at hl 5 rfl) ?_
      refine lv_iconst (v := 0) hx hb dL_law_1163 (by decide) ?_
      obtain ⟨x279, h280, hf⟩ := ob_some hf
      refine gg_aldJ hC hw h280 dL_law_1164 ?_
      refine lv_lload hx hb dL_law_1165 (lv_at hl 0 rfl) ?_
      refine W.lcmp hx hb dL_law_1167 ?_
      refine lv_if_eq (tgt := 1173) hx hb dL_law_1168 (by decide) (fun c281 => ?_) (fun c281 => ?_)
      · replace hf := (if_pos c281).symm.trans hf
        refine lv_goto (tgt := 3358) hx hb dL_law_1173 (by decide) ?_
        exact L_law_3358_W hC hQ hst h_28 hf hw (lv_sub hl [2, 3, 4, 5, 6, 7] rfl)
      · replace hf := (if_neg c281).symm.trans hf
        refine lv_iconst (v := 0) hx hb dL_law_1171 (by decide) ?_
        cases hf
        exact hQ _ _ _ _ _ _ dL_law_1172 gz0 hw
  · replace hf := (if_neg c283).symm.trans hf
    refine lv_iconst (v := 0) hx hb dL_law_1155 (by decide) ?_
    cases hf
    exact hQ _ _ _ _ _ _ dL_law_1156 gz0 hw

def L_law_1176 (E : gE) (r_28 : Nat → Nat → Nat → Nat → Nat → Int32 → gS → Option (Int32 × gS)) (l0 : Nat) (l1 : Nat) (l2 : Nat) (l3 : Nat) (l4 : Nat) (l5 : Int32) (σ : gS) : Option (Int32 × gS) :=
  ob (gcl σ l1 10) fun _ =>
  ob (X12_packedBits_f E σ l1) fun x284 =>
  ob (gcl σ l2 11) fun _ =>
  ob (X13_packedBits_f E l2 σ) fun x287 =>
  if x284 = x287.1 then
    L_law_3358 E r_28 l0 l1 l2 l3 l4 l5 x287.2
  else
    some ((0 : Int32), x287.2)
set_option maxHeartbeats 4000000 in
set_option maxRecDepth 100000 in
theorem L_law_1176_W {σ : gS} {l0 : Nat} {l1 : Nat} {l2 : Nat} {l3 : Nat} {l4 : Nat} {l5 : Int32} {res : (Int32 × gS)} {ls : Array Slot} (hC : gC E D A p R s m args meth c cL_law 10 RL nm 11 259) (hQ : gQI E D A p l e R s m args below meth c Q cL_law FieldType.boolean res) (hst : l.stackTraces = false) {r_28 : Nat → Nat → Nat → Nat → Nat → Int32 → gS → Option (Int32 × gS)} (h_28 : ∀ {l0 : Nat} {l1 : Nat} {l2 : Nat} {l3 : Nat} {l4 : Nat} {l5 : Int32} {σ : gS} {H : Heap} {locs : List Loc} {cells slots : Nat} {ls : Array Slot}, r_28 l0 l1 l2 l3 l4 l5 σ = some res → gW E D A s σ H locs → lv_has ls 10 [(0, .ref l0), (1, .ref l1), (2, .ref l2), (3, .ref l3), (4, .ref l4), (5, .int l5)] → W p l e R s m args below meth c H locs cells slots Q (F0 m 28 ls [])) (hf : L_law_1176 E r_28 l0 l1 l2 l3 l4 l5 σ = some res) (hw : gW E D A s σ H locs) (hl : lv_has ls 10 [(0, .ref l0), (1, .ref l1), (2, .ref l2), (3, .ref l3), (4, .ref l4), (5, .int l5)]) : W p l e R s m args below meth c H locs cells slots Q (F0 m 1176 ls []) := by
  have hC0 := hC
  obtain ⟨hx, hb, hml, hown, hts, -⟩ := hC0
  unfold L_law_1176 at hf
  refine lv_aload_n hx hb dL_law_1176 rfl (lv_at hl 1 rfl) ?_
  obtain ⟨_, h286, hf⟩ := ob_some hf
  obtain ⟨x284, h285, hf⟩ := ob_some hf
  refine gg_cVI (As := []) hC hw (X12_packedBits_M l E D A h285) h286 rfl g_ml_L_227 hd_X12_packedBits (Nat.le_of_ble_eq_true rfl) (Nat.le_of_ble_eq_true rfl) hl.1 rfl (Nat.le_of_ble_eq_true rfl) dL_law_1177 (fun H locs cells slots hw => ?_)
  refine lv_aload_n hx hb dL_law_1180 rfl (lv_at hl 2 rfl) ?_
  obtain ⟨_, h289, hf⟩ := ob_some hf
  obtain ⟨x287, h288, hf⟩ := ob_some hf
  refine gg_cVI (As := []) hC hw (X13_packedBits_M l E D A h288) h289 rfl g_ml_L_230 hd_X13_packedBits (Nat.le_of_ble_eq_true rfl) (Nat.le_of_ble_eq_true rfl) hl.1 rfl (Nat.le_of_ble_eq_true rfl) dL_law_1181 (fun H locs cells slots hw => ?_)
  refine lv_icmp_eq (tgt := 3358) hx hb dL_law_1184 (by decide) (fun c290 => ?_) (fun c290 => ?_)
  · replace hf := (if_pos c290).symm.trans hf
    exact L_law_3358_W hC hQ hst h_28 hf hw (lv_sub hl [0, 1, 2, 3, 4, 5] rfl)
  · replace hf := (if_neg c290).symm.trans hf
    refine lv_iconst (v := 0) hx hb dL_law_1187 (by decide) ?_
    cases hf
    exact hQ _ _ _ _ _ _ dL_law_1188 gz0 hw

def L_law_1225 (E : gE) (σ : gS) : Option (Int32 × gS) :=
  some ((0 : Int32), σ)
set_option maxHeartbeats 4000000 in
set_option maxRecDepth 100000 in
theorem L_law_1225_W {σ : gS} {res : (Int32 × gS)} {ls : Array Slot} (hC : gC E D A p R s m args meth c cL_law 10 RL nm 11 259) (hQ : gQI E D A p l e R s m args below meth c Q cL_law FieldType.boolean res) (hst : l.stackTraces = false) (hf : L_law_1225 E σ = some res) (hw : gW E D A s σ H locs) (hl : lv_has ls 10 []) : W p l e R s m args below meth c H locs cells slots Q (F0 m 1225 ls []) := by
  have hC0 := hC
  obtain ⟨hx, hb, hml, hown, hts, -⟩ := hC0
  unfold L_law_1225 at hf
  refine lv_iconst (v := 0) hx hb dL_law_1225 (by decide) ?_
  cases hf
  exact hQ _ _ _ _ _ _ dL_law_1226 gz0 hw

def L_law_1189 (E : gE) (r_28 : Nat → Nat → Nat → Nat → Nat → Int32 → gS → Option (Int32 × gS)) (l0 : Nat) (l1 : Nat) (l2 : Nat) (l3 : Nat) (l4 : Nat) (l5 : Int32) (σ : gS) : Option (Int32 × gS) :=
  ob (gcl σ l1 10) fun _ =>
  ob (X12_compressionRatio_f E σ l1) fun x291 =>
  ob (gcl σ l2 11) fun _ =>
  ob (X13_compressionRatio_f E l2 σ) fun x294 =>
  if (Op.cmpValue (FP.dcmp x291 x294.1) .l) = 0 then
    L_law_3358 E r_28 l0 l1 l2 l3 l4 l5 x294.2
  else
    if (Op.cmpValue (FP.dcmp x291 x291) .l) = 0 then
      L_law_1225 E x294.2
    else
      if (Op.cmpValue (FP.dcmp x294.1 x294.1) .l) = 0 then
        L_law_1225 E x294.2
      else
        L_law_3358 E r_28 l0 l1 l2 l3 l4 l5 x294.2
set_option maxHeartbeats 4000000 in
set_option maxRecDepth 100000 in
theorem L_law_1189_W {σ : gS} {l0 : Nat} {l1 : Nat} {l2 : Nat} {l3 : Nat} {l4 : Nat} {l5 : Int32} {res : (Int32 × gS)} {ls : Array Slot} (hC : gC E D A p R s m args meth c cL_law 10 RL nm 11 259) (hQ : gQI E D A p l e R s m args below meth c Q cL_law FieldType.boolean res) (hst : l.stackTraces = false) {r_28 : Nat → Nat → Nat → Nat → Nat → Int32 → gS → Option (Int32 × gS)} (h_28 : ∀ {l0 : Nat} {l1 : Nat} {l2 : Nat} {l3 : Nat} {l4 : Nat} {l5 : Int32} {σ : gS} {H : Heap} {locs : List Loc} {cells slots : Nat} {ls : Array Slot}, r_28 l0 l1 l2 l3 l4 l5 σ = some res → gW E D A s σ H locs → lv_has ls 10 [(0, .ref l0), (1, .ref l1), (2, .ref l2), (3, .ref l3), (4, .ref l4), (5, .int l5)] → W p l e R s m args below meth c H locs cells slots Q (F0 m 28 ls [])) (hf : L_law_1189 E r_28 l0 l1 l2 l3 l4 l5 σ = some res) (hw : gW E D A s σ H locs) (hl : lv_has ls 10 [(0, .ref l0), (1, .ref l1), (2, .ref l2), (3, .ref l3), (4, .ref l4), (5, .int l5)]) : W p l e R s m args below meth c H locs cells slots Q (F0 m 1189 ls []) := by
  have hC0 := hC
  obtain ⟨hx, hb, hml, hown, hts, -⟩ := hC0
  unfold L_law_1189 at hf
  refine lv_aload_n hx hb dL_law_1189 rfl (lv_at hl 1 rfl) ?_
  obtain ⟨_, h293, hf⟩ := ob_some hf
  obtain ⟨x291, h292, hf⟩ := ob_some hf
  refine gg_cVD (As := []) hC hw (X12_compressionRatio_M l E D A h292) h293 rfl g_ml_L_231 hd_X12_compressionRatio (Nat.le_of_ble_eq_true rfl) (Nat.le_of_ble_eq_true rfl) hl.1 rfl (Nat.le_of_ble_eq_true rfl) dL_law_1190 (fun H locs cells slots hw => ?_)
  refine lv_dstore (lv' := [(6, .double x291), (0, .ref l0), (1, .ref l1), (2, .ref l2), (3, .ref l3), (4, .ref l4), (5, .int l5)]) hx hb dL_law_1193 hl (by decide) rfl (fun ls hl => ?_)
  refine lv_aload_n hx hb dL_law_1195 rfl (lv_at hl 3 rfl) ?_
  obtain ⟨_, h296, hf⟩ := ob_some hf
  obtain ⟨x294, h295, hf⟩ := ob_some hf
  refine gg_cVD (As := []) hC hw (X13_compressionRatio_M l E D A h295) h296 rfl g_ml_L_235 hd_X13_compressionRatio (Nat.le_of_ble_eq_true rfl) (Nat.le_of_ble_eq_true rfl) hl.1 rfl (Nat.le_of_ble_eq_true rfl) dL_law_1196 (fun H locs cells slots hw => ?_)
  refine lv_dstore (lv' := [(8, .double x294.1), (6, .double x291), (0, .ref l0), (1, .ref l1), (2, .ref l2), (3, .ref l3), (4, .ref l4), (5, .int l5)]) hx hb dL_law_1199 hl (by decide) rfl (fun ls hl => ?_)
  refine lv_dload hx hb dL_law_1201 (lv_at hl 1 rfl) ?_
  refine lv_dload hx hb dL_law_1203 (lv_at hl 0 rfl) ?_
  refine lv_dcmp hx hb dL_law_1205 ?_
  refine lv_if_eq (tgt := 1227) hx hb dL_law_1206 (by decide) (fun c299 => ?_) (fun c299 => ?_)
  · replace hf := (if_pos c299).symm.trans hf
    refine lv_goto (tgt := 3358) hx hb dL_law_1227 (by decide) ?_
    exact L_law_3358_W hC hQ hst h_28 hf hw (lv_sub hl [2, 3, 4, 5, 6, 7] rfl)
  · replace hf := (if_neg c299).symm.trans hf
    refine lv_dload hx hb dL_law_1209 (lv_at hl 1 rfl) ?_
    refine lv_dload hx hb dL_law_1211 (lv_at hl 1 rfl) ?_
    refine lv_dcmp hx hb dL_law_1213 ?_
    refine lv_if_eq (tgt := 1225) hx hb dL_law_1214 (by decide) (fun c298 => ?_) (fun c298 => ?_)
    · replace hf := (if_pos c298).symm.trans hf
      exact L_law_1225_W hC hQ hst hf hw (lv_sub hl [] rfl)
    · replace hf := (if_neg c298).symm.trans hf
      refine lv_dload hx hb dL_law_1217 (lv_at hl 0 rfl) ?_
      refine lv_dload hx hb dL_law_1219 (lv_at hl 0 rfl) ?_
      refine lv_dcmp hx hb dL_law_1221 ?_
      refine lv_if_ne (tgt := 1227) hx hb dL_law_1222 (by decide) (fun c297 => ?_) (fun c297 => ?_)
      · replace hf := (if_neg c297).symm.trans hf
        refine lv_goto (tgt := 3358) hx hb dL_law_1227 (by decide) ?_
        exact L_law_3358_W hC hQ hst h_28 hf hw (lv_sub hl [2, 3, 4, 5, 6, 7] rfl)
      · replace hf := (if_pos c297).symm.trans hf
        exact L_law_1225_W hC hQ hst hf hw (lv_sub hl [] rfl)

def L_law_1230 (E : gE) (r_28 : Nat → Nat → Nat → Nat → Nat → Int32 → gS → Option (Int32 × gS)) (l0 : Nat) (l1 : Nat) (l2 : Nat) (l3 : Nat) (l4 : Nat) (l5 : Int32) (σ : gS) : Option (Int32 × gS) :=
  ob (graI E 0 σ l0 (l5 + (1 : Int32))) fun x300 =>
  ob (L_runCount_f E l1 x300 l3 σ) fun x302 =>
  ob (graI E 0 x302.2 l0 (l5 + (1 : Int32))) fun x304 =>
  ob (gcl x302.2 l2 11) fun _ =>
  ob (X13_runCount_f E l2 x304 x302.2) fun x306 =>
  ob (gcl x306.2 l2 11) fun _ =>
  ob (X13_thrown_f E x306.2 l2) fun x309 =>
  if x309 = x302.1 then
    if x302.1 = 0 then
      ob (graJ E x306.2 l3 (0 : Int32)) fun x312 =>
      if (lg_cmp x312 ((x306.1).toInt64)) = 0 then
        L_law_3358 E r_28 l0 l1 l2 l3 l4 l5 x306.2
      else
        some ((0 : Int32), x306.2)
    else
      L_law_3358 E r_28 l0 l1 l2 l3 l4 l5 x306.2
  else
    some ((0 : Int32), x306.2)
set_option maxHeartbeats 4000000 in
set_option maxRecDepth 100000 in
theorem L_law_1230_W {σ : gS} {l0 : Nat} {l1 : Nat} {l2 : Nat} {l3 : Nat} {l4 : Nat} {l5 : Int32} {res : (Int32 × gS)} {ls : Array Slot} (hC : gC E D A p R s m args meth c cL_law 10 RL nm 11 259) (hQ : gQI E D A p l e R s m args below meth c Q cL_law FieldType.boolean res) (hst : l.stackTraces = false) {r_28 : Nat → Nat → Nat → Nat → Nat → Int32 → gS → Option (Int32 × gS)} (h_28 : ∀ {l0 : Nat} {l1 : Nat} {l2 : Nat} {l3 : Nat} {l4 : Nat} {l5 : Int32} {σ : gS} {H : Heap} {locs : List Loc} {cells slots : Nat} {ls : Array Slot}, r_28 l0 l1 l2 l3 l4 l5 σ = some res → gW E D A s σ H locs → lv_has ls 10 [(0, .ref l0), (1, .ref l1), (2, .ref l2), (3, .ref l3), (4, .ref l4), (5, .int l5)] → W p l e R s m args below meth c H locs cells slots Q (F0 m 28 ls [])) (hf : L_law_1230 E r_28 l0 l1 l2 l3 l4 l5 σ = some res) (hw : gW E D A s σ H locs) (hl : lv_has ls 10 [(0, .ref l0), (1, .ref l1), (2, .ref l2), (3, .ref l3), (4, .ref l4), (5, .int l5)]) : W p l e R s m args below meth c H locs cells slots Q (F0 m 1230 ls []) := by
  have hC0 := hC
  obtain ⟨hx, hb, hml, hown, hts, -⟩ := hC0
  unfold L_law_1230 at hf
  refine lv_aload_n hx hb dL_law_1230 rfl (lv_at hl 1 rfl) ?_
  refine lv_aload_n hx hb dL_law_1231 rfl (lv_at hl 0 rfl) ?_
  refine lv_iload hx hb dL_law_1232 (lv_at hl 5 rfl) ?_
  refine lv_iconst (v := 1) hx hb dL_law_1234 (by decide) ?_
  refine lv_iadd hx hb dL_law_1235 ?_
  obtain ⟨x300, h301, hf⟩ := ob_some hf
  refine gg_aldI hC hw h301 dL_law_1236 ?_
  refine lv_aload_n hx hb dL_law_1237 rfl (lv_at hl 3 rfl) ?_
  obtain ⟨x302, h303, hf⟩ := ob_some hf
  refine gg_yHI (As := [.ref l1, .int x300, .ref l3]) hC hw (L_runCount_M l hst E D A h303) g_ml_L_236 hd_L_runCount.2 (Nat.le_of_ble_eq_true rfl) (Nat.le_of_ble_eq_true rfl) hl.1 rfl (Nat.le_of_ble_eq_true rfl) dL_law_1238 (fun _ _ he => nomatch (congrArg Prod.fst he)) (fun r9 σ9 he H locs cells slots hw => ?_)
  cases he
  refine lv_istore (lv' := [(6, .int x302.1), (0, .ref l0), (1, .ref l1), (2, .ref l2), (3, .ref l3), (4, .ref l4), (5, .int l5)]) hx hb dL_law_1241 hl (by decide) rfl (fun ls hl => ?_)
  refine lv_aload_n hx hb dL_law_1243 rfl (lv_at hl 3 rfl) ?_
  refine lv_aload_n hx hb dL_law_1244 rfl (lv_at hl 1 rfl) ?_
  refine lv_iload hx hb dL_law_1245 (lv_at hl 6 rfl) ?_
  refine lv_iconst (v := 1) hx hb dL_law_1247 (by decide) ?_
  refine lv_iadd hx hb dL_law_1248 ?_
  obtain ⟨x304, h305, hf⟩ := ob_some hf
  refine gg_aldI hC hw h305 dL_law_1249 ?_
  obtain ⟨_, h308, hf⟩ := ob_some hf
  obtain ⟨x306, h307, hf⟩ := ob_some hf
  refine gg_cVI (As := [.int x304]) hC hw (X13_runCount_M l E D A h307) h308 rfl g_ml_L_238 hd_X13_runCount (Nat.le_of_ble_eq_true rfl) (Nat.le_of_ble_eq_true rfl) hl.1 rfl (Nat.le_of_ble_eq_true rfl) dL_law_1250 (fun H locs cells slots hw => ?_)
  refine lv_istore (lv' := [(7, .int x306.1), (6, .int x302.1), (0, .ref l0), (1, .ref l1), (2, .ref l2), (3, .ref l3), (4, .ref l4), (5, .int l5)]) hx hb dL_law_1253 hl (by decide) rfl (fun ls hl => ?_)
  refine lv_aload_n hx hb dL_law_1255 rfl (lv_at hl 4 rfl) ?_
  obtain ⟨_, h311, hf⟩ := ob_some hf
  obtain ⟨x309, h310, hf⟩ := ob_some hf
  refine gg_cVI (As := []) hC hw (X13_thrown_M l E D A h310) h311 rfl g_ml_L_174 hd_X13_thrown (Nat.le_of_ble_eq_true rfl) (Nat.le_of_ble_eq_true rfl) hl.1 rfl (Nat.le_of_ble_eq_true rfl) dL_law_1256 (fun H locs cells slots hw => ?_)
  refine lv_iload hx hb dL_law_1259 (lv_at hl 1 rfl) ?_
  refine lv_icmp_eq (tgt := 1266) hx hb dL_law_1261 (by decide) (fun c316 => ?_) (fun c316 => ?_)
  · replace hf := (if_pos c316).symm.trans hf
    refine lv_iload hx hb dL_law_1266 (lv_at hl 1 rfl) ?_
    refine lv_if_ne (tgt := 1283) hx hb dL_law_1268 (by decide) (fun c315 => ?_) (fun c315 => ?_)
    · replace hf := (if_neg c315).symm.trans hf
      refine lv_goto (tgt := 3358) hx hb dL_law_1283 (by decide) ?_
      exact L_law_3358_W hC hQ hst h_28 hf hw (lv_sub hl [2, 3, 4, 5, 6, 7] rfl)
    · replace hf := (if_pos c315).symm.trans hf
      refine lv_aload_n hx hb dL_law_1271 rfl (lv_at hl 5 rfl) ?_
      refine lv_iconst (v := 0) hx hb dL_law_1272 (by decide) ?_
      obtain ⟨x312, h313, hf⟩ := ob_some hf
      refine gg_aldJ hC hw h313 dL_law_1273 ?_
      refine lv_iload hx hb dL_law_1274 (lv_at hl 0 rfl) ?_
      refine lv_i2l (v := (x306.1).toInt64) hx hb dL_law_1276 rfl ?_
      refine W.lcmp hx hb dL_law_1277 ?_
      refine lv_if_eq (tgt := 1283) hx hb dL_law_1278 (by decide) (fun c314 => ?_) (fun c314 => ?_)
      · replace hf := (if_pos c314).symm.trans hf
        refine lv_goto (tgt := 3358) hx hb dL_law_1283 (by decide) ?_
        exact L_law_3358_W hC hQ hst h_28 hf hw (lv_sub hl [2, 3, 4, 5, 6, 7] rfl)
      · replace hf := (if_neg c314).symm.trans hf
        refine lv_iconst (v := 0) hx hb dL_law_1281 (by decide) ?_
        cases hf
        exact hQ _ _ _ _ _ _ dL_law_1282 gz0 hw
  · replace hf := (if_neg c316).symm.trans hf
    refine lv_iconst (v := 0) hx hb dL_law_1264 (by decide) ?_
    cases hf
    exact hQ _ _ _ _ _ _ dL_law_1265 gz0 hw

def L_law_1286 (E : gE) (r_28 : Nat → Nat → Nat → Nat → Nat → Int32 → gS → Option (Int32 × gS)) (l0 : Nat) (l1 : Nat) (l2 : Nat) (l3 : Nat) (l4 : Nat) (l5 : Int32) (σ : gS) : Option (Int32 × gS) :=
  ob (graI E 0 σ l0 (l5 + (1 : Int32))) fun x317 =>
  ob (L_longestRun_f E l1 x317 l3 σ) fun x319 =>
  ob (graI E 0 x319.2 l0 (l5 + (1 : Int32))) fun x321 =>
  ob (gcl x319.2 l2 11) fun _ =>
  ob (X13_longestRun_f E l2 x321 x319.2) fun x323 =>
  ob (gcl x323.2 l2 11) fun _ =>
  ob (X13_thrown_f E x323.2 l2) fun x326 =>
  if x326 = x319.1 then
    if x319.1 = 0 then
      ob (graJ E x323.2 l3 (0 : Int32)) fun x329 =>
      if (lg_cmp x329 ((x323.1).toInt64)) = 0 then
        L_law_3358 E r_28 l0 l1 l2 l3 l4 l5 x323.2
      else
        some ((0 : Int32), x323.2)
    else
      L_law_3358 E r_28 l0 l1 l2 l3 l4 l5 x323.2
  else
    some ((0 : Int32), x323.2)
set_option maxHeartbeats 4000000 in
set_option maxRecDepth 100000 in
theorem L_law_1286_W {σ : gS} {l0 : Nat} {l1 : Nat} {l2 : Nat} {l3 : Nat} {l4 : Nat} {l5 : Int32} {res : (Int32 × gS)} {ls : Array Slot} (hC : gC E D A p R s m args meth c cL_law 10 RL nm 11 259) (hQ : gQI E D A p l e R s m args below meth c Q cL_law FieldType.boolean res) (hst : l.stackTraces = false) {r_28 : Nat → Nat → Nat → Nat → Nat → Int32 → gS → Option (Int32 × gS)} (h_28 : ∀ {l0 : Nat} {l1 : Nat} {l2 : Nat} {l3 : Nat} {l4 : Nat} {l5 : Int32} {σ : gS} {H : Heap} {locs : List Loc} {cells slots : Nat} {ls : Array Slot}, r_28 l0 l1 l2 l3 l4 l5 σ = some res → gW E D A s σ H locs → lv_has ls 10 [(0, .ref l0), (1, .ref l1), (2, .ref l2), (3, .ref l3), (4, .ref l4), (5, .int l5)] → W p l e R s m args below meth c H locs cells slots Q (F0 m 28 ls [])) (hf : L_law_1286 E r_28 l0 l1 l2 l3 l4 l5 σ = some res) (hw : gW E D A s σ H locs) (hl : lv_has ls 10 [(0, .ref l0), (1, .ref l1), (2, .ref l2), (3, .ref l3), (4, .ref l4), (5, .int l5)]) : W p l e R s m args below meth c H locs cells slots Q (F0 m 1286 ls []) := by
  have hC0 := hC
  obtain ⟨hx, hb, hml, hown, hts, -⟩ := hC0
  unfold L_law_1286 at hf
  refine lv_aload_n hx hb dL_law_1286 rfl (lv_at hl 1 rfl) ?_
  refine lv_aload_n hx hb dL_law_1287 rfl (lv_at hl 0 rfl) ?_
  refine lv_iload hx hb dL_law_1288 (lv_at hl 5 rfl) ?_
  refine lv_iconst (v := 1) hx hb dL_law_1290 (by decide) ?_
  refine lv_iadd hx hb dL_law_1291 ?_
  obtain ⟨x317, h318, hf⟩ := ob_some hf
  refine gg_aldI hC hw h318 dL_law_1292 ?_
  refine lv_aload_n hx hb dL_law_1293 rfl (lv_at hl 3 rfl) ?_
  obtain ⟨x319, h320, hf⟩ := ob_some hf
  refine gg_yHI (As := [.ref l1, .int x317, .ref l3]) hC hw (L_longestRun_M l hst E D A h320) g_ml_L_239 hd_L_longestRun.2 (Nat.le_of_ble_eq_true rfl) (Nat.le_of_ble_eq_true rfl) hl.1 rfl (Nat.le_of_ble_eq_true rfl) dL_law_1294 (fun _ _ he => nomatch (congrArg Prod.fst he)) (fun r9 σ9 he H locs cells slots hw => ?_)
  cases he
  refine lv_istore (lv' := [(6, .int x319.1), (0, .ref l0), (1, .ref l1), (2, .ref l2), (3, .ref l3), (4, .ref l4), (5, .int l5)]) hx hb dL_law_1297 hl (by decide) rfl (fun ls hl => ?_)
  refine lv_aload_n hx hb dL_law_1299 rfl (lv_at hl 3 rfl) ?_
  refine lv_aload_n hx hb dL_law_1300 rfl (lv_at hl 1 rfl) ?_
  refine lv_iload hx hb dL_law_1301 (lv_at hl 6 rfl) ?_
  refine lv_iconst (v := 1) hx hb dL_law_1303 (by decide) ?_
  refine lv_iadd hx hb dL_law_1304 ?_
  obtain ⟨x321, h322, hf⟩ := ob_some hf
  refine gg_aldI hC hw h322 dL_law_1305 ?_
  obtain ⟨_, h325, hf⟩ := ob_some hf
  obtain ⟨x323, h324, hf⟩ := ob_some hf
  refine gg_cVI (As := [.int x321]) hC hw (X13_longestRun_M l E D A h324) h325 rfl g_ml_L_241 hd_X13_longestRun (Nat.le_of_ble_eq_true rfl) (Nat.le_of_ble_eq_true rfl) hl.1 rfl (Nat.le_of_ble_eq_true rfl) dL_law_1306 (fun H locs cells slots hw => ?_)
  refine lv_istore (lv' := [(7, .int x323.1), (6, .int x319.1), (0, .ref l0), (1, .ref l1), (2, .ref l2), (3, .ref l3), (4, .ref l4), (5, .int l5)]) hx hb dL_law_1309 hl (by decide) rfl (fun ls hl => ?_)
  refine lv_aload_n hx hb dL_law_1311 rfl (lv_at hl 4 rfl) ?_
  obtain ⟨_, h328, hf⟩ := ob_some hf
  obtain ⟨x326, h327, hf⟩ := ob_some hf
  refine gg_cVI (As := []) hC hw (X13_thrown_M l E D A h327) h328 rfl g_ml_L_174 hd_X13_thrown (Nat.le_of_ble_eq_true rfl) (Nat.le_of_ble_eq_true rfl) hl.1 rfl (Nat.le_of_ble_eq_true rfl) dL_law_1312 (fun H locs cells slots hw => ?_)
  refine lv_iload hx hb dL_law_1315 (lv_at hl 1 rfl) ?_
  refine lv_icmp_eq (tgt := 1322) hx hb dL_law_1317 (by decide) (fun c333 => ?_) (fun c333 => ?_)
  · replace hf := (if_pos c333).symm.trans hf
    refine lv_iload hx hb dL_law_1322 (lv_at hl 1 rfl) ?_
    refine lv_if_ne (tgt := 1339) hx hb dL_law_1324 (by decide) (fun c332 => ?_) (fun c332 => ?_)
    · replace hf := (if_neg c332).symm.trans hf
      refine lv_goto (tgt := 3358) hx hb dL_law_1339 (by decide) ?_
      exact L_law_3358_W hC hQ hst h_28 hf hw (lv_sub hl [2, 3, 4, 5, 6, 7] rfl)
    · replace hf := (if_pos c332).symm.trans hf
      refine lv_aload_n hx hb dL_law_1327 rfl (lv_at hl 5 rfl) ?_
      refine lv_iconst (v := 0) hx hb dL_law_1328 (by decide) ?_
      obtain ⟨x329, h330, hf⟩ := ob_some hf
      refine gg_aldJ hC hw h330 dL_law_1329 ?_
      refine lv_iload hx hb dL_law_1330 (lv_at hl 0 rfl) ?_
      refine lv_i2l (v := (x323.1).toInt64) hx hb dL_law_1332 rfl ?_
      refine W.lcmp hx hb dL_law_1333 ?_
      refine lv_if_eq (tgt := 1339) hx hb dL_law_1334 (by decide) (fun c331 => ?_) (fun c331 => ?_)
      · replace hf := (if_pos c331).symm.trans hf
        refine lv_goto (tgt := 3358) hx hb dL_law_1339 (by decide) ?_
        exact L_law_3358_W hC hQ hst h_28 hf hw (lv_sub hl [2, 3, 4, 5, 6, 7] rfl)
      · replace hf := (if_neg c331).symm.trans hf
        refine lv_iconst (v := 0) hx hb dL_law_1337 (by decide) ?_
        cases hf
        exact hQ _ _ _ _ _ _ dL_law_1338 gz0 hw
  · replace hf := (if_neg c333).symm.trans hf
    refine lv_iconst (v := 0) hx hb dL_law_1320 (by decide) ?_
    cases hf
    exact hQ _ _ _ _ _ _ dL_law_1321 gz0 hw

def L_law_1396 (E : gE) (r_28 : Nat → Nat → Nat → Nat → Nat → Int32 → gS → Option (Int32 × gS)) (l0 : Nat) (l1 : Nat) (l2 : Nat) (l3 : Nat) (l4 : Nat) (l5 : Int32) (s0 : Int64) (s1 : Int64) (σ : gS) : Option (Int32 × gS) :=
  if (lg_cmp s1 s0) = 0 then
    L_law_3358 E r_28 l0 l1 l2 l3 l4 l5 σ
  else
    some ((0 : Int32), σ)
set_option maxHeartbeats 4000000 in
set_option maxRecDepth 100000 in
theorem L_law_1396_W {σ : gS} {l0 : Nat} {l1 : Nat} {l2 : Nat} {l3 : Nat} {l4 : Nat} {l5 : Int32} {s0 : Int64} {s1 : Int64} {res : (Int32 × gS)} {ls : Array Slot} (hC : gC E D A p R s m args meth c cL_law 10 RL nm 11 259) (hQ : gQI E D A p l e R s m args below meth c Q cL_law FieldType.boolean res) (hst : l.stackTraces = false) {r_28 : Nat → Nat → Nat → Nat → Nat → Int32 → gS → Option (Int32 × gS)} (h_28 : ∀ {l0 : Nat} {l1 : Nat} {l2 : Nat} {l3 : Nat} {l4 : Nat} {l5 : Int32} {σ : gS} {H : Heap} {locs : List Loc} {cells slots : Nat} {ls : Array Slot}, r_28 l0 l1 l2 l3 l4 l5 σ = some res → gW E D A s σ H locs → lv_has ls 10 [(0, .ref l0), (1, .ref l1), (2, .ref l2), (3, .ref l3), (4, .ref l4), (5, .int l5)] → W p l e R s m args below meth c H locs cells slots Q (F0 m 28 ls [])) (hf : L_law_1396 E r_28 l0 l1 l2 l3 l4 l5 s0 s1 σ = some res) (hw : gW E D A s σ H locs) (hl : lv_has ls 10 [(0, .ref l0), (1, .ref l1), (2, .ref l2), (3, .ref l3), (4, .ref l4), (5, .int l5)]) : W p l e R s m args below meth c H locs cells slots Q (F0 m 1396 ls [.long s0, .long s1]) := by
  have hC0 := hC
  obtain ⟨hx, hb, hml, hown, hts, -⟩ := hC0
  unfold L_law_1396 at hf
  refine W.lcmp hx hb dL_law_1396 ?_
  refine lv_if_eq (tgt := 1402) hx hb dL_law_1397 (by decide) (fun c334 => ?_) (fun c334 => ?_)
  · replace hf := (if_pos c334).symm.trans hf
    refine lv_goto (tgt := 3358) hx hb dL_law_1402 (by decide) ?_
    exact L_law_3358_W hC hQ hst h_28 hf hw (lv_sub hl [0, 1, 2, 3, 4, 5] rfl)
  · replace hf := (if_neg c334).symm.trans hf
    refine lv_iconst (v := 0) hx hb dL_law_1400 (by decide) ?_
    cases hf
    exact hQ _ _ _ _ _ _ dL_law_1401 gz0 hw

def L_law_1342 (E : gE) (r_28 : Nat → Nat → Nat → Nat → Nat → Int32 → gS → Option (Int32 × gS)) (l0 : Nat) (l1 : Nat) (l2 : Nat) (l3 : Nat) (l4 : Nat) (l5 : Int32) (σ : gS) : Option (Int32 × gS) :=
  ob (graI E 0 σ l0 (l5 + (1 : Int32))) fun x335 =>
  ob (L_isSorted_f E l1 x335 l3 σ) fun x337 =>
  ob (graI E 0 x337.2 l0 (l5 + (1 : Int32))) fun x339 =>
  ob (gcl x337.2 l2 11) fun _ =>
  ob (X13_isSorted_f E l2 x339 x337.2) fun x341 =>
  ob (gcl x341.2 l2 11) fun _ =>
  ob (X13_thrown_f E x341.2 l2) fun x344 =>
  if x344 = x337.1 then
    if x337.1 = 0 then
      ob (graJ E x341.2 l3 (0 : Int32)) fun x347 =>
      if x341.1 = 0 then
        L_law_1396 E r_28 l0 l1 l2 l3 l4 l5 (0 : Int64) x347 x341.2
      else
        L_law_1396 E r_28 l0 l1 l2 l3 l4 l5 (1 : Int64) x347 x341.2
    else
      L_law_3358 E r_28 l0 l1 l2 l3 l4 l5 x341.2
  else
    some ((0 : Int32), x341.2)
set_option maxHeartbeats 4000000 in
set_option maxRecDepth 100000 in
theorem L_law_1342_W {σ : gS} {l0 : Nat} {l1 : Nat} {l2 : Nat} {l3 : Nat} {l4 : Nat} {l5 : Int32} {res : (Int32 × gS)} {ls : Array Slot} (hC : gC E D A p R s m args meth c cL_law 10 RL nm 11 259) (hQ : gQI E D A p l e R s m args below meth c Q cL_law FieldType.boolean res) (hst : l.stackTraces = false) {r_28 : Nat → Nat → Nat → Nat → Nat → Int32 → gS → Option (Int32 × gS)} (h_28 : ∀ {l0 : Nat} {l1 : Nat} {l2 : Nat} {l3 : Nat} {l4 : Nat} {l5 : Int32} {σ : gS} {H : Heap} {locs : List Loc} {cells slots : Nat} {ls : Array Slot}, r_28 l0 l1 l2 l3 l4 l5 σ = some res → gW E D A s σ H locs → lv_has ls 10 [(0, .ref l0), (1, .ref l1), (2, .ref l2), (3, .ref l3), (4, .ref l4), (5, .int l5)] → W p l e R s m args below meth c H locs cells slots Q (F0 m 28 ls [])) (hf : L_law_1342 E r_28 l0 l1 l2 l3 l4 l5 σ = some res) (hw : gW E D A s σ H locs) (hl : lv_has ls 10 [(0, .ref l0), (1, .ref l1), (2, .ref l2), (3, .ref l3), (4, .ref l4), (5, .int l5)]) : W p l e R s m args below meth c H locs cells slots Q (F0 m 1342 ls []) := by
  have hC0 := hC
  obtain ⟨hx, hb, hml, hown, hts, -⟩ := hC0
  unfold L_law_1342 at hf
  refine lv_aload_n hx hb dL_law_1342 rfl (lv_at hl 1 rfl) ?_
  refine lv_aload_n hx hb dL_law_1343 rfl (lv_at hl 0 rfl) ?_
  refine lv_iload hx hb dL_law_1344 (lv_at hl 5 rfl) ?_
  refine lv_iconst (v := 1) hx hb dL_law_1346 (by decide) ?_
  refine lv_iadd hx hb dL_law_1347 ?_
  obtain ⟨x335, h336, hf⟩ := ob_some hf
  refine gg_aldI hC hw h336 dL_law_1348 ?_
  refine lv_aload_n hx hb dL_law_1349 rfl (lv_at hl 3 rfl) ?_
  obtain ⟨x337, h338, hf⟩ := ob_some hf
  refine gg_yHI (As := [.ref l1, .int x335, .ref l3]) hC hw (L_isSorted_M l hst E D A h338) g_ml_L_242 hd_L_isSorted.2 (Nat.le_of_ble_eq_true rfl) (Nat.le_of_ble_eq_true rfl) hl.1 rfl (Nat.le_of_ble_eq_true rfl) dL_law_1350 (fun _ _ he => nomatch (congrArg Prod.fst he)) (fun r9 σ9 he H locs cells slots hw => ?_)
  cases he
  refine lv_istore (lv' := [(6, .int x337.1), (0, .ref l0), (1, .ref l1), (2, .ref l2), (3, .ref l3), (4, .ref l4), (5, .int l5)]) hx hb dL_law_1353 hl (by decide) rfl (fun ls hl => ?_)
  refine lv_aload_n hx hb dL_law_1355 rfl (lv_at hl 3 rfl) ?_
  refine lv_aload_n hx hb dL_law_1356 rfl (lv_at hl 1 rfl) ?_
  refine lv_iload hx hb dL_law_1357 (lv_at hl 6 rfl) ?_
  refine lv_iconst (v := 1) hx hb dL_law_1359 (by decide) ?_
  refine lv_iadd hx hb dL_law_1360 ?_
  obtain ⟨x339, h340, hf⟩ := ob_some hf
  refine gg_aldI hC hw h340 dL_law_1361 ?_
  obtain ⟨_, h343, hf⟩ := ob_some hf
  obtain ⟨x341, h342, hf⟩ := ob_some hf
  refine gg_cVI (As := [.int x339]) hC hw (X13_isSorted_M l E D A h342) h343 rfl g_ml_L_244 hd_X13_isSorted (Nat.le_of_ble_eq_true rfl) (Nat.le_of_ble_eq_true rfl) hl.1 rfl (Nat.le_of_ble_eq_true rfl) dL_law_1362 (fun H locs cells slots hw => ?_)
  refine lv_istore (lv' := [(7, .int x341.1), (6, .int x337.1), (0, .ref l0), (1, .ref l1), (2, .ref l2), (3, .ref l3), (4, .ref l4), (5, .int l5)]) hx hb dL_law_1365 hl (by decide) rfl (fun ls hl => ?_)
  refine lv_aload_n hx hb dL_law_1367 rfl (lv_at hl 4 rfl) ?_
  obtain ⟨_, h346, hf⟩ := ob_some hf
  obtain ⟨x344, h345, hf⟩ := ob_some hf
  refine gg_cVI (As := []) hC hw (X13_thrown_M l E D A h345) h346 rfl g_ml_L_174 hd_X13_thrown (Nat.le_of_ble_eq_true rfl) (Nat.le_of_ble_eq_true rfl) hl.1 rfl (Nat.le_of_ble_eq_true rfl) dL_law_1368 (fun H locs cells slots hw => ?_)
  refine lv_iload hx hb dL_law_1371 (lv_at hl 1 rfl) ?_
  refine lv_icmp_eq (tgt := 1378) hx hb dL_law_1373 (by decide) (fun c351 => ?_) (fun c351 => ?_)
  · replace hf := (if_pos c351).symm.trans hf
    refine lv_iload hx hb dL_law_1378 (lv_at hl 1 rfl) ?_
    refine lv_if_ne (tgt := 1402) hx hb dL_law_1380 (by decide) (fun c350 => ?_) (fun c350 => ?_)
    · replace hf := (if_neg c350).symm.trans hf
      refine lv_goto (tgt := 3358) hx hb dL_law_1402 (by decide) ?_
      exact L_law_3358_W hC hQ hst h_28 hf hw (lv_sub hl [2, 3, 4, 5, 6, 7] rfl)
    · replace hf := (if_pos c350).symm.trans hf
      refine lv_aload_n hx hb dL_law_1383 rfl (lv_at hl 5 rfl) ?_
      refine lv_iconst (v := 0) hx hb dL_law_1384 (by decide) ?_
      obtain ⟨x347, h348, hf⟩ := ob_some hf
      refine gg_aldJ hC hw h348 dL_law_1385 ?_
      refine lv_iload hx hb dL_law_1386 (lv_at hl 0 rfl) ?_
      refine lv_if_eq (tgt := 1395) hx hb dL_law_1388 (by decide) (fun c349 => ?_) (fun c349 => ?_)
      · replace hf := (if_pos c349).symm.trans hf
        refine lv_lconst (v := 0) hx hb dL_law_1395 (by decide) ?_
        exact L_law_1396_W hC hQ hst h_28 hf hw (lv_sub hl [2, 3, 4, 5, 6, 7] rfl)
      · replace hf := (if_neg c349).symm.trans hf
        refine lv_lconst (v := 1) hx hb dL_law_1391 (by decide) ?_
        refine lv_goto (tgt := 1396) hx hb dL_law_1392 (by decide) ?_
        exact L_law_1396_W hC hQ hst h_28 hf hw (lv_sub hl [2, 3, 4, 5, 6, 7] rfl)
  · replace hf := (if_neg c351).symm.trans hf
    refine lv_iconst (v := 0) hx hb dL_law_1376 (by decide) ?_
    cases hf
    exact hQ _ _ _ _ _ _ dL_law_1377 gz0 hw

def L_law_1405 (E : gE) (r_28 : Nat → Nat → Nat → Nat → Nat → Int32 → gS → Option (Int32 × gS)) (l0 : Nat) (l1 : Nat) (l2 : Nat) (l3 : Nat) (l4 : Nat) (l5 : Int32) (σ : gS) : Option (Int32 × gS) :=
  ob (gcl σ l1 10) fun _ =>
  ob (X12_conditionCount_f E σ l1) fun x352 =>
  ob (gcl σ l2 11) fun _ =>
  ob (X13_conditionCount_f E l2 σ) fun x355 =>
  if x352 = x355.1 then
    L_law_3358 E r_28 l0 l1 l2 l3 l4 l5 x355.2
  else
    some ((0 : Int32), x355.2)
set_option maxHeartbeats 4000000 in
set_option maxRecDepth 100000 in
theorem L_law_1405_W {σ : gS} {l0 : Nat} {l1 : Nat} {l2 : Nat} {l3 : Nat} {l4 : Nat} {l5 : Int32} {res : (Int32 × gS)} {ls : Array Slot} (hC : gC E D A p R s m args meth c cL_law 10 RL nm 11 259) (hQ : gQI E D A p l e R s m args below meth c Q cL_law FieldType.boolean res) (hst : l.stackTraces = false) {r_28 : Nat → Nat → Nat → Nat → Nat → Int32 → gS → Option (Int32 × gS)} (h_28 : ∀ {l0 : Nat} {l1 : Nat} {l2 : Nat} {l3 : Nat} {l4 : Nat} {l5 : Int32} {σ : gS} {H : Heap} {locs : List Loc} {cells slots : Nat} {ls : Array Slot}, r_28 l0 l1 l2 l3 l4 l5 σ = some res → gW E D A s σ H locs → lv_has ls 10 [(0, .ref l0), (1, .ref l1), (2, .ref l2), (3, .ref l3), (4, .ref l4), (5, .int l5)] → W p l e R s m args below meth c H locs cells slots Q (F0 m 28 ls [])) (hf : L_law_1405 E r_28 l0 l1 l2 l3 l4 l5 σ = some res) (hw : gW E D A s σ H locs) (hl : lv_has ls 10 [(0, .ref l0), (1, .ref l1), (2, .ref l2), (3, .ref l3), (4, .ref l4), (5, .int l5)]) : W p l e R s m args below meth c H locs cells slots Q (F0 m 1405 ls []) := by
  have hC0 := hC
  obtain ⟨hx, hb, hml, hown, hts, -⟩ := hC0
  unfold L_law_1405 at hf
  refine lv_aload_n hx hb dL_law_1405 rfl (lv_at hl 1 rfl) ?_
  obtain ⟨_, h354, hf⟩ := ob_some hf
  obtain ⟨x352, h353, hf⟩ := ob_some hf
  refine gg_cVI (As := []) hC hw (X12_conditionCount_M l E D A h353) h354 rfl g_ml_L_245 hd_X12_conditionCount (Nat.le_of_ble_eq_true rfl) (Nat.le_of_ble_eq_true rfl) hl.1 rfl (Nat.le_of_ble_eq_true rfl) dL_law_1406 (fun H locs cells slots hw => ?_)
  refine lv_aload_n hx hb dL_law_1409 rfl (lv_at hl 2 rfl) ?_
  obtain ⟨_, h357, hf⟩ := ob_some hf
  obtain ⟨x355, h356, hf⟩ := ob_some hf
  refine gg_cVI (As := []) hC hw (X13_conditionCount_M l E D A h356) h357 rfl g_ml_L_248 hd_X13_conditionCount (Nat.le_of_ble_eq_true rfl) (Nat.le_of_ble_eq_true rfl) hl.1 rfl (Nat.le_of_ble_eq_true rfl) dL_law_1410 (fun H locs cells slots hw => ?_)
  refine lv_icmp_eq (tgt := 3358) hx hb dL_law_1413 (by decide) (fun c358 => ?_) (fun c358 => ?_)
  · replace hf := (if_pos c358).symm.trans hf
    exact L_law_3358_W hC hQ hst h_28 hf hw (lv_sub hl [0, 1, 2, 3, 4, 5] rfl)
  · replace hf := (if_neg c358).symm.trans hf
    refine lv_iconst (v := 0) hx hb dL_law_1416 (by decide) ?_
    cases hf
    exact hQ _ _ _ _ _ _ dL_law_1417 gz0 hw

def L_law_1418 (E : gE) (r_28 : Nat → Nat → Nat → Nat → Nat → Int32 → gS → Option (Int32 × gS)) (l0 : Nat) (l1 : Nat) (l2 : Nat) (l3 : Nat) (l4 : Nat) (l5 : Int32) (σ : gS) : Option (Int32 × gS) :=
  ob (graI E 0 σ l0 (l5 + (1 : Int32))) fun x359 =>
  ob (L_conditionColumn_f E l1 x359 l3 σ) fun x361 =>
  ob (graI E 0 x361.2 l0 (l5 + (1 : Int32))) fun x363 =>
  ob (gcl x361.2 l2 11) fun _ =>
  ob (X13_conditionColumn_f E l2 x363 x361.2) fun x365 =>
  ob (gcl x365.2 l2 11) fun _ =>
  ob (X13_thrown_f E x365.2 l2) fun x368 =>
  if x368 = x361.1 then
    if x361.1 = 0 then
      ob (graJ E x365.2 l3 (0 : Int32)) fun x371 =>
      if (lg_cmp x371 ((x365.1).toInt64)) = 0 then
        L_law_3358 E r_28 l0 l1 l2 l3 l4 l5 x365.2
      else
        some ((0 : Int32), x365.2)
    else
      L_law_3358 E r_28 l0 l1 l2 l3 l4 l5 x365.2
  else
    some ((0 : Int32), x365.2)
set_option maxHeartbeats 4000000 in
set_option maxRecDepth 100000 in
theorem L_law_1418_W {σ : gS} {l0 : Nat} {l1 : Nat} {l2 : Nat} {l3 : Nat} {l4 : Nat} {l5 : Int32} {res : (Int32 × gS)} {ls : Array Slot} (hC : gC E D A p R s m args meth c cL_law 10 RL nm 11 259) (hQ : gQI E D A p l e R s m args below meth c Q cL_law FieldType.boolean res) (hst : l.stackTraces = false) {r_28 : Nat → Nat → Nat → Nat → Nat → Int32 → gS → Option (Int32 × gS)} (h_28 : ∀ {l0 : Nat} {l1 : Nat} {l2 : Nat} {l3 : Nat} {l4 : Nat} {l5 : Int32} {σ : gS} {H : Heap} {locs : List Loc} {cells slots : Nat} {ls : Array Slot}, r_28 l0 l1 l2 l3 l4 l5 σ = some res → gW E D A s σ H locs → lv_has ls 10 [(0, .ref l0), (1, .ref l1), (2, .ref l2), (3, .ref l3), (4, .ref l4), (5, .int l5)] → W p l e R s m args below meth c H locs cells slots Q (F0 m 28 ls [])) (hf : L_law_1418 E r_28 l0 l1 l2 l3 l4 l5 σ = some res) (hw : gW E D A s σ H locs) (hl : lv_has ls 10 [(0, .ref l0), (1, .ref l1), (2, .ref l2), (3, .ref l3), (4, .ref l4), (5, .int l5)]) : W p l e R s m args below meth c H locs cells slots Q (F0 m 1418 ls []) := by
  have hC0 := hC
  obtain ⟨hx, hb, hml, hown, hts, -⟩ := hC0
  unfold L_law_1418 at hf
  refine lv_aload_n hx hb dL_law_1418 rfl (lv_at hl 1 rfl) ?_
  refine lv_aload_n hx hb dL_law_1419 rfl (lv_at hl 0 rfl) ?_
  refine lv_iload hx hb dL_law_1420 (lv_at hl 5 rfl) ?_
  refine lv_iconst (v := 1) hx hb dL_law_1422 (by decide) ?_
  refine lv_iadd hx hb dL_law_1423 ?_
  obtain ⟨x359, h360, hf⟩ := ob_some hf
  refine gg_aldI hC hw h360 dL_law_1424 ?_
  refine lv_aload_n hx hb dL_law_1425 rfl (lv_at hl 3 rfl) ?_
  obtain ⟨x361, h362, hf⟩ := ob_some hf
  refine gg_yHI (As := [.ref l1, .int x359, .ref l3]) hC hw (L_conditionColumn_M l hst E D A h362) g_ml_L_249 hd_L_conditionColumn.2 (Nat.le_of_ble_eq_true rfl) (Nat.le_of_ble_eq_true rfl) hl.1 rfl (Nat.le_of_ble_eq_true rfl) dL_law_1426 (fun _ _ he => nomatch (congrArg Prod.fst he)) (fun r9 σ9 he H locs cells slots hw => ?_)
  cases he
  refine lv_istore (lv' := [(6, .int x361.1), (0, .ref l0), (1, .ref l1), (2, .ref l2), (3, .ref l3), (4, .ref l4), (5, .int l5)]) hx hb dL_law_1429 hl (by decide) rfl (fun ls hl => ?_)
  refine lv_aload_n hx hb dL_law_1431 rfl (lv_at hl 3 rfl) ?_
  refine lv_aload_n hx hb dL_law_1432 rfl (lv_at hl 1 rfl) ?_
  refine lv_iload hx hb dL_law_1433 (lv_at hl 6 rfl) ?_
  refine lv_iconst (v := 1) hx hb dL_law_1435 (by decide) ?_
  refine lv_iadd hx hb dL_law_1436 ?_
  obtain ⟨x363, h364, hf⟩ := ob_some hf
  refine gg_aldI hC hw h364 dL_law_1437 ?_
  obtain ⟨_, h367, hf⟩ := ob_some hf
  obtain ⟨x365, h366, hf⟩ := ob_some hf
  refine gg_cVI (As := [.int x363]) hC hw (X13_conditionColumn_M l E D A h366) h367 rfl g_ml_L_251 hd_X13_conditionColumn (Nat.le_of_ble_eq_true rfl) (Nat.le_of_ble_eq_true rfl) hl.1 rfl (Nat.le_of_ble_eq_true rfl) dL_law_1438 (fun H locs cells slots hw => ?_)
  refine lv_istore (lv' := [(7, .int x365.1), (6, .int x361.1), (0, .ref l0), (1, .ref l1), (2, .ref l2), (3, .ref l3), (4, .ref l4), (5, .int l5)]) hx hb dL_law_1441 hl (by decide) rfl (fun ls hl => ?_)
  refine lv_aload_n hx hb dL_law_1443 rfl (lv_at hl 4 rfl) ?_
  obtain ⟨_, h370, hf⟩ := ob_some hf
  obtain ⟨x368, h369, hf⟩ := ob_some hf
  refine gg_cVI (As := []) hC hw (X13_thrown_M l E D A h369) h370 rfl g_ml_L_174 hd_X13_thrown (Nat.le_of_ble_eq_true rfl) (Nat.le_of_ble_eq_true rfl) hl.1 rfl (Nat.le_of_ble_eq_true rfl) dL_law_1444 (fun H locs cells slots hw => ?_)
  refine lv_iload hx hb dL_law_1447 (lv_at hl 1 rfl) ?_
  refine lv_icmp_eq (tgt := 1454) hx hb dL_law_1449 (by decide) (fun c375 => ?_) (fun c375 => ?_)
  · replace hf := (if_pos c375).symm.trans hf
    refine lv_iload hx hb dL_law_1454 (lv_at hl 1 rfl) ?_
    refine lv_if_ne (tgt := 1471) hx hb dL_law_1456 (by decide) (fun c374 => ?_) (fun c374 => ?_)
    · replace hf := (if_neg c374).symm.trans hf
      refine lv_goto (tgt := 3358) hx hb dL_law_1471 (by decide) ?_
      exact L_law_3358_W hC hQ hst h_28 hf hw (lv_sub hl [2, 3, 4, 5, 6, 7] rfl)
    · replace hf := (if_pos c374).symm.trans hf
      refine lv_aload_n hx hb dL_law_1459 rfl (lv_at hl 5 rfl) ?_
      refine lv_iconst (v := 0) hx hb dL_law_1460 (by decide) ?_
      obtain ⟨x371, h372, hf⟩ := ob_some hf
      refine gg_aldJ hC hw h372 dL_law_1461 ?_
      refine lv_iload hx hb dL_law_1462 (lv_at hl 0 rfl) ?_
      refine lv_i2l (v := (x365.1).toInt64) hx hb dL_law_1464 rfl ?_
      refine W.lcmp hx hb dL_law_1465 ?_
      refine lv_if_eq (tgt := 1471) hx hb dL_law_1466 (by decide) (fun c373 => ?_) (fun c373 => ?_)
      · replace hf := (if_pos c373).symm.trans hf
        refine lv_goto (tgt := 3358) hx hb dL_law_1471 (by decide) ?_
        exact L_law_3358_W hC hQ hst h_28 hf hw (lv_sub hl [2, 3, 4, 5, 6, 7] rfl)
      · replace hf := (if_neg c373).symm.trans hf
        refine lv_iconst (v := 0) hx hb dL_law_1469 (by decide) ?_
        cases hf
        exact hQ _ _ _ _ _ _ dL_law_1470 gz0 hw
  · replace hf := (if_neg c375).symm.trans hf
    refine lv_iconst (v := 0) hx hb dL_law_1452 (by decide) ?_
    cases hf
    exact hQ _ _ _ _ _ _ dL_law_1453 gz0 hw

def L_law_1474 (E : gE) (r_28 : Nat → Nat → Nat → Nat → Nat → Int32 → gS → Option (Int32 × gS)) (l0 : Nat) (l1 : Nat) (l2 : Nat) (l3 : Nat) (l4 : Nat) (l5 : Int32) (σ : gS) : Option (Int32 × gS) :=
  ob (graI E 0 σ l0 (l5 + (1 : Int32))) fun x376 =>
  ob (L_conditionValue_f E l1 x376 l3 σ) fun x378 =>
  ob (graI E 0 x378.2 l0 (l5 + (1 : Int32))) fun x380 =>
  ob (gcl x378.2 l2 11) fun _ =>
  ob (X13_conditionValue_f E l2 x380 x378.2) fun x382 =>
  ob (gcl x382.2 l2 11) fun _ =>
  ob (X13_thrown_f E x382.2 l2) fun x385 =>
  if x385 = x378.1 then
    if x378.1 = 0 then
      ob (graJ E x382.2 l3 (0 : Int32)) fun x388 =>
      if (lg_cmp x388 ((x382.1).toInt64)) = 0 then
        L_law_3358 E r_28 l0 l1 l2 l3 l4 l5 x382.2
      else
        some ((0 : Int32), x382.2)
    else
      L_law_3358 E r_28 l0 l1 l2 l3 l4 l5 x382.2
  else
    some ((0 : Int32), x382.2)
set_option maxHeartbeats 4000000 in
set_option maxRecDepth 100000 in
theorem L_law_1474_W {σ : gS} {l0 : Nat} {l1 : Nat} {l2 : Nat} {l3 : Nat} {l4 : Nat} {l5 : Int32} {res : (Int32 × gS)} {ls : Array Slot} (hC : gC E D A p R s m args meth c cL_law 10 RL nm 11 259) (hQ : gQI E D A p l e R s m args below meth c Q cL_law FieldType.boolean res) (hst : l.stackTraces = false) {r_28 : Nat → Nat → Nat → Nat → Nat → Int32 → gS → Option (Int32 × gS)} (h_28 : ∀ {l0 : Nat} {l1 : Nat} {l2 : Nat} {l3 : Nat} {l4 : Nat} {l5 : Int32} {σ : gS} {H : Heap} {locs : List Loc} {cells slots : Nat} {ls : Array Slot}, r_28 l0 l1 l2 l3 l4 l5 σ = some res → gW E D A s σ H locs → lv_has ls 10 [(0, .ref l0), (1, .ref l1), (2, .ref l2), (3, .ref l3), (4, .ref l4), (5, .int l5)] → W p l e R s m args below meth c H locs cells slots Q (F0 m 28 ls [])) (hf : L_law_1474 E r_28 l0 l1 l2 l3 l4 l5 σ = some res) (hw : gW E D A s σ H locs) (hl : lv_has ls 10 [(0, .ref l0), (1, .ref l1), (2, .ref l2), (3, .ref l3), (4, .ref l4), (5, .int l5)]) : W p l e R s m args below meth c H locs cells slots Q (F0 m 1474 ls []) := by
  have hC0 := hC
  obtain ⟨hx, hb, hml, hown, hts, -⟩ := hC0
  unfold L_law_1474 at hf
  refine lv_aload_n hx hb dL_law_1474 rfl (lv_at hl 1 rfl) ?_
  refine lv_aload_n hx hb dL_law_1475 rfl (lv_at hl 0 rfl) ?_
  refine lv_iload hx hb dL_law_1476 (lv_at hl 5 rfl) ?_
  refine lv_iconst (v := 1) hx hb dL_law_1478 (by decide) ?_
  refine lv_iadd hx hb dL_law_1479 ?_
  obtain ⟨x376, h377, hf⟩ := ob_some hf
  refine gg_aldI hC hw h377 dL_law_1480 ?_
  refine lv_aload_n hx hb dL_law_1481 rfl (lv_at hl 3 rfl) ?_
  obtain ⟨x378, h379, hf⟩ := ob_some hf
  refine gg_yHI (As := [.ref l1, .int x376, .ref l3]) hC hw (L_conditionValue_M l hst E D A h379) g_ml_L_252 hd_L_conditionValue.2 (Nat.le_of_ble_eq_true rfl) (Nat.le_of_ble_eq_true rfl) hl.1 rfl (Nat.le_of_ble_eq_true rfl) dL_law_1482 (fun _ _ he => nomatch (congrArg Prod.fst he)) (fun r9 σ9 he H locs cells slots hw => ?_)
  cases he
  refine lv_istore (lv' := [(6, .int x378.1), (0, .ref l0), (1, .ref l1), (2, .ref l2), (3, .ref l3), (4, .ref l4), (5, .int l5)]) hx hb dL_law_1485 hl (by decide) rfl (fun ls hl => ?_)
  refine lv_aload_n hx hb dL_law_1487 rfl (lv_at hl 3 rfl) ?_
  refine lv_aload_n hx hb dL_law_1488 rfl (lv_at hl 1 rfl) ?_
  refine lv_iload hx hb dL_law_1489 (lv_at hl 6 rfl) ?_
  refine lv_iconst (v := 1) hx hb dL_law_1491 (by decide) ?_
  refine lv_iadd hx hb dL_law_1492 ?_
  obtain ⟨x380, h381, hf⟩ := ob_some hf
  refine gg_aldI hC hw h381 dL_law_1493 ?_
  obtain ⟨_, h384, hf⟩ := ob_some hf
  obtain ⟨x382, h383, hf⟩ := ob_some hf
  refine gg_cVI (As := [.int x380]) hC hw (X13_conditionValue_M l E D A h383) h384 rfl g_ml_L_254 hd_X13_conditionValue (Nat.le_of_ble_eq_true rfl) (Nat.le_of_ble_eq_true rfl) hl.1 rfl (Nat.le_of_ble_eq_true rfl) dL_law_1494 (fun H locs cells slots hw => ?_)
  refine lv_istore (lv' := [(7, .int x382.1), (6, .int x378.1), (0, .ref l0), (1, .ref l1), (2, .ref l2), (3, .ref l3), (4, .ref l4), (5, .int l5)]) hx hb dL_law_1497 hl (by decide) rfl (fun ls hl => ?_)
  refine lv_aload_n hx hb dL_law_1499 rfl (lv_at hl 4 rfl) ?_
  obtain ⟨_, h387, hf⟩ := ob_some hf
  obtain ⟨x385, h386, hf⟩ := ob_some hf
  refine gg_cVI (As := []) hC hw (X13_thrown_M l E D A h386) h387 rfl g_ml_L_174 hd_X13_thrown (Nat.le_of_ble_eq_true rfl) (Nat.le_of_ble_eq_true rfl) hl.1 rfl (Nat.le_of_ble_eq_true rfl) dL_law_1500 (fun H locs cells slots hw => ?_)
  refine lv_iload hx hb dL_law_1503 (lv_at hl 1 rfl) ?_
  refine lv_icmp_eq (tgt := 1510) hx hb dL_law_1505 (by decide) (fun c392 => ?_) (fun c392 => ?_)
  · replace hf := (if_pos c392).symm.trans hf
    refine lv_iload hx hb dL_law_1510 (lv_at hl 1 rfl) ?_
    refine lv_if_ne (tgt := 1527) hx hb dL_law_1512 (by decide) (fun c391 => ?_) (fun c391 => ?_)
    · replace hf := (if_neg c391).symm.trans hf
      refine lv_goto (tgt := 3358) hx hb dL_law_1527 (by decide) ?_
      exact L_law_3358_W hC hQ hst h_28 hf hw (lv_sub hl [2, 3, 4, 5, 6, 7] rfl)
    · replace hf := (if_pos c391).symm.trans hf
      refine lv_aload_n hx hb dL_law_1515 rfl (lv_at hl 5 rfl) ?_
      refine lv_iconst (v := 0) hx hb dL_law_1516 (by decide) ?_
      obtain ⟨x388, h389, hf⟩ := ob_some hf
      refine gg_aldJ hC hw h389 dL_law_1517 ?_
      refine lv_iload hx hb dL_law_1518 (lv_at hl 0 rfl) ?_
      refine lv_i2l (v := (x382.1).toInt64) hx hb dL_law_1520 rfl ?_
      refine W.lcmp hx hb dL_law_1521 ?_
      refine lv_if_eq (tgt := 1527) hx hb dL_law_1522 (by decide) (fun c390 => ?_) (fun c390 => ?_)
      · replace hf := (if_pos c390).symm.trans hf
        refine lv_goto (tgt := 3358) hx hb dL_law_1527 (by decide) ?_
        exact L_law_3358_W hC hQ hst h_28 hf hw (lv_sub hl [2, 3, 4, 5, 6, 7] rfl)
      · replace hf := (if_neg c390).symm.trans hf
        refine lv_iconst (v := 0) hx hb dL_law_1525 (by decide) ?_
        cases hf
        exact hQ _ _ _ _ _ _ dL_law_1526 gz0 hw
  · replace hf := (if_neg c392).symm.trans hf
    refine lv_iconst (v := 0) hx hb dL_law_1508 (by decide) ?_
    cases hf
    exact hQ _ _ _ _ _ _ dL_law_1509 gz0 hw

def L_law_1530 (E : gE) (r_28 : Nat → Nat → Nat → Nat → Nat → Int32 → gS → Option (Int32 × gS)) (l0 : Nat) (l1 : Nat) (l2 : Nat) (l3 : Nat) (l4 : Nat) (l5 : Int32) (σ : gS) : Option (Int32 × gS) :=
  ob (graI E 0 σ l0 (l5 + (1 : Int32))) fun x393 =>
  ob (L_conditionDirection_f E l1 x393 l3 σ) fun x395 =>
  ob (graI E 0 x395.2 l0 (l5 + (1 : Int32))) fun x397 =>
  ob (gcl x395.2 l2 11) fun _ =>
  ob (X13_conditionDirection_f E l2 x397 x395.2) fun x399 =>
  ob (gcl x399.2 l2 11) fun _ =>
  ob (X13_thrown_f E x399.2 l2) fun x402 =>
  if x402 = x395.1 then
    if x395.1 = 0 then
      ob (graJ E x399.2 l3 (0 : Int32)) fun x405 =>
      if (lg_cmp x405 ((x399.1).toInt64)) = 0 then
        L_law_3358 E r_28 l0 l1 l2 l3 l4 l5 x399.2
      else
        some ((0 : Int32), x399.2)
    else
      L_law_3358 E r_28 l0 l1 l2 l3 l4 l5 x399.2
  else
    some ((0 : Int32), x399.2)
set_option maxHeartbeats 4000000 in
set_option maxRecDepth 100000 in
theorem L_law_1530_W {σ : gS} {l0 : Nat} {l1 : Nat} {l2 : Nat} {l3 : Nat} {l4 : Nat} {l5 : Int32} {res : (Int32 × gS)} {ls : Array Slot} (hC : gC E D A p R s m args meth c cL_law 10 RL nm 11 259) (hQ : gQI E D A p l e R s m args below meth c Q cL_law FieldType.boolean res) (hst : l.stackTraces = false) {r_28 : Nat → Nat → Nat → Nat → Nat → Int32 → gS → Option (Int32 × gS)} (h_28 : ∀ {l0 : Nat} {l1 : Nat} {l2 : Nat} {l3 : Nat} {l4 : Nat} {l5 : Int32} {σ : gS} {H : Heap} {locs : List Loc} {cells slots : Nat} {ls : Array Slot}, r_28 l0 l1 l2 l3 l4 l5 σ = some res → gW E D A s σ H locs → lv_has ls 10 [(0, .ref l0), (1, .ref l1), (2, .ref l2), (3, .ref l3), (4, .ref l4), (5, .int l5)] → W p l e R s m args below meth c H locs cells slots Q (F0 m 28 ls [])) (hf : L_law_1530 E r_28 l0 l1 l2 l3 l4 l5 σ = some res) (hw : gW E D A s σ H locs) (hl : lv_has ls 10 [(0, .ref l0), (1, .ref l1), (2, .ref l2), (3, .ref l3), (4, .ref l4), (5, .int l5)]) : W p l e R s m args below meth c H locs cells slots Q (F0 m 1530 ls []) := by
  have hC0 := hC
  obtain ⟨hx, hb, hml, hown, hts, -⟩ := hC0
  unfold L_law_1530 at hf
  refine lv_aload_n hx hb dL_law_1530 rfl (lv_at hl 1 rfl) ?_
  refine lv_aload_n hx hb dL_law_1531 rfl (lv_at hl 0 rfl) ?_
  refine lv_iload hx hb dL_law_1532 (lv_at hl 5 rfl) ?_
  refine lv_iconst (v := 1) hx hb dL_law_1534 (by decide) ?_
  refine lv_iadd hx hb dL_law_1535 ?_
  obtain ⟨x393, h394, hf⟩ := ob_some hf
  refine gg_aldI hC hw h394 dL_law_1536 ?_
  refine lv_aload_n hx hb dL_law_1537 rfl (lv_at hl 3 rfl) ?_
  obtain ⟨x395, h396, hf⟩ := ob_some hf
  refine gg_yHI (As := [.ref l1, .int x393, .ref l3]) hC hw (L_conditionDirection_M l hst E D A h396) g_ml_L_255 hd_L_conditionDirection.2 (Nat.le_of_ble_eq_true rfl) (Nat.le_of_ble_eq_true rfl) hl.1 rfl (Nat.le_of_ble_eq_true rfl) dL_law_1538 (fun _ _ he => nomatch (congrArg Prod.fst he)) (fun r9 σ9 he H locs cells slots hw => ?_)
  cases he
  refine lv_istore (lv' := [(6, .int x395.1), (0, .ref l0), (1, .ref l1), (2, .ref l2), (3, .ref l3), (4, .ref l4), (5, .int l5)]) hx hb dL_law_1541 hl (by decide) rfl (fun ls hl => ?_)
  refine lv_aload_n hx hb dL_law_1543 rfl (lv_at hl 3 rfl) ?_
  refine lv_aload_n hx hb dL_law_1544 rfl (lv_at hl 1 rfl) ?_
  refine lv_iload hx hb dL_law_1545 (lv_at hl 6 rfl) ?_
  refine lv_iconst (v := 1) hx hb dL_law_1547 (by decide) ?_
  refine lv_iadd hx hb dL_law_1548 ?_
  obtain ⟨x397, h398, hf⟩ := ob_some hf
  refine gg_aldI hC hw h398 dL_law_1549 ?_
  obtain ⟨_, h401, hf⟩ := ob_some hf
  obtain ⟨x399, h400, hf⟩ := ob_some hf
  refine gg_cVI (As := [.int x397]) hC hw (X13_conditionDirection_M l E D A h400) h401 rfl g_ml_L_257 hd_X13_conditionDirection (Nat.le_of_ble_eq_true rfl) (Nat.le_of_ble_eq_true rfl) hl.1 rfl (Nat.le_of_ble_eq_true rfl) dL_law_1550 (fun H locs cells slots hw => ?_)
  refine lv_istore (lv' := [(7, .int x399.1), (6, .int x395.1), (0, .ref l0), (1, .ref l1), (2, .ref l2), (3, .ref l3), (4, .ref l4), (5, .int l5)]) hx hb dL_law_1553 hl (by decide) rfl (fun ls hl => ?_)
  refine lv_aload_n hx hb dL_law_1555 rfl (lv_at hl 4 rfl) ?_
  obtain ⟨_, h404, hf⟩ := ob_some hf
  obtain ⟨x402, h403, hf⟩ := ob_some hf
  refine gg_cVI (As := []) hC hw (X13_thrown_M l E D A h403) h404 rfl g_ml_L_174 hd_X13_thrown (Nat.le_of_ble_eq_true rfl) (Nat.le_of_ble_eq_true rfl) hl.1 rfl (Nat.le_of_ble_eq_true rfl) dL_law_1556 (fun H locs cells slots hw => ?_)
  refine lv_iload hx hb dL_law_1559 (lv_at hl 1 rfl) ?_
  refine lv_icmp_eq (tgt := 1566) hx hb dL_law_1561 (by decide) (fun c409 => ?_) (fun c409 => ?_)
  · replace hf := (if_pos c409).symm.trans hf
    refine lv_iload hx hb dL_law_1566 (lv_at hl 1 rfl) ?_
    refine lv_if_ne (tgt := 1583) hx hb dL_law_1568 (by decide) (fun c408 => ?_) (fun c408 => ?_)
    · replace hf := (if_neg c408).symm.trans hf
      refine lv_goto (tgt := 3358) hx hb dL_law_1583 (by decide) ?_
      exact L_law_3358_W hC hQ hst h_28 hf hw (lv_sub hl [2, 3, 4, 5, 6, 7] rfl)
    · replace hf := (if_pos c408).symm.trans hf
      refine lv_aload_n hx hb dL_law_1571 rfl (lv_at hl 5 rfl) ?_
      refine lv_iconst (v := 0) hx hb dL_law_1572 (by decide) ?_
      obtain ⟨x405, h406, hf⟩ := ob_some hf
      refine gg_aldJ hC hw h406 dL_law_1573 ?_
      refine lv_iload hx hb dL_law_1574 (lv_at hl 0 rfl) ?_
      refine lv_i2l (v := (x399.1).toInt64) hx hb dL_law_1576 rfl ?_
      refine W.lcmp hx hb dL_law_1577 ?_
      refine lv_if_eq (tgt := 1583) hx hb dL_law_1578 (by decide) (fun c407 => ?_) (fun c407 => ?_)
      · replace hf := (if_pos c407).symm.trans hf
        refine lv_goto (tgt := 3358) hx hb dL_law_1583 (by decide) ?_
        exact L_law_3358_W hC hQ hst h_28 hf hw (lv_sub hl [2, 3, 4, 5, 6, 7] rfl)
      · replace hf := (if_neg c407).symm.trans hf
        refine lv_iconst (v := 0) hx hb dL_law_1581 (by decide) ?_
        cases hf
        exact hQ _ _ _ _ _ _ dL_law_1582 gz0 hw
  · replace hf := (if_neg c409).symm.trans hf
    refine lv_iconst (v := 0) hx hb dL_law_1564 (by decide) ?_
    cases hf
    exact hQ _ _ _ _ _ _ dL_law_1565 gz0 hw

def L_law_1586 (E : gE) (r_28 : Nat → Nat → Nat → Nat → Nat → Int32 → gS → Option (Int32 × gS)) (l0 : Nat) (l1 : Nat) (l2 : Nat) (l3 : Nat) (l4 : Nat) (l5 : Int32) (σ : gS) : Option (Int32 × gS) :=
  ob (graI E 0 σ l0 (l5 + (1 : Int32))) fun x410 =>
  ob (L_lowerCode_f E l1 x410 l3 σ) fun x412 =>
  ob (graI E 0 x412.2 l0 (l5 + (1 : Int32))) fun x414 =>
  ob (gcl x412.2 l2 11) fun _ =>
  ob (X13_lowerCode_f E l2 x414 x412.2) fun x416 =>
  ob (gcl x416.2 l2 11) fun _ =>
  ob (X13_thrown_f E x416.2 l2) fun x419 =>
  if x419 = x412.1 then
    if x412.1 = 0 then
      ob (graJ E x416.2 l3 (0 : Int32)) fun x422 =>
      if (lg_cmp x422 ((x416.1).toInt64)) = 0 then
        L_law_3358 E r_28 l0 l1 l2 l3 l4 l5 x416.2
      else
        some ((0 : Int32), x416.2)
    else
      L_law_3358 E r_28 l0 l1 l2 l3 l4 l5 x416.2
  else
    some ((0 : Int32), x416.2)
set_option maxHeartbeats 4000000 in
set_option maxRecDepth 100000 in
theorem L_law_1586_W {σ : gS} {l0 : Nat} {l1 : Nat} {l2 : Nat} {l3 : Nat} {l4 : Nat} {l5 : Int32} {res : (Int32 × gS)} {ls : Array Slot} (hC : gC E D A p R s m args meth c cL_law 10 RL nm 11 259) (hQ : gQI E D A p l e R s m args below meth c Q cL_law FieldType.boolean res) (hst : l.stackTraces = false) {r_28 : Nat → Nat → Nat → Nat → Nat → Int32 → gS → Option (Int32 × gS)} (h_28 : ∀ {l0 : Nat} {l1 : Nat} {l2 : Nat} {l3 : Nat} {l4 : Nat} {l5 : Int32} {σ : gS} {H : Heap} {locs : List Loc} {cells slots : Nat} {ls : Array Slot}, r_28 l0 l1 l2 l3 l4 l5 σ = some res → gW E D A s σ H locs → lv_has ls 10 [(0, .ref l0), (1, .ref l1), (2, .ref l2), (3, .ref l3), (4, .ref l4), (5, .int l5)] → W p l e R s m args below meth c H locs cells slots Q (F0 m 28 ls [])) (hf : L_law_1586 E r_28 l0 l1 l2 l3 l4 l5 σ = some res) (hw : gW E D A s σ H locs) (hl : lv_has ls 10 [(0, .ref l0), (1, .ref l1), (2, .ref l2), (3, .ref l3), (4, .ref l4), (5, .int l5)]) : W p l e R s m args below meth c H locs cells slots Q (F0 m 1586 ls []) := by
  have hC0 := hC
  obtain ⟨hx, hb, hml, hown, hts, -⟩ := hC0
  unfold L_law_1586 at hf
  refine lv_aload_n hx hb dL_law_1586 rfl (lv_at hl 1 rfl) ?_
  refine lv_aload_n hx hb dL_law_1587 rfl (lv_at hl 0 rfl) ?_
  refine lv_iload hx hb dL_law_1588 (lv_at hl 5 rfl) ?_
  refine lv_iconst (v := 1) hx hb dL_law_1590 (by decide) ?_
  refine lv_iadd hx hb dL_law_1591 ?_
  obtain ⟨x410, h411, hf⟩ := ob_some hf
  refine gg_aldI hC hw h411 dL_law_1592 ?_
  refine lv_aload_n hx hb dL_law_1593 rfl (lv_at hl 3 rfl) ?_
  obtain ⟨x412, h413, hf⟩ := ob_some hf
  refine gg_yHI (As := [.ref l1, .int x410, .ref l3]) hC hw (L_lowerCode_M l hst E D A h413) g_ml_L_258 hd_L_lowerCode.2 (Nat.le_of_ble_eq_true rfl) (Nat.le_of_ble_eq_true rfl) hl.1 rfl (Nat.le_of_ble_eq_true rfl) dL_law_1594 (fun _ _ he => nomatch (congrArg Prod.fst he)) (fun r9 σ9 he H locs cells slots hw => ?_)
  cases he
  refine lv_istore (lv' := [(6, .int x412.1), (0, .ref l0), (1, .ref l1), (2, .ref l2), (3, .ref l3), (4, .ref l4), (5, .int l5)]) hx hb dL_law_1597 hl (by decide) rfl (fun ls hl => ?_)
  refine lv_aload_n hx hb dL_law_1599 rfl (lv_at hl 3 rfl) ?_
  refine lv_aload_n hx hb dL_law_1600 rfl (lv_at hl 1 rfl) ?_
  refine lv_iload hx hb dL_law_1601 (lv_at hl 6 rfl) ?_
  refine lv_iconst (v := 1) hx hb dL_law_1603 (by decide) ?_
  refine lv_iadd hx hb dL_law_1604 ?_
  obtain ⟨x414, h415, hf⟩ := ob_some hf
  refine gg_aldI hC hw h415 dL_law_1605 ?_
  obtain ⟨_, h418, hf⟩ := ob_some hf
  obtain ⟨x416, h417, hf⟩ := ob_some hf
  refine gg_cVI (As := [.int x414]) hC hw (X13_lowerCode_M l E D A h417) h418 rfl g_ml_L_260 hd_X13_lowerCode (Nat.le_of_ble_eq_true rfl) (Nat.le_of_ble_eq_true rfl) hl.1 rfl (Nat.le_of_ble_eq_true rfl) dL_law_1606 (fun H locs cells slots hw => ?_)
  refine lv_istore (lv' := [(7, .int x416.1), (6, .int x412.1), (0, .ref l0), (1, .ref l1), (2, .ref l2), (3, .ref l3), (4, .ref l4), (5, .int l5)]) hx hb dL_law_1609 hl (by decide) rfl (fun ls hl => ?_)
  refine lv_aload_n hx hb dL_law_1611 rfl (lv_at hl 4 rfl) ?_
  obtain ⟨_, h421, hf⟩ := ob_some hf
  obtain ⟨x419, h420, hf⟩ := ob_some hf
  refine gg_cVI (As := []) hC hw (X13_thrown_M l E D A h420) h421 rfl g_ml_L_174 hd_X13_thrown (Nat.le_of_ble_eq_true rfl) (Nat.le_of_ble_eq_true rfl) hl.1 rfl (Nat.le_of_ble_eq_true rfl) dL_law_1612 (fun H locs cells slots hw => ?_)
  refine lv_iload hx hb dL_law_1615 (lv_at hl 1 rfl) ?_
  refine lv_icmp_eq (tgt := 1622) hx hb dL_law_1617 (by decide) (fun c426 => ?_) (fun c426 => ?_)
  · replace hf := (if_pos c426).symm.trans hf
    refine lv_iload hx hb dL_law_1622 (lv_at hl 1 rfl) ?_
    refine lv_if_ne (tgt := 1639) hx hb dL_law_1624 (by decide) (fun c425 => ?_) (fun c425 => ?_)
    · replace hf := (if_neg c425).symm.trans hf
      refine lv_goto (tgt := 3358) hx hb dL_law_1639 (by decide) ?_
      exact L_law_3358_W hC hQ hst h_28 hf hw (lv_sub hl [2, 3, 4, 5, 6, 7] rfl)
    · replace hf := (if_pos c425).symm.trans hf
      refine lv_aload_n hx hb dL_law_1627 rfl (lv_at hl 5 rfl) ?_
      refine lv_iconst (v := 0) hx hb dL_law_1628 (by decide) ?_
      obtain ⟨x422, h423, hf⟩ := ob_some hf
      refine gg_aldJ hC hw h423 dL_law_1629 ?_
      refine lv_iload hx hb dL_law_1630 (lv_at hl 0 rfl) ?_
      refine lv_i2l (v := (x416.1).toInt64) hx hb dL_law_1632 rfl ?_
      refine W.lcmp hx hb dL_law_1633 ?_
      refine lv_if_eq (tgt := 1639) hx hb dL_law_1634 (by decide) (fun c424 => ?_) (fun c424 => ?_)
      · replace hf := (if_pos c424).symm.trans hf
        refine lv_goto (tgt := 3358) hx hb dL_law_1639 (by decide) ?_
        exact L_law_3358_W hC hQ hst h_28 hf hw (lv_sub hl [2, 3, 4, 5, 6, 7] rfl)
      · replace hf := (if_neg c424).symm.trans hf
        refine lv_iconst (v := 0) hx hb dL_law_1637 (by decide) ?_
        cases hf
        exact hQ _ _ _ _ _ _ dL_law_1638 gz0 hw
  · replace hf := (if_neg c426).symm.trans hf
    refine lv_iconst (v := 0) hx hb dL_law_1620 (by decide) ?_
    cases hf
    exact hQ _ _ _ _ _ _ dL_law_1621 gz0 hw

def L_law_1642 (E : gE) (r_28 : Nat → Nat → Nat → Nat → Nat → Int32 → gS → Option (Int32 × gS)) (l0 : Nat) (l1 : Nat) (l2 : Nat) (l3 : Nat) (l4 : Nat) (l5 : Int32) (σ : gS) : Option (Int32 × gS) :=
  ob (graI E 0 σ l0 (l5 + (1 : Int32))) fun x427 =>
  ob (L_upperCode_f E l1 x427 l3 σ) fun x429 =>
  ob (graI E 0 x429.2 l0 (l5 + (1 : Int32))) fun x431 =>
  ob (gcl x429.2 l2 11) fun _ =>
  ob (X13_upperCode_f E l2 x431 x429.2) fun x433 =>
  ob (gcl x433.2 l2 11) fun _ =>
  ob (X13_thrown_f E x433.2 l2) fun x436 =>
  if x436 = x429.1 then
    if x429.1 = 0 then
      ob (graJ E x433.2 l3 (0 : Int32)) fun x439 =>
      if (lg_cmp x439 ((x433.1).toInt64)) = 0 then
        L_law_3358 E r_28 l0 l1 l2 l3 l4 l5 x433.2
      else
        some ((0 : Int32), x433.2)
    else
      L_law_3358 E r_28 l0 l1 l2 l3 l4 l5 x433.2
  else
    some ((0 : Int32), x433.2)
set_option maxHeartbeats 4000000 in
set_option maxRecDepth 100000 in
theorem L_law_1642_W {σ : gS} {l0 : Nat} {l1 : Nat} {l2 : Nat} {l3 : Nat} {l4 : Nat} {l5 : Int32} {res : (Int32 × gS)} {ls : Array Slot} (hC : gC E D A p R s m args meth c cL_law 10 RL nm 11 259) (hQ : gQI E D A p l e R s m args below meth c Q cL_law FieldType.boolean res) (hst : l.stackTraces = false) {r_28 : Nat → Nat → Nat → Nat → Nat → Int32 → gS → Option (Int32 × gS)} (h_28 : ∀ {l0 : Nat} {l1 : Nat} {l2 : Nat} {l3 : Nat} {l4 : Nat} {l5 : Int32} {σ : gS} {H : Heap} {locs : List Loc} {cells slots : Nat} {ls : Array Slot}, r_28 l0 l1 l2 l3 l4 l5 σ = some res → gW E D A s σ H locs → lv_has ls 10 [(0, .ref l0), (1, .ref l1), (2, .ref l2), (3, .ref l3), (4, .ref l4), (5, .int l5)] → W p l e R s m args below meth c H locs cells slots Q (F0 m 28 ls [])) (hf : L_law_1642 E r_28 l0 l1 l2 l3 l4 l5 σ = some res) (hw : gW E D A s σ H locs) (hl : lv_has ls 10 [(0, .ref l0), (1, .ref l1), (2, .ref l2), (3, .ref l3), (4, .ref l4), (5, .int l5)]) : W p l e R s m args below meth c H locs cells slots Q (F0 m 1642 ls []) := by
  have hC0 := hC
  obtain ⟨hx, hb, hml, hown, hts, -⟩ := hC0
  unfold L_law_1642 at hf
  refine lv_aload_n hx hb dL_law_1642 rfl (lv_at hl 1 rfl) ?_
  refine lv_aload_n hx hb dL_law_1643 rfl (lv_at hl 0 rfl) ?_
  refine lv_iload hx hb dL_law_1644 (lv_at hl 5 rfl) ?_
  refine lv_iconst (v := 1) hx hb dL_law_1646 (by decide) ?_
  refine lv_iadd hx hb dL_law_1647 ?_
  obtain ⟨x427, h428, hf⟩ := ob_some hf
  refine gg_aldI hC hw h428 dL_law_1648 ?_
  refine lv_aload_n hx hb dL_law_1649 rfl (lv_at hl 3 rfl) ?_
  obtain ⟨x429, h430, hf⟩ := ob_some hf
  refine gg_yHI (As := [.ref l1, .int x427, .ref l3]) hC hw (L_upperCode_M l hst E D A h430) g_ml_L_261 hd_L_upperCode.2 (Nat.le_of_ble_eq_true rfl) (Nat.le_of_ble_eq_true rfl) hl.1 rfl (Nat.le_of_ble_eq_true rfl) dL_law_1650 (fun _ _ he => nomatch (congrArg Prod.fst he)) (fun r9 σ9 he H locs cells slots hw => ?_)
  cases he
  refine lv_istore (lv' := [(6, .int x429.1), (0, .ref l0), (1, .ref l1), (2, .ref l2), (3, .ref l3), (4, .ref l4), (5, .int l5)]) hx hb dL_law_1653 hl (by decide) rfl (fun ls hl => ?_)
  refine lv_aload_n hx hb dL_law_1655 rfl (lv_at hl 3 rfl) ?_
  refine lv_aload_n hx hb dL_law_1656 rfl (lv_at hl 1 rfl) ?_
  refine lv_iload hx hb dL_law_1657 (lv_at hl 6 rfl) ?_
  refine lv_iconst (v := 1) hx hb dL_law_1659 (by decide) ?_
  refine lv_iadd hx hb dL_law_1660 ?_
  obtain ⟨x431, h432, hf⟩ := ob_some hf
  refine gg_aldI hC hw h432 dL_law_1661 ?_
  obtain ⟨_, h435, hf⟩ := ob_some hf
  obtain ⟨x433, h434, hf⟩ := ob_some hf
  refine gg_cVI (As := [.int x431]) hC hw (X13_upperCode_M l E D A h434) h435 rfl g_ml_L_263 hd_X13_upperCode (Nat.le_of_ble_eq_true rfl) (Nat.le_of_ble_eq_true rfl) hl.1 rfl (Nat.le_of_ble_eq_true rfl) dL_law_1662 (fun H locs cells slots hw => ?_)
  refine lv_istore (lv' := [(7, .int x433.1), (6, .int x429.1), (0, .ref l0), (1, .ref l1), (2, .ref l2), (3, .ref l3), (4, .ref l4), (5, .int l5)]) hx hb dL_law_1665 hl (by decide) rfl (fun ls hl => ?_)
  refine lv_aload_n hx hb dL_law_1667 rfl (lv_at hl 4 rfl) ?_
  obtain ⟨_, h438, hf⟩ := ob_some hf
  obtain ⟨x436, h437, hf⟩ := ob_some hf
  refine gg_cVI (As := []) hC hw (X13_thrown_M l E D A h437) h438 rfl g_ml_L_174 hd_X13_thrown (Nat.le_of_ble_eq_true rfl) (Nat.le_of_ble_eq_true rfl) hl.1 rfl (Nat.le_of_ble_eq_true rfl) dL_law_1668 (fun H locs cells slots hw => ?_)
  refine lv_iload hx hb dL_law_1671 (lv_at hl 1 rfl) ?_
  refine lv_icmp_eq (tgt := 1678) hx hb dL_law_1673 (by decide) (fun c443 => ?_) (fun c443 => ?_)
  · replace hf := (if_pos c443).symm.trans hf
    refine lv_iload hx hb dL_law_1678 (lv_at hl 1 rfl) ?_
    refine lv_if_ne (tgt := 1695) hx hb dL_law_1680 (by decide) (fun c442 => ?_) (fun c442 => ?_)
    · replace hf := (if_neg c442).symm.trans hf
      refine lv_goto (tgt := 3358) hx hb dL_law_1695 (by decide) ?_
      exact L_law_3358_W hC hQ hst h_28 hf hw (lv_sub hl [2, 3, 4, 5, 6, 7] rfl)
    · replace hf := (if_pos c442).symm.trans hf
      refine lv_aload_n hx hb dL_law_1683 rfl (lv_at hl 5 rfl) ?_
      refine lv_iconst (v := 0) hx hb dL_law_1684 (by decide) ?_
      obtain ⟨x439, h440, hf⟩ := ob_some hf
      refine gg_aldJ hC hw h440 dL_law_1685 ?_
      refine lv_iload hx hb dL_law_1686 (lv_at hl 0 rfl) ?_
      refine lv_i2l (v := (x433.1).toInt64) hx hb dL_law_1688 rfl ?_
      refine W.lcmp hx hb dL_law_1689 ?_
      refine lv_if_eq (tgt := 1695) hx hb dL_law_1690 (by decide) (fun c441 => ?_) (fun c441 => ?_)
      · replace hf := (if_pos c441).symm.trans hf
        refine lv_goto (tgt := 3358) hx hb dL_law_1695 (by decide) ?_
        exact L_law_3358_W hC hQ hst h_28 hf hw (lv_sub hl [2, 3, 4, 5, 6, 7] rfl)
      · replace hf := (if_neg c441).symm.trans hf
        refine lv_iconst (v := 0) hx hb dL_law_1693 (by decide) ?_
        cases hf
        exact hQ _ _ _ _ _ _ dL_law_1694 gz0 hw
  · replace hf := (if_neg c443).symm.trans hf
    refine lv_iconst (v := 0) hx hb dL_law_1676 (by decide) ?_
    cases hf
    exact hQ _ _ _ _ _ _ dL_law_1677 gz0 hw

def L_law_1698 (E : gE) (r_28 : Nat → Nat → Nat → Nat → Nat → Int32 → gS → Option (Int32 × gS)) (l0 : Nat) (l1 : Nat) (l2 : Nat) (l3 : Nat) (l4 : Nat) (l5 : Int32) (σ : gS) : Option (Int32 × gS) :=
  ob (graI E 0 σ l0 (l5 + (1 : Int32))) fun x444 =>
  ob (L_matches_f E l1 x444 l3 σ) fun x446 =>
  ob (graI E 0 x446.2 l0 (l5 + (1 : Int32))) fun x448 =>
  ob (gcl x446.2 l2 11) fun _ =>
  ob (X13_matches_f E l2 x448 x446.2) fun x450 =>
  ob (gcl x450.2 l2 11) fun _ =>
  ob (X13_thrown_f E x450.2 l2) fun x453 =>
  if x453 = x446.1 then
    if x446.1 = 0 then
      ob (graJ E x450.2 l3 (0 : Int32)) fun x456 =>
      if (lg_cmp x456 ((x450.1).toInt64)) = 0 then
        L_law_3358 E r_28 l0 l1 l2 l3 l4 l5 x450.2
      else
        some ((0 : Int32), x450.2)
    else
      L_law_3358 E r_28 l0 l1 l2 l3 l4 l5 x450.2
  else
    some ((0 : Int32), x450.2)
set_option maxHeartbeats 4000000 in
set_option maxRecDepth 100000 in
theorem L_law_1698_W {σ : gS} {l0 : Nat} {l1 : Nat} {l2 : Nat} {l3 : Nat} {l4 : Nat} {l5 : Int32} {res : (Int32 × gS)} {ls : Array Slot} (hC : gC E D A p R s m args meth c cL_law 10 RL nm 11 259) (hQ : gQI E D A p l e R s m args below meth c Q cL_law FieldType.boolean res) (hst : l.stackTraces = false) {r_28 : Nat → Nat → Nat → Nat → Nat → Int32 → gS → Option (Int32 × gS)} (h_28 : ∀ {l0 : Nat} {l1 : Nat} {l2 : Nat} {l3 : Nat} {l4 : Nat} {l5 : Int32} {σ : gS} {H : Heap} {locs : List Loc} {cells slots : Nat} {ls : Array Slot}, r_28 l0 l1 l2 l3 l4 l5 σ = some res → gW E D A s σ H locs → lv_has ls 10 [(0, .ref l0), (1, .ref l1), (2, .ref l2), (3, .ref l3), (4, .ref l4), (5, .int l5)] → W p l e R s m args below meth c H locs cells slots Q (F0 m 28 ls [])) (hf : L_law_1698 E r_28 l0 l1 l2 l3 l4 l5 σ = some res) (hw : gW E D A s σ H locs) (hl : lv_has ls 10 [(0, .ref l0), (1, .ref l1), (2, .ref l2), (3, .ref l3), (4, .ref l4), (5, .int l5)]) : W p l e R s m args below meth c H locs cells slots Q (F0 m 1698 ls []) := by
  have hC0 := hC
  obtain ⟨hx, hb, hml, hown, hts, -⟩ := hC0
  unfold L_law_1698 at hf
  refine lv_aload_n hx hb dL_law_1698 rfl (lv_at hl 1 rfl) ?_
  refine lv_aload_n hx hb dL_law_1699 rfl (lv_at hl 0 rfl) ?_
  refine lv_iload hx hb dL_law_1700 (lv_at hl 5 rfl) ?_
  refine lv_iconst (v := 1) hx hb dL_law_1702 (by decide) ?_
  refine lv_iadd hx hb dL_law_1703 ?_
  obtain ⟨x444, h445, hf⟩ := ob_some hf
  refine gg_aldI hC hw h445 dL_law_1704 ?_
  refine lv_aload_n hx hb dL_law_1705 rfl (lv_at hl 3 rfl) ?_
  obtain ⟨x446, h447, hf⟩ := ob_some hf
  refine gg_yHI (As := [.ref l1, .int x444, .ref l3]) hC hw (L_matches_M l hst E D A h447) g_ml_L_264 hd_L_matches.2 (Nat.le_of_ble_eq_true rfl) (Nat.le_of_ble_eq_true rfl) hl.1 rfl (Nat.le_of_ble_eq_true rfl) dL_law_1706 (fun _ _ he => nomatch (congrArg Prod.fst he)) (fun r9 σ9 he H locs cells slots hw => ?_)
  cases he
  refine lv_istore (lv' := [(6, .int x446.1), (0, .ref l0), (1, .ref l1), (2, .ref l2), (3, .ref l3), (4, .ref l4), (5, .int l5)]) hx hb dL_law_1709 hl (by decide) rfl (fun ls hl => ?_)
  refine lv_aload_n hx hb dL_law_1711 rfl (lv_at hl 3 rfl) ?_
  refine lv_aload_n hx hb dL_law_1712 rfl (lv_at hl 1 rfl) ?_
  refine lv_iload hx hb dL_law_1713 (lv_at hl 6 rfl) ?_
  refine lv_iconst (v := 1) hx hb dL_law_1715 (by decide) ?_
  refine lv_iadd hx hb dL_law_1716 ?_
  obtain ⟨x448, h449, hf⟩ := ob_some hf
  refine gg_aldI hC hw h449 dL_law_1717 ?_
  obtain ⟨_, h452, hf⟩ := ob_some hf
  obtain ⟨x450, h451, hf⟩ := ob_some hf
  refine gg_cVI (As := [.int x448]) hC hw (X13_matches_M l E D A h451) h452 rfl g_ml_L_266 hd_X13_matches (Nat.le_of_ble_eq_true rfl) (Nat.le_of_ble_eq_true rfl) hl.1 rfl (Nat.le_of_ble_eq_true rfl) dL_law_1718 (fun H locs cells slots hw => ?_)
  refine lv_istore (lv' := [(7, .int x450.1), (6, .int x446.1), (0, .ref l0), (1, .ref l1), (2, .ref l2), (3, .ref l3), (4, .ref l4), (5, .int l5)]) hx hb dL_law_1721 hl (by decide) rfl (fun ls hl => ?_)
  refine lv_aload_n hx hb dL_law_1723 rfl (lv_at hl 4 rfl) ?_
  obtain ⟨_, h455, hf⟩ := ob_some hf
  obtain ⟨x453, h454, hf⟩ := ob_some hf
  refine gg_cVI (As := []) hC hw (X13_thrown_M l E D A h454) h455 rfl g_ml_L_174 hd_X13_thrown (Nat.le_of_ble_eq_true rfl) (Nat.le_of_ble_eq_true rfl) hl.1 rfl (Nat.le_of_ble_eq_true rfl) dL_law_1724 (fun H locs cells slots hw => ?_)
  refine lv_iload hx hb dL_law_1727 (lv_at hl 1 rfl) ?_
  refine lv_icmp_eq (tgt := 1734) hx hb dL_law_1729 (by decide) (fun c460 => ?_) (fun c460 => ?_)
  · replace hf := (if_pos c460).symm.trans hf
    refine lv_iload hx hb dL_law_1734 (lv_at hl 1 rfl) ?_
    refine lv_if_ne (tgt := 1751) hx hb dL_law_1736 (by decide) (fun c459 => ?_) (fun c459 => ?_)
    · replace hf := (if_neg c459).symm.trans hf
      refine lv_goto (tgt := 3358) hx hb dL_law_1751 (by decide) ?_
      exact L_law_3358_W hC hQ hst h_28 hf hw (lv_sub hl [2, 3, 4, 5, 6, 7] rfl)
    · replace hf := (if_pos c459).symm.trans hf
      refine lv_aload_n hx hb dL_law_1739 rfl (lv_at hl 5 rfl) ?_
      refine lv_iconst (v := 0) hx hb dL_law_1740 (by decide) ?_
      obtain ⟨x456, h457, hf⟩ := ob_some hf
      refine gg_aldJ hC hw h457 dL_law_1741 ?_
      refine lv_iload hx hb dL_law_1742 (lv_at hl 0 rfl) ?_
      refine lv_i2l (v := (x450.1).toInt64) hx hb dL_law_1744 rfl ?_
      refine W.lcmp hx hb dL_law_1745 ?_
      refine lv_if_eq (tgt := 1751) hx hb dL_law_1746 (by decide) (fun c458 => ?_) (fun c458 => ?_)
      · replace hf := (if_pos c458).symm.trans hf
        refine lv_goto (tgt := 3358) hx hb dL_law_1751 (by decide) ?_
        exact L_law_3358_W hC hQ hst h_28 hf hw (lv_sub hl [2, 3, 4, 5, 6, 7] rfl)
      · replace hf := (if_neg c458).symm.trans hf
        refine lv_iconst (v := 0) hx hb dL_law_1749 (by decide) ?_
        cases hf
        exact hQ _ _ _ _ _ _ dL_law_1750 gz0 hw
  · replace hf := (if_neg c460).symm.trans hf
    refine lv_iconst (v := 0) hx hb dL_law_1732 (by decide) ?_
    cases hf
    exact hQ _ _ _ _ _ _ dL_law_1733 gz0 hw

def L_law_1754 (E : gE) (r_28 : Nat → Nat → Nat → Nat → Nat → Int32 → gS → Option (Int32 × gS)) (l0 : Nat) (l1 : Nat) (l2 : Nat) (l3 : Nat) (l4 : Nat) (l5 : Int32) (σ : gS) : Option (Int32 × gS) :=
  ob (gcl σ l1 10) fun _ =>
  ob (X12_strictestCondition_f E σ l1) fun x461 =>
  ob (gcl σ l2 11) fun _ =>
  ob (X13_strictestCondition_f E l2 σ) fun x464 =>
  if x461 = x464.1 then
    L_law_3358 E r_28 l0 l1 l2 l3 l4 l5 x464.2
  else
    some ((0 : Int32), x464.2)
set_option maxHeartbeats 4000000 in
set_option maxRecDepth 100000 in
theorem L_law_1754_W {σ : gS} {l0 : Nat} {l1 : Nat} {l2 : Nat} {l3 : Nat} {l4 : Nat} {l5 : Int32} {res : (Int32 × gS)} {ls : Array Slot} (hC : gC E D A p R s m args meth c cL_law 10 RL nm 11 259) (hQ : gQI E D A p l e R s m args below meth c Q cL_law FieldType.boolean res) (hst : l.stackTraces = false) {r_28 : Nat → Nat → Nat → Nat → Nat → Int32 → gS → Option (Int32 × gS)} (h_28 : ∀ {l0 : Nat} {l1 : Nat} {l2 : Nat} {l3 : Nat} {l4 : Nat} {l5 : Int32} {σ : gS} {H : Heap} {locs : List Loc} {cells slots : Nat} {ls : Array Slot}, r_28 l0 l1 l2 l3 l4 l5 σ = some res → gW E D A s σ H locs → lv_has ls 10 [(0, .ref l0), (1, .ref l1), (2, .ref l2), (3, .ref l3), (4, .ref l4), (5, .int l5)] → W p l e R s m args below meth c H locs cells slots Q (F0 m 28 ls [])) (hf : L_law_1754 E r_28 l0 l1 l2 l3 l4 l5 σ = some res) (hw : gW E D A s σ H locs) (hl : lv_has ls 10 [(0, .ref l0), (1, .ref l1), (2, .ref l2), (3, .ref l3), (4, .ref l4), (5, .int l5)]) : W p l e R s m args below meth c H locs cells slots Q (F0 m 1754 ls []) := by
  have hC0 := hC
  obtain ⟨hx, hb, hml, hown, hts, -⟩ := hC0
  unfold L_law_1754 at hf
  refine lv_aload_n hx hb dL_law_1754 rfl (lv_at hl 1 rfl) ?_
  obtain ⟨_, h463, hf⟩ := ob_some hf
  obtain ⟨x461, h462, hf⟩ := ob_some hf
  refine gg_cVI (As := []) hC hw (X12_strictestCondition_M l E D A h462) h463 rfl g_ml_L_267 hd_X12_strictestCondition (Nat.le_of_ble_eq_true rfl) (Nat.le_of_ble_eq_true rfl) hl.1 rfl (Nat.le_of_ble_eq_true rfl) dL_law_1755 (fun H locs cells slots hw => ?_)
  refine lv_aload_n hx hb dL_law_1758 rfl (lv_at hl 2 rfl) ?_
  obtain ⟨_, h466, hf⟩ := ob_some hf
  obtain ⟨x464, h465, hf⟩ := ob_some hf
  refine gg_cVI (As := []) hC hw (X13_strictestCondition_M l E D A h465) h466 rfl g_ml_L_270 hd_X13_strictestCondition (Nat.le_of_ble_eq_true rfl) (Nat.le_of_ble_eq_true rfl) hl.1 rfl (Nat.le_of_ble_eq_true rfl) dL_law_1759 (fun H locs cells slots hw => ?_)
  refine lv_icmp_eq (tgt := 3358) hx hb dL_law_1762 (by decide) (fun c467 => ?_) (fun c467 => ?_)
  · replace hf := (if_pos c467).symm.trans hf
    exact L_law_3358_W hC hQ hst h_28 hf hw (lv_sub hl [0, 1, 2, 3, 4, 5] rfl)
  · replace hf := (if_neg c467).symm.trans hf
    refine lv_iconst (v := 0) hx hb dL_law_1765 (by decide) ?_
    cases hf
    exact hQ _ _ _ _ _ _ dL_law_1766 gz0 hw

def L_law_1821 (E : gE) (r_28 : Nat → Nat → Nat → Nat → Nat → Int32 → gS → Option (Int32 × gS)) (l0 : Nat) (l1 : Nat) (l2 : Nat) (l3 : Nat) (l4 : Nat) (l5 : Int32) (s0 : Int64) (s1 : Int64) (σ : gS) : Option (Int32 × gS) :=
  if (lg_cmp s1 s0) = 0 then
    L_law_3358 E r_28 l0 l1 l2 l3 l4 l5 σ
  else
    some ((0 : Int32), σ)
set_option maxHeartbeats 4000000 in
set_option maxRecDepth 100000 in
theorem L_law_1821_W {σ : gS} {l0 : Nat} {l1 : Nat} {l2 : Nat} {l3 : Nat} {l4 : Nat} {l5 : Int32} {s0 : Int64} {s1 : Int64} {res : (Int32 × gS)} {ls : Array Slot} (hC : gC E D A p R s m args meth c cL_law 10 RL nm 11 259) (hQ : gQI E D A p l e R s m args below meth c Q cL_law FieldType.boolean res) (hst : l.stackTraces = false) {r_28 : Nat → Nat → Nat → Nat → Nat → Int32 → gS → Option (Int32 × gS)} (h_28 : ∀ {l0 : Nat} {l1 : Nat} {l2 : Nat} {l3 : Nat} {l4 : Nat} {l5 : Int32} {σ : gS} {H : Heap} {locs : List Loc} {cells slots : Nat} {ls : Array Slot}, r_28 l0 l1 l2 l3 l4 l5 σ = some res → gW E D A s σ H locs → lv_has ls 10 [(0, .ref l0), (1, .ref l1), (2, .ref l2), (3, .ref l3), (4, .ref l4), (5, .int l5)] → W p l e R s m args below meth c H locs cells slots Q (F0 m 28 ls [])) (hf : L_law_1821 E r_28 l0 l1 l2 l3 l4 l5 s0 s1 σ = some res) (hw : gW E D A s σ H locs) (hl : lv_has ls 10 [(0, .ref l0), (1, .ref l1), (2, .ref l2), (3, .ref l3), (4, .ref l4), (5, .int l5)]) : W p l e R s m args below meth c H locs cells slots Q (F0 m 1821 ls [.long s0, .long s1]) := by
  have hC0 := hC
  obtain ⟨hx, hb, hml, hown, hts, -⟩ := hC0
  unfold L_law_1821 at hf
  refine W.lcmp hx hb dL_law_1821 ?_
  refine lv_if_eq (tgt := 1827) hx hb dL_law_1822 (by decide) (fun c468 => ?_) (fun c468 => ?_)
  · replace hf := (if_pos c468).symm.trans hf
    refine lv_goto (tgt := 3358) hx hb dL_law_1827 (by decide) ?_
    exact L_law_3358_W hC hQ hst h_28 hf hw (lv_sub hl [0, 1, 2, 3, 4, 5] rfl)
  · replace hf := (if_neg c468).symm.trans hf
    refine lv_iconst (v := 0) hx hb dL_law_1825 (by decide) ?_
    cases hf
    exact hQ _ _ _ _ _ _ dL_law_1826 gz0 hw

end ML0
