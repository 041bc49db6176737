/-! decompiled: the law -/
section ML2
variable {p : Program} {l : Launch} {e : Env} {R : Room} {s : State} {m : MethodId} {args : Array Value} {below : List Frame} {meth : Method} {c : Code} {H : Heap} {locs : List Loc} {cells slots : Nat} {Q : State → Prop} {nm : String} {E : gE} {D : va_G} {A : Nat → Prop}
def L_law_3259 (E : gE) (r_28 : Nat → Nat → Nat → Nat → Nat → Int32 → gS → Option (Int32 × gS)) (l0 : Nat) (l1 : Nat) (l2 : Nat) (l3 : Nat) (l4 : Nat) (l5 : Int32) (σ : gS) : Option (Int32 × gS) :=
  ob (L_undo_f E l1 l3 σ) fun x938 =>
  ob (gcl x938.2 l2 11) fun _ =>
  ob (X13_undo_f E l2 x938.2) fun x940 =>
  ob (gcl x940.2 l2 11) fun _ =>
  ob (X13_thrown_f E x940.2 l2) fun x943 =>
  if x943 = x938.1 then
    if x938.1 = 0 then
      ob (graJ E x940.2 l3 (0 : Int32)) fun x946 =>
      if (lg_cmp x946 ((x940.1).toInt64)) = 0 then
        L_law_3358 E r_28 l0 l1 l2 l3 l4 l5 x940.2
      else
        some ((0 : Int32), x940.2)
    else
      L_law_3358 E r_28 l0 l1 l2 l3 l4 l5 x940.2
  else
    some ((0 : Int32), x940.2)
set_option maxHeartbeats 4000000 in
set_option maxRecDepth 100000 in
theorem L_law_3259_W {σ : gS} {l0 : Nat} {l1 : Nat} {l2 : Nat} {l3 : Nat} {l4 : Nat} {l5 : Int32} {res : (Int32 × gS)} {ls : Array Slot} (hC : gC E D A p R s m args meth c cL_law 10 RL nm 11 259) (hQ : gQI E D A p l e R s m args below meth c Q cL_law FieldType.boolean res) (hst : l.stackTraces = false) {r_28 : Nat → Nat → Nat → Nat → Nat → Int32 → gS → Option (Int32 × gS)} (h_28 : ∀ {l0 : Nat} {l1 : Nat} {l2 : Nat} {l3 : Nat} {l4 : Nat} {l5 : Int32} {σ : gS} {H : Heap} {locs : List Loc} {cells slots : Nat} {ls : Array Slot}, r_28 l0 l1 l2 l3 l4 l5 σ = some res → gW E D A s σ H locs → lv_has ls 10 [(0, .ref l0), (1, .ref l1), (2, .ref l2), (3, .ref l3), (4, .ref l4), (5, .int l5)] → W p l e R s m args below meth c H locs cells slots Q (F0 m 28 ls [])) (hf : L_law_3259 E r_28 l0 l1 l2 l3 l4 l5 σ = some res) (hw : gW E D A s σ H locs) (hl : lv_has ls 10 [(0, .ref l0), (1, .ref l1), (2, .ref l2), (3, .ref l3), (4, .ref l4), (5, .int l5)]) : W p l e R s m args below meth c H locs cells slots Q (F0 m 3259 ls []) := by
  have hC0 := hC
  obtain ⟨hx, hb, hml, hown, hts, -⟩ := hC0
  unfold L_law_3259 at hf
  refine lv_aload_n hx hb dL_law_3259 rfl (lv_at hl 1 rfl) ?_
  refine lv_aload_n hx hb dL_law_3260 rfl (lv_at hl 3 rfl) ?_
  obtain ⟨x938, h939, hf⟩ := ob_some hf
  refine gg_yHI (As := [.ref l1, .ref l3]) hC hw (L_undo_M l hst E D A h939) g_ml_L_369 hd_L_undo.2 (Nat.le_of_ble_eq_true rfl) (Nat.le_of_ble_eq_true rfl) hl.1 rfl (Nat.le_of_ble_eq_true rfl) dL_law_3261 (fun _ _ he => nomatch (congrArg Prod.fst he)) (fun r9 σ9 he H locs cells slots hw => ?_)
  cases he
  refine lv_istore (lv' := [(6, .int x938.1), (0, .ref l0), (1, .ref l1), (2, .ref l2), (3, .ref l3), (4, .ref l4), (5, .int l5)]) hx hb dL_law_3264 hl (by decide) rfl (fun ls hl => ?_)
  refine lv_aload_n hx hb dL_law_3266 rfl (lv_at hl 3 rfl) ?_
  obtain ⟨_, h942, hf⟩ := ob_some hf
  obtain ⟨x940, h941, hf⟩ := ob_some hf
  refine gg_cVI (As := []) hC hw (X13_undo_M l E D A h941) h942 rfl g_ml_L_372 hd_X13_undo (Nat.le_of_ble_eq_true rfl) (Nat.le_of_ble_eq_true rfl) hl.1 rfl (Nat.le_of_ble_eq_true rfl) dL_law_3267 (fun H locs cells slots hw => ?_)
  refine lv_istore (lv' := [(7, .int x940.1), (6, .int x938.1), (0, .ref l0), (1, .ref l1), (2, .ref l2), (3, .ref l3), (4, .ref l4), (5, .int l5)]) hx hb dL_law_3270 hl (by decide) rfl (fun ls hl => ?_)
  refine lv_aload_n hx hb dL_law_3272 rfl (lv_at hl 4 rfl) ?_
  obtain ⟨_, h945, hf⟩ := ob_some hf
  obtain ⟨x943, h944, hf⟩ := ob_some hf
  refine gg_cVI (As := []) hC hw (X13_thrown_M l E D A h944) h945 rfl g_ml_L_174 hd_X13_thrown (Nat.le_of_ble_eq_true rfl) (Nat.le_of_ble_eq_true rfl) hl.1 rfl (Nat.le_of_ble_eq_true rfl) dL_law_3273 (fun H locs cells slots hw => ?_)
  refine lv_iload hx hb dL_law_3276 (lv_at hl 1 rfl) ?_
  refine lv_icmp_eq (tgt := 3283) hx hb dL_law_3278 (by decide) (fun c950 => ?_) (fun c950 => ?_)
  · replace hf := (if_pos c950).symm.trans hf
    refine lv_iload hx hb dL_law_3283 (lv_at hl 1 rfl) ?_
    refine lv_if_ne (tgt := 3300) hx hb dL_law_3285 (by decide) (fun c949 => ?_) (fun c949 => ?_)
    · replace hf := (if_neg c949).symm.trans hf
      refine lv_goto (tgt := 3358) hx hb dL_law_3300 (by decide) ?_
      exact L_law_3358_W hC hQ hst h_28 hf hw (lv_sub hl [2, 3, 4, 5, 6, 7] rfl)
    · replace hf := (if_pos c949).symm.trans hf
      refine lv_aload_n hx hb dL_law_3288 rfl (lv_at hl 5 rfl) ?_
      refine lv_iconst (v := 0) hx hb dL_law_3289 (by decide) ?_
      obtain ⟨x946, h947, hf⟩ := ob_some hf
      refine gg_aldJ hC hw h947 dL_law_3290 ?_
      refine lv_iload hx hb dL_law_3291 (lv_at hl 0 rfl) ?_
      refine lv_i2l (v := (x940.1).toInt64) hx hb dL_law_3293 rfl ?_
      refine W.lcmp hx hb dL_law_3294 ?_
      refine lv_if_eq (tgt := 3300) hx hb dL_law_3295 (by decide) (fun c948 => ?_) (fun c948 => ?_)
      · replace hf := (if_pos c948).symm.trans hf
        refine lv_goto (tgt := 3358) hx hb dL_law_3300 (by decide) ?_
        exact L_law_3358_W hC hQ hst h_28 hf hw (lv_sub hl [2, 3, 4, 5, 6, 7] rfl)
      · replace hf := (if_neg c948).symm.trans hf
        refine lv_iconst (v := 0) hx hb dL_law_3298 (by decide) ?_
        cases hf
        exact hQ _ _ _ _ _ _ dL_law_3299 gz0 hw
  · replace hf := (if_neg c950).symm.trans hf
    refine lv_iconst (v := 0) hx hb dL_law_3281 (by decide) ?_
    cases hf
    exact hQ _ _ _ _ _ _ dL_law_3282 gz0 hw

def L_law_3303 (E : gE) (r_28 : Nat → Nat → Nat → Nat → Nat → Int32 → gS → Option (Int32 × gS)) (l0 : Nat) (l1 : Nat) (l2 : Nat) (l3 : Nat) (l4 : Nat) (l5 : Int32) (σ : gS) : Option (Int32 × gS) :=
  ob (gcl σ l1 10) fun _ =>
  ob (X12_saveSnapshot_f E l1 σ) fun x951 =>
  ob (gcl x951 l2 11) fun _ =>
  ob (X13_saveSnapshot_f E l2 x951) fun x954 =>
  L_law_3358 E r_28 l0 l1 l2 l3 l4 l5 x954
set_option maxHeartbeats 4000000 in
set_option maxRecDepth 100000 in
theorem L_law_3303_W {σ : gS} {l0 : Nat} {l1 : Nat} {l2 : Nat} {l3 : Nat} {l4 : Nat} {l5 : Int32} {res : (Int32 × gS)} {ls : Array Slot} (hC : gC E D A p R s m args meth c cL_law 10 RL nm 11 259) (hQ : gQI E D A p l e R s m args below meth c Q cL_law FieldType.boolean res) (hst : l.stackTraces = false) {r_28 : Nat → Nat → Nat → Nat → Nat → Int32 → gS → Option (Int32 × gS)} (h_28 : ∀ {l0 : Nat} {l1 : Nat} {l2 : Nat} {l3 : Nat} {l4 : Nat} {l5 : Int32} {σ : gS} {H : Heap} {locs : List Loc} {cells slots : Nat} {ls : Array Slot}, r_28 l0 l1 l2 l3 l4 l5 σ = some res → gW E D A s σ H locs → lv_has ls 10 [(0, .ref l0), (1, .ref l1), (2, .ref l2), (3, .ref l3), (4, .ref l4), (5, .int l5)] → W p l e R s m args below meth c H locs cells slots Q (F0 m 28 ls [])) (hf : L_law_3303 E r_28 l0 l1 l2 l3 l4 l5 σ = some res) (hw : gW E D A s σ H locs) (hl : lv_has ls 10 [(0, .ref l0), (1, .ref l1), (2, .ref l2), (3, .ref l3), (4, .ref l4), (5, .int l5)]) : W p l e R s m args below meth c H locs cells slots Q (F0 m 3303 ls []) := by
  have hC0 := hC
  obtain ⟨hx, hb, hml, hown, hts, -⟩ := hC0
  unfold L_law_3303 at hf
  refine lv_aload_n hx hb dL_law_3303 rfl (lv_at hl 1 rfl) ?_
  obtain ⟨_, h953, hf⟩ := ob_some hf
  obtain ⟨x951, h952, hf⟩ := ob_some hf
  refine gg_cVV (As := []) hC hw (X12_saveSnapshot_M l E D A h952) h953 rfl g_ml_L_373 hd_X12_saveSnapshot (Nat.le_of_ble_eq_true rfl) (Nat.le_of_ble_eq_true rfl) hl.1 rfl (Nat.le_of_ble_eq_true rfl) dL_law_3304 (fun H locs cells slots hw => ?_)
  refine lv_aload_n hx hb dL_law_3307 rfl (lv_at hl 2 rfl) ?_
  obtain ⟨_, h956, hf⟩ := ob_some hf
  obtain ⟨x954, h955, hf⟩ := ob_some hf
  refine gg_cVV (As := []) hC hw (X13_saveSnapshot_M l E D A h955) h956 rfl g_ml_L_376 hd_X13_saveSnapshot (Nat.le_of_ble_eq_true rfl) (Nat.le_of_ble_eq_true rfl) hl.1 rfl (Nat.le_of_ble_eq_true rfl) dL_law_3308 (fun H locs cells slots hw => ?_)
  refine lv_goto (tgt := 3358) hx hb dL_law_3311 (by decide) ?_
  exact L_law_3358_W hC hQ hst h_28 hf hw (lv_sub hl [0, 1, 2, 3, 4, 5] rfl)

def L_law_3314 (E : gE) (r_28 : Nat → Nat → Nat → Nat → Nat → Int32 → gS → Option (Int32 × gS)) (l0 : Nat) (l1 : Nat) (l2 : Nat) (l3 : Nat) (l4 : Nat) (l5 : Int32) (σ : gS) : Option (Int32 × gS) :=
  ob (L_restoreSnapshot_f E l1 l3 σ) fun x957 =>
  ob (gcl x957.2 l2 11) fun _ =>
  ob (X13_restoreSnapshot_f E l2 x957.2) fun x959 =>
  ob (gcl x959.2 l2 11) fun _ =>
  ob (X13_thrown_f E x959.2 l2) fun x962 =>
  if x962 = x957.1 then
    if x957.1 = 0 then
      ob (graJ E x959.2 l3 (0 : Int32)) fun x965 =>
      if (lg_cmp x965 ((x959.1).toInt64)) = 0 then
        L_law_3358 E r_28 l0 l1 l2 l3 l4 l5 x959.2
      else
        some ((0 : Int32), x959.2)
    else
      L_law_3358 E r_28 l0 l1 l2 l3 l4 l5 x959.2
  else
    some ((0 : Int32), x959.2)
set_option maxHeartbeats 4000000 in
set_option maxRecDepth 100000 in
theorem L_law_3314_W {σ : gS} {l0 : Nat} {l1 : Nat} {l2 : Nat} {l3 : Nat} {l4 : Nat} {l5 : Int32} {res : (Int32 × gS)} {ls : Array Slot} (hC : gC E D A p R s m args meth c cL_law 10 RL nm 11 259) (hQ : gQI E D A p l e R s m args below meth c Q cL_law FieldType.boolean res) (hst : l.stackTraces = false) {r_28 : Nat → Nat → Nat → Nat → Nat → Int32 → gS → Option (Int32 × gS)} (h_28 : ∀ {l0 : Nat} {l1 : Nat} {l2 : Nat} {l3 : Nat} {l4 : Nat} {l5 : Int32} {σ : gS} {H : Heap} {locs : List Loc} {cells slots : Nat} {ls : Array Slot}, r_28 l0 l1 l2 l3 l4 l5 σ = some res → gW E D A s σ H locs → lv_has ls 10 [(0, .ref l0), (1, .ref l1), (2, .ref l2), (3, .ref l3), (4, .ref l4), (5, .int l5)] → W p l e R s m args below meth c H locs cells slots Q (F0 m 28 ls [])) (hf : L_law_3314 E r_28 l0 l1 l2 l3 l4 l5 σ = some res) (hw : gW E D A s σ H locs) (hl : lv_has ls 10 [(0, .ref l0), (1, .ref l1), (2, .ref l2), (3, .ref l3), (4, .ref l4), (5, .int l5)]) : W p l e R s m args below meth c H locs cells slots Q (F0 m 3314 ls []) := by
  have hC0 := hC
  obtain ⟨hx, hb, hml, hown, hts, -⟩ := hC0
  unfold L_law_3314 at hf
  refine lv_aload_n hx hb dL_law_3314 rfl (lv_at hl 1 rfl) ?_
  refine lv_aload_n hx hb dL_law_3315 rfl (lv_at hl 3 rfl) ?_
  obtain ⟨x957, h958, hf⟩ := ob_some hf
  refine gg_yHI (As := [.ref l1, .ref l3]) hC hw (L_restoreSnapshot_M l hst E D A h958) g_ml_L_377 hd_L_restoreSnapshot.2 (Nat.le_of_ble_eq_true rfl) (Nat.le_of_ble_eq_true rfl) hl.1 rfl (Nat.le_of_ble_eq_true rfl) dL_law_3316 (fun _ _ he => nomatch (congrArg Prod.fst he)) (fun r9 σ9 he H locs cells slots hw => ?_)
  cases he
  refine lv_istore (lv' := [(6, .int x957.1), (0, .ref l0), (1, .ref l1), (2, .ref l2), (3, .ref l3), (4, .ref l4), (5, .int l5)]) hx hb dL_law_3319 hl (by decide) rfl (fun ls hl => ?_)
  refine lv_aload_n hx hb dL_law_3321 rfl (lv_at hl 3 rfl) ?_
  obtain ⟨_, h961, hf⟩ := ob_some hf
  obtain ⟨x959, h960, hf⟩ := ob_some hf
  refine gg_cVI (As := []) hC hw (X13_restoreSnapshot_M l E D A h960) h961 rfl g_ml_L_379 hd_X13_restoreSnapshot (Nat.le_of_ble_eq_true rfl) (Nat.le_of_ble_eq_true rfl) hl.1 rfl (Nat.le_of_ble_eq_true rfl) dL_law_3322 (fun H locs cells slots hw => ?_)
  refine lv_istore (lv' := [(7, .int x959.1), (6, .int x957.1), (0, .ref l0), (1, .ref l1), (2, .ref l2), (3, .ref l3), (4, .ref l4), (5, .int l5)]) hx hb dL_law_3325 hl (by decide) rfl (fun ls hl => ?_)
  refine lv_aload_n hx hb dL_law_3327 rfl (lv_at hl 4 rfl) ?_
  obtain ⟨_, h964, hf⟩ := ob_some hf
  obtain ⟨x962, h963, hf⟩ := ob_some hf
  refine gg_cVI (As := []) hC hw (X13_thrown_M l E D A h963) h964 rfl g_ml_L_174 hd_X13_thrown (Nat.le_of_ble_eq_true rfl) (Nat.le_of_ble_eq_true rfl) hl.1 rfl (Nat.le_of_ble_eq_true rfl) dL_law_3328 (fun H locs cells slots hw => ?_)
  refine lv_iload hx hb dL_law_3331 (lv_at hl 1 rfl) ?_
  refine lv_icmp_eq (tgt := 3338) hx hb dL_law_3333 (by decide) (fun c969 => ?_) (fun c969 => ?_)
  · replace hf := (if_pos c969).symm.trans hf
    refine lv_iload hx hb dL_law_3338 (lv_at hl 1 rfl) ?_
    refine lv_if_ne (tgt := 3355) hx hb dL_law_3340 (by decide) (fun c968 => ?_) (fun c968 => ?_)
    · replace hf := (if_neg c968).symm.trans hf
      refine lv_goto (tgt := 3358) hx hb dL_law_3355 (by decide) ?_
      exact L_law_3358_W hC hQ hst h_28 hf hw (lv_sub hl [2, 3, 4, 5, 6, 7] rfl)
    · replace hf := (if_pos c968).symm.trans hf
      refine lv_aload_n hx hb dL_law_3343 rfl (lv_at hl 5 rfl) ?_
      refine lv_iconst (v := 0) hx hb dL_law_3344 (by decide) ?_
      obtain ⟨x965, h966, hf⟩ := ob_some hf
      refine gg_aldJ hC hw h966 dL_law_3345 ?_
      refine lv_iload hx hb dL_law_3346 (lv_at hl 0 rfl) ?_
      refine lv_i2l (v := (x959.1).toInt64) hx hb dL_law_3348 rfl ?_
      refine W.lcmp hx hb dL_law_3349 ?_
      refine lv_if_eq (tgt := 3355) hx hb dL_law_3350 (by decide) (fun c967 => ?_) (fun c967 => ?_)
      · replace hf := (if_pos c967).symm.trans hf
        refine lv_goto (tgt := 3358) hx hb dL_law_3355 (by decide) ?_
        exact L_law_3358_W hC hQ hst h_28 hf hw (lv_sub hl [2, 3, 4, 5, 6, 7] rfl)
      · replace hf := (if_neg c967).symm.trans hf
        refine lv_iconst (v := 0) hx hb dL_law_3353 (by decide) ?_
        cases hf
        exact hQ _ _ _ _ _ _ dL_law_3354 gz0 hw
  · replace hf := (if_neg c969).symm.trans hf
    refine lv_iconst (v := 0) hx hb dL_law_3336 (by decide) ?_
    cases hf
    exact hQ _ _ _ _ _ _ dL_law_3337 gz0 hw

def L_law_28_s (E : gE) (r_28 : Nat → Nat → Nat → Nat → Nat → Int32 → gS → Option (Int32 × gS)) (l0 : Nat) (l1 : Nat) (l2 : Nat) (l3 : Nat) (l4 : Nat) (l5 : Int32) (σ : gS) : Option (Int32 × gS) :=
  ob (gal E 0 σ l0) fun x970 =>
  if (x970 - (6 : Int32)) < l5 then
    some ((1 : Int32), σ)
  else
    ob (graI E 0 σ l0 l5) fun x972 =>
    if (x972 &&& (63 : Int32)) = (0 : Int32) then
      L_law_308 E r_28 l0 l1 l2 l3 l4 l5 σ
    else
      if (x972 &&& (63 : Int32)) = (1 : Int32) then
        L_law_381 E r_28 l0 l1 l2 l3 l4 l5 σ
      else
        if (x972 &&& (63 : Int32)) = (2 : Int32) then
          L_law_437 E r_28 l0 l1 l2 l3 l4 l5 σ
        else
          if (x972 &&& (63 : Int32)) = (3 : Int32) then
            L_law_450 E r_28 l0 l1 l2 l3 l4 l5 σ
          else
            if (x972 &&& (63 : Int32)) = (4 : Int32) then
              L_law_463 E r_28 l0 l1 l2 l3 l4 l5 σ
            else
              if (x972 &&& (63 : Int32)) = (5 : Int32) then
                L_law_476 E r_28 l0 l1 l2 l3 l4 l5 σ
              else
                if (x972 &&& (63 : Int32)) = (6 : Int32) then
                  L_law_489 E r_28 l0 l1 l2 l3 l4 l5 σ
                else
                  if (x972 &&& (63 : Int32)) = (7 : Int32) then
                    L_law_557 E r_28 l0 l1 l2 l3 l4 l5 σ
                  else
                    if (x972 &&& (63 : Int32)) = (8 : Int32) then
                      L_law_625 E r_28 l0 l1 l2 l3 l4 l5 σ
                    else
                      if (x972 &&& (63 : Int32)) = (9 : Int32) then
                        L_law_681 E r_28 l0 l1 l2 l3 l4 l5 σ
                      else
                        if (x972 &&& (63 : Int32)) = (10 : Int32) then
                          L_law_749 E r_28 l0 l1 l2 l3 l4 l5 σ
                        else
                          if (x972 &&& (63 : Int32)) = (11 : Int32) then
                            L_law_817 E r_28 l0 l1 l2 l3 l4 l5 σ
                          else
                            if (x972 &&& (63 : Int32)) = (12 : Int32) then
                              L_law_873 E r_28 l0 l1 l2 l3 l4 l5 σ
                            else
                              if (x972 &&& (63 : Int32)) = (13 : Int32) then
                                L_law_941 E r_28 l0 l1 l2 l3 l4 l5 σ
                              else
                                if (x972 &&& (63 : Int32)) = (14 : Int32) then
                                  L_law_997 E r_28 l0 l1 l2 l3 l4 l5 σ
                                else
                                  if (x972 &&& (63 : Int32)) = (15 : Int32) then
                                    L_law_1053 E r_28 l0 l1 l2 l3 l4 l5 σ
                                  else
                                    if (x972 &&& (63 : Int32)) = (16 : Int32) then
                                      L_law_1109 E r_28 l0 l1 l2 l3 l4 l5 σ
                                    else
                                      if (x972 &&& (63 : Int32)) = (17 : Int32) then
                                        L_law_1176 E r_28 l0 l1 l2 l3 l4 l5 σ
                                      else
                                        if (x972 &&& (63 : Int32)) = (18 : Int32) then
                                          L_law_1189 E r_28 l0 l1 l2 l3 l4 l5 σ
                                        else
                                          if (x972 &&& (63 : Int32)) = (19 : Int32) then
                                            L_law_1230 E r_28 l0 l1 l2 l3 l4 l5 σ
                                          else
                                            if (x972 &&& (63 : Int32)) = (20 : Int32) then
                                              L_law_1286 E r_28 l0 l1 l2 l3 l4 l5 σ
                                            else
                                              if (x972 &&& (63 : Int32)) = (21 : Int32) then
                                                L_law_1342 E r_28 l0 l1 l2 l3 l4 l5 σ
                                              else
                                                if (x972 &&& (63 : Int32)) = (22 : Int32) then
                                                  L_law_1405 E r_28 l0 l1 l2 l3 l4 l5 σ
                                                else
                                                  if (x972 &&& (63 : Int32)) = (23 : Int32) then
                                                    L_law_1418 E r_28 l0 l1 l2 l3 l4 l5 σ
                                                  else
                                                    if (x972 &&& (63 : Int32)) = (24 : Int32) then
                                                      L_law_1474 E r_28 l0 l1 l2 l3 l4 l5 σ
                                                    else
                                                      if (x972 &&& (63 : Int32)) = (25 : Int32) then
                                                        L_law_1530 E r_28 l0 l1 l2 l3 l4 l5 σ
                                                      else
                                                        if (x972 &&& (63 : Int32)) = (26 : Int32) then
                                                          L_law_1586 E r_28 l0 l1 l2 l3 l4 l5 σ
                                                        else
                                                          if (x972 &&& (63 : Int32)) = (27 : Int32) then
                                                            L_law_1642 E r_28 l0 l1 l2 l3 l4 l5 σ
                                                          else
                                                            if (x972 &&& (63 : Int32)) = (28 : Int32) then
                                                              L_law_1698 E r_28 l0 l1 l2 l3 l4 l5 σ
                                                            else
                                                              if (x972 &&& (63 : Int32)) = (29 : Int32) then
                                                                L_law_1754 E r_28 l0 l1 l2 l3 l4 l5 σ
                                                              else
                                                                if (x972 &&& (63 : Int32)) = (30 : Int32) then
                                                                  L_law_1767 E r_28 l0 l1 l2 l3 l4 l5 σ
                                                                else
                                                                  if (x972 &&& (63 : Int32)) = (31 : Int32) then
                                                                    L_law_1830 E r_28 l0 l1 l2 l3 l4 l5 σ
                                                                  else
                                                                    if (x972 &&& (63 : Int32)) = (32 : Int32) then
                                                                      L_law_1843 E r_28 l0 l1 l2 l3 l4 l5 σ
                                                                    else
                                                                      if (x972 &&& (63 : Int32)) = (33 : Int32) then
                                                                        L_law_1868 E r_28 l0 l1 l2 l3 l4 l5 σ
                                                                      else
                                                                        if (x972 &&& (63 : Int32)) = (34 : Int32) then
                                                                          L_law_1924 E r_28 l0 l1 l2 l3 l4 l5 σ
                                                                        else
                                                                          if (x972 &&& (63 : Int32)) = (35 : Int32) then
                                                                            L_law_1979 E r_28 l0 l1 l2 l3 l4 l5 σ
                                                                          else
                                                                            if (x972 &&& (63 : Int32)) = (36 : Int32) then
                                                                              L_law_2035 E r_28 l0 l1 l2 l3 l4 l5 σ
                                                                            else
                                                                              if (x972 &&& (63 : Int32)) = (37 : Int32) then
                                                                                L_law_2091 E r_28 l0 l1 l2 l3 l4 l5 σ
                                                                              else
                                                                                if (x972 &&& (63 : Int32)) = (38 : Int32) then
                                                                                  L_law_2147 E r_28 l0 l1 l2 l3 l4 l5 σ
                                                                                else
                                                                                  if (x972 &&& (63 : Int32)) = (39 : Int32) then
                                                                                    L_law_2224 E r_28 l0 l1 l2 l3 l4 l5 σ
                                                                                  else
                                                                                    if (x972 &&& (63 : Int32)) = (40 : Int32) then
                                                                                      L_law_2267 E r_28 l0 l1 l2 l3 l4 l5 σ
                                                                                    else
                                                                                      if (x972 &&& (63 : Int32)) = (41 : Int32) then
                                                                                        L_law_2335 E r_28 l0 l1 l2 l3 l4 l5 σ
                                                                                      else
                                                                                        if (x972 &&& (63 : Int32)) = (42 : Int32) then
                                                                                          L_law_2391 E r_28 l0 l1 l2 l3 l4 l5 σ
                                                                                        else
                                                                                          if (x972 &&& (63 : Int32)) = (43 : Int32) then
                                                                                            L_law_2447 E r_28 l0 l1 l2 l3 l4 l5 σ
                                                                                          else
                                                                                            if (x972 &&& (63 : Int32)) = (44 : Int32) then
                                                                                              L_law_2460 E r_28 l0 l1 l2 l3 l4 l5 σ
                                                                                            else
                                                                                              if (x972 &&& (63 : Int32)) = (45 : Int32) then
                                                                                                L_law_2473 E r_28 l0 l1 l2 l3 l4 l5 σ
                                                                                              else
                                                                                                if (x972 &&& (63 : Int32)) = (46 : Int32) then
                                                                                                  L_law_2529 E r_28 l0 l1 l2 l3 l4 l5 σ
                                                                                                else
                                                                                                  if (x972 &&& (63 : Int32)) = (47 : Int32) then
                                                                                                    L_law_2585 E r_28 l0 l1 l2 l3 l4 l5 σ
                                                                                                  else
                                                                                                    if (x972 &&& (63 : Int32)) = (48 : Int32) then
                                                                                                      L_law_2665 E r_28 l0 l1 l2 l3 l4 l5 σ
                                                                                                    else
                                                                                                      if (x972 &&& (63 : Int32)) = (49 : Int32) then
                                                                                                        L_law_2749 E r_28 l0 l1 l2 l3 l4 l5 σ
                                                                                                      else
                                                                                                        if (x972 &&& (63 : Int32)) = (50 : Int32) then
                                                                                                          L_law_2817 E r_28 l0 l1 l2 l3 l4 l5 σ
                                                                                                        else
                                                                                                          if (x972 &&& (63 : Int32)) = (51 : Int32) then
                                                                                                            L_law_2885 E r_28 l0 l1 l2 l3 l4 l5 σ
                                                                                                          else
                                                                                                            if (x972 &&& (63 : Int32)) = (52 : Int32) then
                                                                                                              L_law_2953 E r_28 l0 l1 l2 l3 l4 l5 σ
                                                                                                            else
                                                                                                              if (x972 &&& (63 : Int32)) = (53 : Int32) then
                                                                                                                L_law_3009 E r_28 l0 l1 l2 l3 l4 l5 σ
                                                                                                              else
                                                                                                                if (x972 &&& (63 : Int32)) = (54 : Int32) then
                                                                                                                  L_law_3022 E r_28 l0 l1 l2 l3 l4 l5 σ
                                                                                                                else
                                                                                                                  if (x972 &&& (63 : Int32)) = (55 : Int32) then
                                                                                                                    L_law_3078 E r_28 l0 l1 l2 l3 l4 l5 σ
                                                                                                                  else
                                                                                                                    if (x972 &&& (63 : Int32)) = (56 : Int32) then
                                                                                                                      L_law_3134 E r_28 l0 l1 l2 l3 l4 l5 σ
                                                                                                                    else
                                                                                                                      if (x972 &&& (63 : Int32)) = (57 : Int32) then
                                                                                                                        L_law_3190 E r_28 l0 l1 l2 l3 l4 l5 σ
                                                                                                                      else
                                                                                                                        if (x972 &&& (63 : Int32)) = (58 : Int32) then
                                                                                                                          L_law_3246 E r_28 l0 l1 l2 l3 l4 l5 σ
                                                                                                                        else
                                                                                                                          if (x972 &&& (63 : Int32)) = (59 : Int32) then
                                                                                                                            L_law_3259 E r_28 l0 l1 l2 l3 l4 l5 σ
                                                                                                                          else
                                                                                                                            if (x972 &&& (63 : Int32)) = (60 : Int32) then
                                                                                                                              L_law_3303 E r_28 l0 l1 l2 l3 l4 l5 σ
                                                                                                                            else
                                                                                                                              if (x972 &&& (63 : Int32)) = (61 : Int32) then
                                                                                                                                L_law_3314 E r_28 l0 l1 l2 l3 l4 l5 σ
                                                                                                                              else
                                                                                                                                L_law_3358 E r_28 l0 l1 l2 l3 l4 l5 σ
set_option maxHeartbeats 4000000 in
set_option maxRecDepth 100000 in
theorem L_law_28_s_W {σ : gS} {l0 : Nat} {l1 : Nat} {l2 : Nat} {l3 : Nat} {l4 : Nat} {l5 : Int32} {res : (Int32 × gS)} {ls : Array Slot} (hC : gC E D A p R s m args meth c cL_law 10 RL nm 11 259) (hQ : gQI E D A p l e R s m args below meth c Q cL_law FieldType.boolean res) (hst : l.stackTraces = false) {r_28 : Nat → Nat → Nat → Nat → Nat → Int32 → gS → Option (Int32 × gS)} (h_28 : ∀ {l0 : Nat} {l1 : Nat} {l2 : Nat} {l3 : Nat} {l4 : Nat} {l5 : Int32} {σ : gS} {H : Heap} {locs : List Loc} {cells slots : Nat} {ls : Array Slot}, r_28 l0 l1 l2 l3 l4 l5 σ = some res → gW E D A s σ H locs → lv_has ls 10 [(0, .ref l0), (1, .ref l1), (2, .ref l2), (3, .ref l3), (4, .ref l4), (5, .int l5)] → W p l e R s m args below meth c H locs cells slots Q (F0 m 28 ls [])) (hf : L_law_28_s E r_28 l0 l1 l2 l3 l4 l5 σ = some res) (hw : gW E D A s σ H locs) (hl : lv_has ls 10 [(0, .ref l0), (1, .ref l1), (2, .ref l2), (3, .ref l3), (4, .ref l4), (5, .int l5)]) : W p l e R s m args below meth c H locs cells slots Q (F0 m 28 ls []) := by
  have hC0 := hC
  obtain ⟨hx, hb, hml, hown, hts, -⟩ := hC0
  unfold L_law_28_s at hf
  refine lv_iload hx hb dL_law_28 (lv_at hl 5 rfl) ?_
  refine lv_aload_n hx hb dL_law_30 rfl (lv_at hl 0 rfl) ?_
  obtain ⟨x970, h971, hf⟩ := ob_some hf
  refine gg_alen hC hw h971 (Or.inr rfl) dL_law_31 ?_
  refine lv_bipush (v := 6) hx hb dL_law_32 (by decide) ?_
  refine lv_isub hx hb dL_law_34 ?_
  refine lv_icmp_gt (tgt := 3364) hx hb dL_law_35 (by decide) (fun c1036 => ?_) (fun c1036 => ?_)
  · replace hf := (if_pos c1036).symm.trans hf
    refine lv_iconst (v := 1) hx hb dL_law_3364 (by decide) ?_
    cases hf
    exact hQ _ _ _ _ _ _ dL_law_3365 gz1 hw
  · replace hf := (if_neg c1036).symm.trans hf
    refine lv_aload_n hx hb dL_law_38 rfl (lv_at hl 0 rfl) ?_
    refine lv_iload hx hb dL_law_39 (lv_at hl 5 rfl) ?_
    obtain ⟨x972, h973, hf⟩ := ob_some hf
    refine gg_aldI hC hw h973 dL_law_41 ?_
    refine lv_bipush (v := 63) hx hb dL_law_42 (by decide) ?_
    refine lv_iand hx hb dL_law_44 ?_
    by_cases c974 : (x972 &&& (63 : Int32)) = (0 : Int32)
    · replace hf := (if_pos c974).symm.trans hf
      refine lv_tableIn (off := 263) (tgt := 308) hx hb dL_law_45 (by rw [c974]; decide) (by rw [c974]; decide) (by rw [c974]; rfl) (by decide) ?_
      exact L_law_308_W hC hQ hst h_28 hf hw (lv_sub hl [0, 1, 2, 3, 4, 5] rfl)
    · replace hf := (if_neg c974).symm.trans hf
      by_cases c975 : (x972 &&& (63 : Int32)) = (1 : Int32)
      · replace hf := (if_pos c975).symm.trans hf
        refine lv_tableIn (off := 336) (tgt := 381) hx hb dL_law_45 (by rw [c975]; decide) (by rw [c975]; decide) (by rw [c975]; rfl) (by decide) ?_
        exact L_law_381_W hC hQ hst h_28 hf hw (lv_sub hl [0, 1, 2, 3, 4, 5] rfl)
      · replace hf := (if_neg c975).symm.trans hf
        by_cases c976 : (x972 &&& (63 : Int32)) = (2 : Int32)
        · replace hf := (if_pos c976).symm.trans hf
          refine lv_tableIn (off := 392) (tgt := 437) hx hb dL_law_45 (by rw [c976]; decide) (by rw [c976]; decide) (by rw [c976]; rfl) (by decide) ?_
          exact L_law_437_W hC hQ hst h_28 hf hw (lv_sub hl [0, 1, 2, 3, 4, 5] rfl)
        · replace hf := (if_neg c976).symm.trans hf
          by_cases c977 : (x972 &&& (63 : Int32)) = (3 : Int32)
          · replace hf := (if_pos c977).symm.trans hf
            refine lv_tableIn (off := 405) (tgt := 450) hx hb dL_law_45 (by rw [c977]; decide) (by rw [c977]; decide) (by rw [c977]; rfl) (by decide) ?_
            exact L_law_450_W hC hQ hst h_28 hf hw (lv_sub hl [0, 1, 2, 3, 4, 5] rfl)
          · replace hf := (if_neg c977).symm.trans hf
            by_cases c978 : (x972 &&& (63 : Int32)) = (4 : Int32)
            · replace hf := (if_pos c978).symm.trans hf
              refine lv_tableIn (off := 418) (tgt := 463) hx hb dL_law_45 (by rw [c978]; decide) (by rw [c978]; decide) (by rw [c978]; rfl) (by decide) ?_
              exact L_law_463_W hC hQ hst h_28 hf hw (lv_sub hl [0, 1, 2, 3, 4, 5] rfl)
            · replace hf := (if_neg c978).symm.trans hf
              by_cases c979 : (x972 &&& (63 : Int32)) = (5 : Int32)
              · replace hf := (if_pos c979).symm.trans hf
                refine lv_tableIn (off := 431) (tgt := 476) hx hb dL_law_45 (by rw [c979]; decide) (by rw [c979]; decide) (by rw [c979]; rfl) (by decide) ?_
                exact L_law_476_W hC hQ hst h_28 hf hw (lv_sub hl [0, 1, 2, 3, 4, 5] rfl)
              · replace hf := (if_neg c979).symm.trans hf
                by_cases c980 : (x972 &&& (63 : Int32)) = (6 : Int32)
                · replace hf := (if_pos c980).symm.trans hf
                  refine lv_tableIn (off := 444) (tgt := 489) hx hb dL_law_45 (by rw [c980]; decide) (by rw [c980]; decide) (by rw [c980]; rfl) (by decide) ?_
                  exact L_law_489_W hC hQ hst h_28 hf hw (lv_sub hl [0, 1, 2, 3, 4, 5] rfl)
                · replace hf := (if_neg c980).symm.trans hf
                  by_cases c981 : (x972 &&& (63 : Int32)) = (7 : Int32)
                  · replace hf := (if_pos c981).symm.trans hf
                    refine lv_tableIn (off := 512) (tgt := 557) hx hb dL_law_45 (by rw [c981]; decide) (by rw [c981]; decide) (by rw [c981]; rfl) (by decide) ?_
                    exact L_law_557_W hC hQ hst h_28 hf hw (lv_sub hl [0, 1, 2, 3, 4, 5] rfl)
                  · replace hf := (if_neg c981).symm.trans hf
                    by_cases c982 : (x972 &&& (63 : Int32)) = (8 : Int32)
                    · replace hf := (if_pos c982).symm.trans hf
                      refine lv_tableIn (off := 580) (tgt := 625) hx hb dL_law_45 (by rw [c982]; decide) (by rw [c982]; decide) (by rw [c982]; rfl) (by decide) ?_
                      exact L_law_625_W hC hQ hst h_28 hf hw (lv_sub hl [0, 1, 2, 3, 4, 5] rfl)
                    · replace hf := (if_neg c982).symm.trans hf
                      by_cases c983 : (x972 &&& (63 : Int32)) = (9 : Int32)
                      · replace hf := (if_pos c983).symm.trans hf
                        refine lv_tableIn (off := 636) (tgt := 681) hx hb dL_law_45 (by rw [c983]; decide) (by rw [c983]; decide) (by rw [c983]; rfl) (by decide) ?_
                        exact L_law_681_W hC hQ hst h_28 hf hw (lv_sub hl [0, 1, 2, 3, 4, 5] rfl)
                      · replace hf := (if_neg c983).symm.trans hf
                        by_cases c984 : (x972 &&& (63 : Int32)) = (10 : Int32)
                        · replace hf := (if_pos c984).symm.trans hf
                          refine lv_tableIn (off := 704) (tgt := 749) hx hb dL_law_45 (by rw [c984]; decide) (by rw [c984]; decide) (by rw [c984]; rfl) (by decide) ?_
                          exact L_law_749_W hC hQ hst h_28 hf hw (lv_sub hl [0, 1, 2, 3, 4, 5] rfl)
                        · replace hf := (if_neg c984).symm.trans hf
                          by_cases c985 : (x972 &&& (63 : Int32)) = (11 : Int32)
                          · replace hf := (if_pos c985).symm.trans hf
                            refine lv_tableIn (off := 772) (tgt := 817) hx hb dL_law_45 (by rw [c985]; decide) (by rw [c985]; decide) (by rw [c985]; rfl) (by decide) ?_
                            exact L_law_817_W hC hQ hst h_28 hf hw (lv_sub hl [0, 1, 2, 3, 4, 5] rfl)
                          · replace hf := (if_neg c985).symm.trans hf
                            by_cases c986 : (x972 &&& (63 : Int32)) = (12 : Int32)
                            · replace hf := (if_pos c986).symm.trans hf
                              refine lv_tableIn (off := 828) (tgt := 873) hx hb dL_law_45 (by rw [c986]; decide) (by rw [c986]; decide) (by rw [c986]; rfl) (by decide) ?_
                              exact L_law_873_W hC hQ hst h_28 hf hw (lv_sub hl [0, 1, 2, 3, 4, 5] rfl)
                            · replace hf := (if_neg c986).symm.trans hf
                              by_cases c987 : (x972 &&& (63 : Int32)) = (13 : Int32)
                              · replace hf := (if_pos c987).symm.trans hf
                                refine lv_tableIn (off := 896) (tgt := 941) hx hb dL_law_45 (by rw [c987]; decide) (by rw [c987]; decide) (by rw [c987]; rfl) (by decide) ?_
                                exact L_law_941_W hC hQ hst h_28 hf hw (lv_sub hl [0, 1, 2, 3, 4, 5] rfl)
                              · replace hf := (if_neg c987).symm.trans hf
                                by_cases c988 : (x972 &&& (63 : Int32)) = (14 : Int32)
                                · replace hf := (if_pos c988).symm.trans hf
                                  refine lv_tableIn (off := 952) (tgt := 997) hx hb dL_law_45 (by rw [c988]; decide) (by rw [c988]; decide) (by rw [c988]; rfl) (by decide) ?_
                                  exact L_law_997_W hC hQ hst h_28 hf hw (lv_sub hl [0, 1, 2, 3, 4, 5] rfl)
                                · replace hf := (if_neg c988).symm.trans hf
                                  by_cases c989 : (x972 &&& (63 : Int32)) = (15 : Int32)
                                  · replace hf := (if_pos c989).symm.trans hf
                                    refine lv_tableIn (off := 1008) (tgt := 1053) hx hb dL_law_45 (by rw [c989]; decide) (by rw [c989]; decide) (by rw [c989]; rfl) (by decide) ?_
                                    exact L_law_1053_W hC hQ hst h_28 hf hw (lv_sub hl [0, 1, 2, 3, 4, 5] rfl)
                                  · replace hf := (if_neg c989).symm.trans hf
                                    by_cases c990 : (x972 &&& (63 : Int32)) = (16 : Int32)
                                    · replace hf := (if_pos c990).symm.trans hf
                                      refine lv_tableIn (off := 1064) (tgt := 1109) hx hb dL_law_45 (by rw [c990]; decide) (by rw [c990]; decide) (by rw [c990]; rfl) (by decide) ?_
                                      exact L_law_1109_W hC hQ hst h_28 hf hw (lv_sub hl [0, 1, 2, 3, 4, 5] rfl)
                                    · replace hf := (if_neg c990).symm.trans hf
                                      by_cases c991 : (x972 &&& (63 : Int32)) = (17 : Int32)
                                      · replace hf := (if_pos c991).symm.trans hf
                                        refine lv_tableIn (off := 1131) (tgt := 1176) hx hb dL_law_45 (by rw [c991]; decide) (by rw [c991]; decide) (by rw [c991]; rfl) (by decide) ?_
                                        exact L_law_1176_W hC hQ hst h_28 hf hw (lv_sub hl [0, 1, 2, 3, 4, 5] rfl)
                                      · replace hf := (if_neg c991).symm.trans hf
                                        by_cases c992 : (x972 &&& (63 : Int32)) = (18 : Int32)
                                        · replace hf := (if_pos c992).symm.trans hf
                                          refine lv_tableIn (off := 1144) (tgt := 1189) hx hb dL_law_45 (by rw [c992]; decide) (by rw [c992]; decide) (by rw [c992]; rfl) (by decide) ?_
                                          exact L_law_1189_W hC hQ hst h_28 hf hw (lv_sub hl [0, 1, 2, 3, 4, 5] rfl)
                                        · replace hf := (if_neg c992).symm.trans hf
                                          by_cases c993 : (x972 &&& (63 : Int32)) = (19 : Int32)
                                          · replace hf := (if_pos c993).symm.trans hf
                                            refine lv_tableIn (off := 1185) (tgt := 1230) hx hb dL_law_45 (by rw [c993]; decide) (by rw [c993]; decide) (by rw [c993]; rfl) (by decide) ?_
                                            exact L_law_1230_W hC hQ hst h_28 hf hw (lv_sub hl [0, 1, 2, 3, 4, 5] rfl)
                                          · replace hf := (if_neg c993).symm.trans hf
                                            by_cases c994 : (x972 &&& (63 : Int32)) = (20 : Int32)
                                            · replace hf := (if_pos c994).symm.trans hf
                                              refine lv_tableIn (off := 1241) (tgt := 1286) hx hb dL_law_45 (by rw [c994]; decide) (by rw [c994]; decide) (by rw [c994]; rfl) (by decide) ?_
                                              exact L_law_1286_W hC hQ hst h_28 hf hw (lv_sub hl [0, 1, 2, 3, 4, 5] rfl)
                                            · replace hf := (if_neg c994).symm.trans hf
                                              by_cases c995 : (x972 &&& (63 : Int32)) = (21 : Int32)
                                              · replace hf := (if_pos c995).symm.trans hf
                                                refine lv_tableIn (off := 1297) (tgt := 1342) hx hb dL_law_45 (by rw [c995]; decide) (by rw [c995]; decide) (by rw [c995]; rfl) (by decide) ?_
                                                exact L_law_1342_W hC hQ hst h_28 hf hw (lv_sub hl [0, 1, 2, 3, 4, 5] rfl)
                                              · replace hf := (if_neg c995).symm.trans hf
                                                by_cases c996 : (x972 &&& (63 : Int32)) = (22 : Int32)
                                                · replace hf := (if_pos c996).symm.trans hf
                                                  refine lv_tableIn (off := 1360) (tgt := 1405) hx hb dL_law_45 (by rw [c996]; decide) (by rw [c996]; decide) (by rw [c996]; rfl) (by decide) ?_
                                                  exact L_law_1405_W hC hQ hst h_28 hf hw (lv_sub hl [0, 1, 2, 3, 4, 5] rfl)
                                                · replace hf := (if_neg c996).symm.trans hf
                                                  by_cases c997 : (x972 &&& (63 : Int32)) = (23 : Int32)
                                                  · replace hf := (if_pos c997).symm.trans hf
                                                    refine lv_tableIn (off := 1373) (tgt := 1418) hx hb dL_law_45 (by rw [c997]; decide) (by rw [c997]; decide) (by rw [c997]; rfl) (by decide) ?_
                                                    exact L_law_1418_W hC hQ hst h_28 hf hw (lv_sub hl [0, 1, 2, 3, 4, 5] rfl)
                                                  · replace hf := (if_neg c997).symm.trans hf
                                                    by_cases c998 : (x972 &&& (63 : Int32)) = (24 : Int32)
                                                    · replace hf := (if_pos c998).symm.trans hf
                                                      refine lv_tableIn (off := 1429) (tgt := 1474) hx hb dL_law_45 (by rw [c998]; decide) (by rw [c998]; decide) (by rw [c998]; rfl) (by decide) ?_
                                                      exact L_law_1474_W hC hQ hst h_28 hf hw (lv_sub hl [0, 1, 2, 3, 4, 5] rfl)
                                                    · replace hf := (if_neg c998).symm.trans hf
                                                      by_cases c999 : (x972 &&& (63 : Int32)) = (25 : Int32)
                                                      · replace hf := (if_pos c999).symm.trans hf
                                                        refine lv_tableIn (off := 1485) (tgt := 1530) hx hb dL_law_45 (by rw [c999]; decide) (by rw [c999]; decide) (by rw [c999]; rfl) (by decide) ?_
                                                        exact L_law_1530_W hC hQ hst h_28 hf hw (lv_sub hl [0, 1, 2, 3, 4, 5] rfl)
                                                      · replace hf := (if_neg c999).symm.trans hf
                                                        by_cases c1000 : (x972 &&& (63 : Int32)) = (26 : Int32)
                                                        · replace hf := (if_pos c1000).symm.trans hf
                                                          refine lv_tableIn (off := 1541) (tgt := 1586) hx hb dL_law_45 (by rw [c1000]; decide) (by rw [c1000]; decide) (by rw [c1000]; rfl) (by decide) ?_
                                                          exact L_law_1586_W hC hQ hst h_28 hf hw (lv_sub hl [0, 1, 2, 3, 4, 5] rfl)
                                                        · replace hf := (if_neg c1000).symm.trans hf
                                                          by_cases c1001 : (x972 &&& (63 : Int32)) = (27 : Int32)
                                                          · replace hf := (if_pos c1001).symm.trans hf
                                                            refine lv_tableIn (off := 1597) (tgt := 1642) hx hb dL_law_45 (by rw [c1001]; decide) (by rw [c1001]; decide) (by rw [c1001]; rfl) (by decide) ?_
                                                            exact L_law_1642_W hC hQ hst h_28 hf hw (lv_sub hl [0, 1, 2, 3, 4, 5] rfl)
                                                          · replace hf := (if_neg c1001).symm.trans hf
                                                            by_cases c1002 : (x972 &&& (63 : Int32)) = (28 : Int32)
                                                            · replace hf := (if_pos c1002).symm.trans hf
                                                              refine lv_tableIn (off := 1653) (tgt := 1698) hx hb dL_law_45 (by rw [c1002]; decide) (by rw [c1002]; decide) (by rw [c1002]; rfl) (by decide) ?_
                                                              exact L_law_1698_W hC hQ hst h_28 hf hw (lv_sub hl [0, 1, 2, 3, 4, 5] rfl)
                                                            · replace hf := (if_neg c1002).symm.trans hf
                                                              by_cases c1003 : (x972 &&& (63 : Int32)) = (29 : Int32)
                                                              · replace hf := (if_pos c1003).symm.trans hf
                                                                refine lv_tableIn (off := 1709) (tgt := 1754) hx hb dL_law_45 (by rw [c1003]; decide) (by rw [c1003]; decide) (by rw [c1003]; rfl) (by decide) ?_
                                                                exact L_law_1754_W hC hQ hst h_28 hf hw (lv_sub hl [0, 1, 2, 3, 4, 5] rfl)
                                                              · replace hf := (if_neg c1003).symm.trans hf
                                                                by_cases c1004 : (x972 &&& (63 : Int32)) = (30 : Int32)
                                                                · replace hf := (if_pos c1004).symm.trans hf
                                                                  refine lv_tableIn (off := 1722) (tgt := 1767) hx hb dL_law_45 (by rw [c1004]; decide) (by rw [c1004]; decide) (by rw [c1004]; rfl) (by decide) ?_
                                                                  exact L_law_1767_W hC hQ hst h_28 hf hw (lv_sub hl [0, 1, 2, 3, 4, 5] rfl)
                                                                · replace hf := (if_neg c1004).symm.trans hf
                                                                  by_cases c1005 : (x972 &&& (63 : Int32)) = (31 : Int32)
                                                                  · replace hf := (if_pos c1005).symm.trans hf
                                                                    refine lv_tableIn (off := 1785) (tgt := 1830) hx hb dL_law_45 (by rw [c1005]; decide) (by rw [c1005]; decide) (by rw [c1005]; rfl) (by decide) ?_
                                                                    exact L_law_1830_W hC hQ hst h_28 hf hw (lv_sub hl [0, 1, 2, 3, 4, 5] rfl)
                                                                  · replace hf := (if_neg c1005).symm.trans hf
                                                                    by_cases c1006 : (x972 &&& (63 : Int32)) = (32 : Int32)
                                                                    · replace hf := (if_pos c1006).symm.trans hf
                                                                      refine lv_tableIn (off := 1798) (tgt := 1843) hx hb dL_law_45 (by rw [c1006]; decide) (by rw [c1006]; decide) (by rw [c1006]; rfl) (by decide) ?_
                                                                      exact L_law_1843_W hC hQ hst h_28 hf hw (lv_sub hl [0, 1, 2, 3, 4, 5] rfl)
                                                                    · replace hf := (if_neg c1006).symm.trans hf
                                                                      by_cases c1007 : (x972 &&& (63 : Int32)) = (33 : Int32)
                                                                      · replace hf := (if_pos c1007).symm.trans hf
                                                                        refine lv_tableIn (off := 1823) (tgt := 1868) hx hb dL_law_45 (by rw [c1007]; decide) (by rw [c1007]; decide) (by rw [c1007]; rfl) (by decide) ?_
                                                                        exact L_law_1868_W hC hQ hst h_28 hf hw (lv_sub hl [0, 1, 2, 3, 4, 5] rfl)
                                                                      · replace hf := (if_neg c1007).symm.trans hf
                                                                        by_cases c1008 : (x972 &&& (63 : Int32)) = (34 : Int32)
                                                                        · replace hf := (if_pos c1008).symm.trans hf
                                                                          refine lv_tableIn (off := 1879) (tgt := 1924) hx hb dL_law_45 (by rw [c1008]; decide) (by rw [c1008]; decide) (by rw [c1008]; rfl) (by decide) ?_
                                                                          exact L_law_1924_W hC hQ hst h_28 hf hw (lv_sub hl [0, 1, 2, 3, 4, 5] rfl)
                                                                        · replace hf := (if_neg c1008).symm.trans hf
                                                                          by_cases c1009 : (x972 &&& (63 : Int32)) = (35 : Int32)
                                                                          · replace hf := (if_pos c1009).symm.trans hf
                                                                            refine lv_tableIn (off := 1934) (tgt := 1979) hx hb dL_law_45 (by rw [c1009]; decide) (by rw [c1009]; decide) (by rw [c1009]; rfl) (by decide) ?_
                                                                            exact L_law_1979_W hC hQ hst h_28 hf hw (lv_sub hl [0, 1, 2, 3, 4, 5] rfl)
                                                                          · replace hf := (if_neg c1009).symm.trans hf
                                                                            by_cases c1010 : (x972 &&& (63 : Int32)) = (36 : Int32)
                                                                            · replace hf := (if_pos c1010).symm.trans hf
                                                                              refine lv_tableIn (off := 1990) (tgt := 2035) hx hb dL_law_45 (by rw [c1010]; decide) (by rw [c1010]; decide) (by rw [c1010]; rfl) (by decide) ?_
                                                                              exact L_law_2035_W hC hQ hst h_28 hf hw (lv_sub hl [0, 1, 2, 3, 4, 5] rfl)
                                                                            · replace hf := (if_neg c1010).symm.trans hf
                                                                              by_cases c1011 : (x972 &&& (63 : Int32)) = (37 : Int32)
                                                                              · replace hf := (if_pos c1011).symm.trans hf
                                                                                refine lv_tableIn (off := 2046) (tgt := 2091) hx hb dL_law_45 (by rw [c1011]; decide) (by rw [c1011]; decide) (by rw [c1011]; rfl) (by decide) ?_
                                                                                exact L_law_2091_W hC hQ hst h_28 hf hw (lv_sub hl [0, 1, 2, 3, 4, 5] rfl)
                                                                              · replace hf := (if_neg c1011).symm.trans hf
                                                                                by_cases c1012 : (x972 &&& (63 : Int32)) = (38 : Int32)
                                                                                · replace hf := (if_pos c1012).symm.trans hf
                                                                                  refine lv_tableIn (off := 2102) (tgt := 2147) hx hb dL_law_45 (by rw [c1012]; decide) (by rw [c1012]; decide) (by rw [c1012]; rfl) (by decide) ?_
                                                                                  exact L_law_2147_W hC hQ hst h_28 hf hw (lv_sub hl [0, 1, 2, 3, 4, 5] rfl)
                                                                                · replace hf := (if_neg c1012).symm.trans hf
                                                                                  by_cases c1013 : (x972 &&& (63 : Int32)) = (39 : Int32)
                                                                                  · replace hf := (if_pos c1013).symm.trans hf
                                                                                    refine lv_tableIn (off := 2179) (tgt := 2224) hx hb dL_law_45 (by rw [c1013]; decide) (by rw [c1013]; decide) (by rw [c1013]; rfl) (by decide) ?_
                                                                                    exact L_law_2224_W hC hQ hst h_28 hf hw (lv_sub hl [0, 1, 2, 3, 4, 5] rfl)
                                                                                  · replace hf := (if_neg c1013).symm.trans hf
                                                                                    by_cases c1014 : (x972 &&& (63 : Int32)) = (40 : Int32)
                                                                                    · replace hf := (if_pos c1014).symm.trans hf
                                                                                      refine lv_tableIn (off := 2222) (tgt := 2267) hx hb dL_law_45 (by rw [c1014]; decide) (by rw [c1014]; decide) (by rw [c1014]; rfl) (by decide) ?_
                                                                                      exact L_law_2267_W hC hQ hst h_28 hf hw (lv_sub hl [0, 1, 2, 3, 4, 5] rfl)
                                                                                    · replace hf := (if_neg c1014).symm.trans hf
                                                                                      by_cases c1015 : (x972 &&& (63 : Int32)) = (41 : Int32)
                                                                                      · replace hf := (if_pos c1015).symm.trans hf
                                                                                        refine lv_tableIn (off := 2290) (tgt := 2335) hx hb dL_law_45 (by rw [c1015]; decide) (by rw [c1015]; decide) (by rw [c1015]; rfl) (by decide) ?_
                                                                                        exact L_law_2335_W hC hQ hst h_28 hf hw (lv_sub hl [0, 1, 2, 3, 4, 5] rfl)
                                                                                      · replace hf := (if_neg c1015).symm.trans hf
                                                                                        by_cases c1016 : (x972 &&& (63 : Int32)) = (42 : Int32)
                                                                                        · replace hf := (if_pos c1016).symm.trans hf
                                                                                          refine lv_tableIn (off := 2346) (tgt := 2391) hx hb dL_law_45 (by rw [c1016]; decide) (by rw [c1016]; decide) (by rw [c1016]; rfl) (by decide) ?_
                                                                                          exact L_law_2391_W hC hQ hst h_28 hf hw (lv_sub hl [0, 1, 2, 3, 4, 5] rfl)
                                                                                        · replace hf := (if_neg c1016).symm.trans hf
                                                                                          by_cases c1017 : (x972 &&& (63 : Int32)) = (43 : Int32)
                                                                                          · replace hf := (if_pos c1017).symm.trans hf
                                                                                            refine lv_tableIn (off := 2402) (tgt := 2447) hx hb dL_law_45 (by rw [c1017]; decide) (by rw [c1017]; decide) (by rw [c1017]; rfl) (by decide) ?_
                                                                                            exact L_law_2447_W hC hQ hst h_28 hf hw (lv_sub hl [0, 1, 2, 3, 4, 5] rfl)
                                                                                          · replace hf := (if_neg c1017).symm.trans hf
                                                                                            by_cases c1018 : (x972 &&& (63 : Int32)) = (44 : Int32)
                                                                                            · replace hf := (if_pos c1018).symm.trans hf
                                                                                              refine lv_tableIn (off := 2415) (tgt := 2460) hx hb dL_law_45 (by rw [c1018]; decide) (by rw [c1018]; decide) (by rw [c1018]; rfl) (by decide) ?_
                                                                                              exact L_law_2460_W hC hQ hst h_28 hf hw (lv_sub hl [0, 1, 2, 3, 4, 5] rfl)
                                                                                            · replace hf := (if_neg c1018).symm.trans hf
                                                                                              by_cases c1019 : (x972 &&& (63 : Int32)) = (45 : Int32)
                                                                                              · replace hf := (if_pos c1019).symm.trans hf
                                                                                                refine lv_tableIn (off := 2428) (tgt := 2473) hx hb dL_law_45 (by rw [c1019]; decide) (by rw [c1019]; decide) (by rw [c1019]; rfl) (by decide) ?_
                                                                                                exact L_law_2473_W hC hQ hst h_28 hf hw (lv_sub hl [0, 1, 2, 3, 4, 5] rfl)
                                                                                              · replace hf := (if_neg c1019).symm.trans hf
                                                                                                by_cases c1020 : (x972 &&& (63 : Int32)) = (46 : Int32)
                                                                                                · replace hf := (if_pos c1020).symm.trans hf
                                                                                                  refine lv_tableIn (off := 2484) (tgt := 2529) hx hb dL_law_45 (by rw [c1020]; decide) (by rw [c1020]; decide) (by rw [c1020]; rfl) (by decide) ?_
                                                                                                  exact L_law_2529_W hC hQ hst h_28 hf hw (lv_sub hl [0, 1, 2, 3, 4, 5] rfl)
                                                                                                · replace hf := (if_neg c1020).symm.trans hf
                                                                                                  by_cases c1021 : (x972 &&& (63 : Int32)) = (47 : Int32)
                                                                                                  · replace hf := (if_pos c1021).symm.trans hf
                                                                                                    refine lv_tableIn (off := 2540) (tgt := 2585) hx hb dL_law_45 (by rw [c1021]; decide) (by rw [c1021]; decide) (by rw [c1021]; rfl) (by decide) ?_
                                                                                                    exact L_law_2585_W hC hQ hst h_28 hf hw (lv_sub hl [0, 1, 2, 3, 4, 5] rfl)
                                                                                                  · replace hf := (if_neg c1021).symm.trans hf
                                                                                                    by_cases c1022 : (x972 &&& (63 : Int32)) = (48 : Int32)
                                                                                                    · replace hf := (if_pos c1022).symm.trans hf
                                                                                                      refine lv_tableIn (off := 2620) (tgt := 2665) hx hb dL_law_45 (by rw [c1022]; decide) (by rw [c1022]; decide) (by rw [c1022]; rfl) (by decide) ?_
                                                                                                      exact L_law_2665_W hC hQ hst h_28 hf hw (lv_sub hl [0, 1, 2, 3, 4, 5] rfl)
                                                                                                    · replace hf := (if_neg c1022).symm.trans hf
                                                                                                      by_cases c1023 : (x972 &&& (63 : Int32)) = (49 : Int32)
                                                                                                      · replace hf := (if_pos c1023).symm.trans hf
                                                                                                        refine lv_tableIn (off := 2704) (tgt := 2749) hx hb dL_law_45 (by rw [c1023]; decide) (by rw [c1023]; decide) (by rw [c1023]; rfl) (by decide) ?_
                                                                                                        exact L_law_2749_W hC hQ hst h_28 hf hw (lv_sub hl [0, 1, 2, 3, 4, 5] rfl)
                                                                                                      · replace hf := (if_neg c1023).symm.trans hf
                                                                                                        by_cases c1024 : (x972 &&& (63 : Int32)) = (50 : Int32)
                                                                                                        · replace hf := (if_pos c1024).symm.trans hf
                                                                                                          refine lv_tableIn (off := 2772) (tgt := 2817) hx hb dL_law_45 (by rw [c1024]; decide) (by rw [c1024]; decide) (by rw [c1024]; rfl) (by decide) ?_
                                                                                                          exact L_law_2817_W hC hQ hst h_28 hf hw (lv_sub hl [0, 1, 2, 3, 4, 5] rfl)
                                                                                                        · replace hf := (if_neg c1024).symm.trans hf
                                                                                                          by_cases c1025 : (x972 &&& (63 : Int32)) = (51 : Int32)
                                                                                                          · replace hf := (if_pos c1025).symm.trans hf
                                                                                                            refine lv_tableIn (off := 2840) (tgt := 2885) hx hb dL_law_45 (by rw [c1025]; decide) (by rw [c1025]; decide) (by rw [c1025]; rfl) (by decide) ?_
                                                                                                            exact L_law_2885_W hC hQ hst h_28 hf hw (lv_sub hl [0, 1, 2, 3, 4, 5] rfl)
                                                                                                          · replace hf := (if_neg c1025).symm.trans hf
                                                                                                            by_cases c1026 : (x972 &&& (63 : Int32)) = (52 : Int32)
                                                                                                            · replace hf := (if_pos c1026).symm.trans hf
                                                                                                              refine lv_tableIn (off := 2908) (tgt := 2953) hx hb dL_law_45 (by rw [c1026]; decide) (by rw [c1026]; decide) (by rw [c1026]; rfl) (by decide) ?_
                                                                                                              exact L_law_2953_W hC hQ hst h_28 hf hw (lv_sub hl [0, 1, 2, 3, 4, 5] rfl)
                                                                                                            · replace hf := (if_neg c1026).symm.trans hf
                                                                                                              by_cases c1027 : (x972 &&& (63 : Int32)) = (53 : Int32)
                                                                                                              · replace hf := (if_pos c1027).symm.trans hf
                                                                                                                refine lv_tableIn (off := 2964) (tgt := 3009) hx hb dL_law_45 (by rw [c1027]; decide) (by rw [c1027]; decide) (by rw [c1027]; rfl) (by decide) ?_
                                                                                                                exact L_law_3009_W hC hQ hst h_28 hf hw (lv_sub hl [0, 1, 2, 3, 4, 5] rfl)
                                                                                                              · replace hf := (if_neg c1027).symm.trans hf
                                                                                                                by_cases c1028 : (x972 &&& (63 : Int32)) = (54 : Int32)
                                                                                                                · replace hf := (if_pos c1028).symm.trans hf
                                                                                                                  refine lv_tableIn (off := 2977) (tgt := 3022) hx hb dL_law_45 (by rw [c1028]; decide) (by rw [c1028]; decide) (by rw [c1028]; rfl) (by decide) ?_
                                                                                                                  exact L_law_3022_W hC hQ hst h_28 hf hw (lv_sub hl [0, 1, 2, 3, 4, 5] rfl)
                                                                                                                · replace hf := (if_neg c1028).symm.trans hf
                                                                                                                  by_cases c1029 : (x972 &&& (63 : Int32)) = (55 : Int32)
                                                                                                                  · replace hf := (if_pos c1029).symm.trans hf
                                                                                                                    refine lv_tableIn (off := 3033) (tgt := 3078) hx hb dL_law_45 (by rw [c1029]; decide) (by rw [c1029]; decide) (by rw [c1029]; rfl) (by decide) ?_
                                                                                                                    exact L_law_3078_W hC hQ hst h_28 hf hw (lv_sub hl [0, 1, 2, 3, 4, 5] rfl)
                                                                                                                  · replace hf := (if_neg c1029).symm.trans hf
                                                                                                                    by_cases c1030 : (x972 &&& (63 : Int32)) = (56 : Int32)
                                                                                                                    · replace hf := (if_pos c1030).symm.trans hf
                                                                                                                      refine lv_tableIn (off := 3089) (tgt := 3134) hx hb dL_law_45 (by rw [c1030]; decide) (by rw [c1030]; decide) (by rw [c1030]; rfl) (by decide) ?_
                                                                                                                      exact L_law_3134_W hC hQ hst h_28 hf hw (lv_sub hl [0, 1, 2, 3, 4, 5] rfl)
                                                                                                                    · replace hf := (if_neg c1030).symm.trans hf
                                                                                                                      by_cases c1031 : (x972 &&& (63 : Int32)) = (57 : Int32)
                                                                                                                      · replace hf := (if_pos c1031).symm.trans hf
                                                                                                                        refine lv_tableIn (off := 3145) (tgt := 3190) hx hb dL_law_45 (by rw [c1031]; decide) (by rw [c1031]; decide) (by rw [c1031]; rfl) (by decide) ?_
                                                                                                                        exact L_law_3190_W hC hQ hst h_28 hf hw (lv_sub hl [0, 1, 2, 3, 4, 5] rfl)
                                                                                                                      · replace hf := (if_neg c1031).symm.trans hf
                                                                                                                        by_cases c1032 : (x972 &&& (63 : Int32)) = (58 : Int32)
                                                                                                                        · replace hf := (if_pos c1032).symm.trans hf
                                                                                                                          refine lv_tableIn (off := 3201) (tgt := 3246) hx hb dL_law_45 (by rw [c1032]; decide) (by rw [c1032]; decide) (by rw [c1032]; rfl) (by decide) ?_
                                                                                                                          exact L_law_3246_W hC hQ hst h_28 hf hw (lv_sub hl [0, 1, 2, 3, 4, 5] rfl)
                                                                                                                        · replace hf := (if_neg c1032).symm.trans hf
                                                                                                                          by_cases c1033 : (x972 &&& (63 : Int32)) = (59 : Int32)
                                                                                                                          · replace hf := (if_pos c1033).symm.trans hf
                                                                                                                            refine lv_tableIn (off := 3214) (tgt := 3259) hx hb dL_law_45 (by rw [c1033]; decide) (by rw [c1033]; decide) (by rw [c1033]; rfl) (by decide) ?_
                                                                                                                            exact L_law_3259_W hC hQ hst h_28 hf hw (lv_sub hl [0, 1, 2, 3, 4, 5] rfl)
                                                                                                                          · replace hf := (if_neg c1033).symm.trans hf
                                                                                                                            by_cases c1034 : (x972 &&& (63 : Int32)) = (60 : Int32)
                                                                                                                            · replace hf := (if_pos c1034).symm.trans hf
                                                                                                                              refine lv_tableIn (off := 3258) (tgt := 3303) hx hb dL_law_45 (by rw [c1034]; decide) (by rw [c1034]; decide) (by rw [c1034]; rfl) (by decide) ?_
                                                                                                                              exact L_law_3303_W hC hQ hst h_28 hf hw (lv_sub hl [0, 1, 2, 3, 4, 5] rfl)
                                                                                                                            · replace hf := (if_neg c1034).symm.trans hf
                                                                                                                              by_cases c1035 : (x972 &&& (63 : Int32)) = (61 : Int32)
                                                                                                                              · replace hf := (if_pos c1035).symm.trans hf
                                                                                                                                refine lv_tableIn (off := 3269) (tgt := 3314) hx hb dL_law_45 (by rw [c1035]; decide) (by rw [c1035]; decide) (by rw [c1035]; rfl) (by decide) ?_
                                                                                                                                exact L_law_3314_W hC hQ hst h_28 hf hw (lv_sub hl [0, 1, 2, 3, 4, 5] rfl)
                                                                                                                              · replace hf := (if_neg c1035).symm.trans hf
                                                                                                                                refine lv_tableOut (tgt := 3358) hx hb dL_law_45 (gtab [0, 1, 2, 3, 4, 5, 6, 7, 8, 9, 10, 11, 12, 13, 14, 15, 16, 17, 18, 19, 20, 21, 22, 23, 24, 25, 26, 27, 28, 29, 30, 31, 32, 33, 34, 35, 36, 37, 38, 39, 40, 41, 42, 43, 44, 45, 46, 47, 48, 49, 50, 51, 52, 53, 54, 55, 56, 57, 58, 59, 60, 61] (by decide) (by decide) (gvc c974 (gvc c975 (gvc c976 (gvc c977 (gvc c978 (gvc c979 (gvc c980 (gvc c981 (gvc c982 (gvc c983 (gvc c984 (gvc c985 (gvc c986 (gvc c987 (gvc c988 (gvc c989 (gvc c990 (gvc c991 (gvc c992 (gvc c993 (gvc c994 (gvc c995 (gvc c996 (gvc c997 (gvc c998 (gvc c999 (gvc c1000 (gvc c1001 (gvc c1002 (gvc c1003 (gvc c1004 (gvc c1005 (gvc c1006 (gvc c1007 (gvc c1008 (gvc c1009 (gvc c1010 (gvc c1011 (gvc c1012 (gvc c1013 (gvc c1014 (gvc c1015 (gvc c1016 (gvc c1017 (gvc c1018 (gvc c1019 (gvc c1020 (gvc c1021 (gvc c1022 (gvc c1023 (gvc c1024 (gvc c1025 (gvc c1026 (gvc c1027 (gvc c1028 (gvc c1029 (gvc c1030 (gvc c1031 (gvc c1032 (gvc c1033 (gvc c1034 (gvc c1035 gvn))))))))))))))))))))))))))))))))))))))))))))))))))))))))))))))) (by decide) ?_
                                                                                                                                exact L_law_3358_W hC hQ hst h_28 hf hw (lv_sub hl [0, 1, 2, 3, 4, 5] rfl)
def L_law_28 (E : gE) : Nat → Nat → Nat → Nat → Nat → Nat → Int32 → gS → Option (Int32 × gS)
  | 0 => fun _ _ _ _ _ _ _ => none
  | n + 1 => L_law_28_s E (L_law_28 E n)
theorem L_law_28_W {res : (Int32 × gS)} (hC : gC E D A p R s m args meth c cL_law 10 RL nm 11 259) (hQ : gQI E D A p l e R s m args below meth c Q cL_law FieldType.boolean res) (hst : l.stackTraces = false) : ∀ (n : Nat), ∀ {l0 : Nat} {l1 : Nat} {l2 : Nat} {l3 : Nat} {l4 : Nat} {l5 : Int32} {σ : gS} {H : Heap} {locs : List Loc} {cells slots : Nat} {ls : Array Slot}, L_law_28 E n l0 l1 l2 l3 l4 l5 σ = some res → gW E D A s σ H locs → lv_has ls 10 [(0, .ref l0), (1, .ref l1), (2, .ref l2), (3, .ref l3), (4, .ref l4), (5, .int l5)] → W p l e R s m args below meth c H locs cells slots Q (F0 m 28 ls []) := by
  intro n
  induction n with
  | zero =>
    intros
    rename_i hf _ _
    exact absurd hf (fun h => by cases (show (none : Option (Int32 × gS)) = some res from h))
  | succ n ih =>
    intros
    rename_i hf hw hl
    exact L_law_28_s_W hC hQ hst ih hf hw hl

def L_law (E : gE) (l0 : Nat) (σ : gS) : Option (Int32 × gS) :=
  ob (gnew E σ 10 [.null, .null, .int 0, .null, .null, .null, .null, .int 0, .null, .null, .null]) fun q1037 =>
  ob (X12_init_f E q1037.1 q1037.2) fun x1039 =>
  ob (gnew E x1039 11 [.null, .null, .null, .null, .null, .null, .null, .null, .null, .int 0, .int 0, .int 0, .int 0, .int 0, .null, .int 0, .null, .int 0, .int 0, .int 0, .int 0, .int 0, .int 0, .int 0, .int 0, .int 0, .null, .null, .int 0]) fun q1041 =>
  ob (X13_init_f E q1041.1 q1041.2) fun x1043 =>
  ob (gnaJ E x1043 (1 : Int32)) fun q1045 =>
  ob (gnaD E q1045.2 (1 : Int32)) fun q1047 =>
  L_law_28 E (gN E) l0 q1037.1 q1041.1 q1045.1 q1047.1 (0 : Int32) q1047.2
set_option maxHeartbeats 4000000 in
set_option maxRecDepth 100000 in
theorem L_law_W {σ : gS} {l0 : Nat} {res : (Int32 × gS)} {ls : Array Slot} (hC : gC E D A p R s m args meth c cL_law 10 RL nm 11 259) (hQ : gQI E D A p l e R s m args below meth c Q cL_law FieldType.boolean res) (hst : l.stackTraces = false) (hf : L_law E l0 σ = some res) (hw : gW E D A s σ H locs) (hl : lv_has ls 10 [(0, .ref l0)]) : W p l e R s m args below meth c H locs cells slots Q (F0 m 0 ls []) := by
  have hC0 := hC
  obtain ⟨hx, hb, hml, hown, hts, -⟩ := hC0
  unfold L_law at hf
  obtain ⟨q1037, h1038, hf⟩ := ob_some hf
  refine n_cl_L_8 hC hw h1038 dL_law_0 (fun H locs cells slots hw => ?_)
  refine lv_dup hx hb dL_law_3 rfl ?_
  obtain ⟨x1039, h1040, hf⟩ := ob_some hf
  refine gg_cIV (rt := none) (As := []) hC hw (X12_init_M l E D A h1040) co_X12_init in_X12 ml_L_159 im_X12_init rfl hd_X12_init.2 (Nat.le_of_ble_eq_true rfl) (Nat.le_of_ble_eq_true rfl) hl.1 rfl (Nat.le_of_ble_eq_true rfl) dL_law_4 (fun H locs cells slots hw => ?_)
  refine lv_astore_n (lv' := [(1, .ref q1037.1), (0, .ref l0)]) hx hb dL_law_7 rfl hl (by decide) rfl (fun ls hl => ?_)
  obtain ⟨q1041, h1042, hf⟩ := ob_some hf
  refine n_cl_L_160 hC hw h1042 dL_law_8 (fun H locs cells slots hw => ?_)
  refine lv_dup hx hb dL_law_11 rfl ?_
  obtain ⟨x1043, h1044, hf⟩ := ob_some hf
  refine gg_cIV (rt := none) (As := []) hC hw (X13_init_M l E D A h1044) co_X13_init in_X13 ml_L_162 im_X13_init rfl hd_X13_init.2 (Nat.le_of_ble_eq_true rfl) (Nat.le_of_ble_eq_true rfl) hl.1 rfl (Nat.le_of_ble_eq_true rfl) dL_law_12 (fun H locs cells slots hw => ?_)
  refine lv_astore_n (lv' := [(2, .ref q1041.1), (1, .ref q1037.1), (0, .ref l0)]) hx hb dL_law_15 rfl hl (by decide) rfl (fun ls hl => ?_)
  refine lv_iconst (v := 1) hx hb dL_law_16 (by decide) ?_
  obtain ⟨q1045, h1046, hf⟩ := ob_some hf
  refine gg_naJ hC hw h1046 dL_law_17 (fun H locs cells slots hw => ?_)
  refine lv_astore_n (lv' := [(3, .ref q1045.1), (2, .ref q1041.1), (1, .ref q1037.1), (0, .ref l0)]) hx hb dL_law_19 rfl hl (by decide) rfl (fun ls hl => ?_)
  refine lv_iconst (v := 1) hx hb dL_law_20 (by decide) ?_
  obtain ⟨q1047, h1048, hf⟩ := ob_some hf
  refine gg_naD hC hw h1048 dL_law_21 (fun H locs cells slots hw => ?_)
  refine lv_astore (lv' := [(4, .ref q1047.1), (3, .ref q1045.1), (2, .ref q1041.1), (1, .ref q1037.1), (0, .ref l0)]) hx hb dL_law_23 hl (by decide) rfl (fun ls hl => ?_)
  refine lv_iconst (v := 0) hx hb dL_law_25 (by decide) ?_
  refine lv_istore (lv' := [(5, .int (0 : Int32)), (4, .ref q1047.1), (3, .ref q1045.1), (2, .ref q1041.1), (1, .ref q1037.1), (0, .ref l0)]) hx hb dL_law_26 hl (by decide) rfl (fun ls hl => ?_)
  exact L_law_28_W hC hQ hst (gN E) hf hw (lv_sub hl [5, 4, 3, 2, 1, 0] rfl)


end ML2
