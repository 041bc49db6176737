/-! decompiled: the law -/
section ML1
variable {p : Program} {l : Launch} {e : Env} {R : Room} {s : State} {m : MethodId} {args : Array Value} {below : List Frame} {meth : Method} {c : Code} {H : Heap} {locs : List Loc} {cells slots : Nat} {Q : State → Prop} {nm : String} {E : gE} {D : va_G} {A : Nat → Prop}
def L_law_1767 (E : gE) (r_28 : Nat → Nat → Nat → Nat → Nat → Int32 → gS → Option (Int32 × gS)) (l0 : Nat) (l1 : Nat) (l2 : Nat) (l3 : Nat) (l4 : Nat) (l5 : Int32) (σ : gS) : Option (Int32 × gS) :=
  ob (graI E 0 σ l0 (l5 + (1 : Int32))) fun x469 =>
  ob (L_isSelected_f E l1 x469 l3 σ) fun x471 =>
  ob (graI E 0 x471.2 l0 (l5 + (1 : Int32))) fun x473 =>
  ob (gcl x471.2 l2 11) fun _ =>
  ob (X13_isSelected_f E l2 x473 x471.2) fun x475 =>
  ob (gcl x475.2 l2 11) fun _ =>
  ob (X13_thrown_f E x475.2 l2) fun x478 =>
  if x478 = x471.1 then
    if x471.1 = 0 then
      ob (graJ E x475.2 l3 (0 : Int32)) fun x481 =>
      if x475.1 = 0 then
        L_law_1821 E r_28 l0 l1 l2 l3 l4 l5 (0 : Int64) x481 x475.2
      else
        L_law_1821 E r_28 l0 l1 l2 l3 l4 l5 (1 : Int64) x481 x475.2
    else
      L_law_3358 E r_28 l0 l1 l2 l3 l4 l5 x475.2
  else
    some ((0 : Int32), x475.2)
set_option maxHeartbeats 4000000 in
set_option maxRecDepth 100000 in
theorem L_law_1767_W {σ : gS} {l0 : Nat} {l1 : Nat} {l2 : Nat} {l3 : Nat} {l4 : Nat} {l5 : Int32} {res : (Int32 × gS)} {ls : Array Slot} (hC : gC E D A p R s m args meth c cL_law 10 RL nm 11 259) (hQ : gQI E D A p l e R s m args below meth c Q cL_law FieldType.boolean res) (hst : l.stackTraces = false) {r_28 : Nat → Nat → Nat → Nat → Nat → Int32 → gS → Option (Int32 × gS)} (h_28 : ∀ {l0 : Nat} {l1 : Nat} {l2 : Nat} {l3 : Nat} {l4 : Nat} {l5 : Int32} {σ : gS} {H : Heap} {locs : List Loc} {cells slots : Nat} {ls : Array Slot}, r_28 l0 l1 l2 l3 l4 l5 σ = some res → gW E D A s σ H locs → lv_has ls 10 [(0, .ref l0), (1, .ref l1), (2, .ref l2), (3, .ref l3), (4, .ref l4), (5, .int l5)] → W p l e R s m args below meth c H locs cells slots Q (F0 m 28 ls [])) (hf : L_law_1767 E r_28 l0 l1 l2 l3 l4 l5 σ = some res) (hw : gW E D A s σ H locs) (hl : lv_has ls 10 [(0, .ref l0), (1, .ref l1), (2, .ref l2), (3, .ref l3), (4, .ref l4), (5, .int l5)]) : W p l e R s m args below meth c H locs cells slots Q (F0 m 1767 ls []) := by
  have hC0 := hC
  obtain ⟨hx, hb, hml, hown, hts, -⟩ := hC0
  unfold L_law_1767 at hf
  refine lv_aload_n hx hb dL_law_1767 rfl (lv_at hl 1 rfl) ?_
  refine lv_aload_n hx hb dL_law_1768 rfl (lv_at hl 0 rfl) ?_
  refine lv_iload hx hb dL_law_1769 (lv_at hl 5 rfl) ?_
  refine lv_iconst (v := 1) hx hb dL_law_1771 (by decide) ?_
  refine lv_iadd hx hb dL_law_1772 ?_
  obtain ⟨x469, h470, hf⟩ := ob_some hf
  refine gg_aldI hC hw h470 dL_law_1773 ?_
  refine lv_aload_n hx hb dL_law_1774 rfl (lv_at hl 3 rfl) ?_
  obtain ⟨x471, h472, hf⟩ := ob_some hf
  refine gg_yHI (As := [.ref l1, .int x469, .ref l3]) hC hw (L_isSelected_M l hst E D A h472) g_ml_L_271 hd_L_isSelected.2 (Nat.le_of_ble_eq_true rfl) (Nat.le_of_ble_eq_true rfl) hl.1 rfl (Nat.le_of_ble_eq_true rfl) dL_law_1775 (fun _ _ he => nomatch (congrArg Prod.fst he)) (fun r9 σ9 he H locs cells slots hw => ?_)
  cases he
  refine lv_istore (lv' := [(6, .int x471.1), (0, .ref l0), (1, .ref l1), (2, .ref l2), (3, .ref l3), (4, .ref l4), (5, .int l5)]) hx hb dL_law_1778 hl (by decide) rfl (fun ls hl => ?_)
  refine lv_aload_n hx hb dL_law_1780 rfl (lv_at hl 3 rfl) ?_
  refine lv_aload_n hx hb dL_law_1781 rfl (lv_at hl 1 rfl) ?_
  refine lv_iload hx hb dL_law_1782 (lv_at hl 6 rfl) ?_
  refine lv_iconst (v := 1) hx hb dL_law_1784 (by decide) ?_
  refine lv_iadd hx hb dL_law_1785 ?_
  obtain ⟨x473, h474, hf⟩ := ob_some hf
  refine gg_aldI hC hw h474 dL_law_1786 ?_
  obtain ⟨_, h477, hf⟩ := ob_some hf
  obtain ⟨x475, h476, hf⟩ := ob_some hf
  refine gg_cVI (As := [.int x473]) hC hw (X13_isSelected_M l E D A h476) h477 rfl g_ml_L_273 hd_X13_isSelected (Nat.le_of_ble_eq_true rfl) (Nat.le_of_ble_eq_true rfl) hl.1 rfl (Nat.le_of_ble_eq_true rfl) dL_law_1787 (fun H locs cells slots hw => ?_)
  refine lv_istore (lv' := [(7, .int x475.1), (6, .int x471.1), (0, .ref l0), (1, .ref l1), (2, .ref l2), (3, .ref l3), (4, .ref l4), (5, .int l5)]) hx hb dL_law_1790 hl (by decide) rfl (fun ls hl => ?_)
  refine lv_aload_n hx hb dL_law_1792 rfl (lv_at hl 4 rfl) ?_
  obtain ⟨_, h480, hf⟩ := ob_some hf
  obtain ⟨x478, h479, hf⟩ := ob_some hf
  refine gg_cVI (As := []) hC hw (X13_thrown_M l E D A h479) h480 rfl g_ml_L_174 hd_X13_thrown (Nat.le_of_ble_eq_true rfl) (Nat.le_of_ble_eq_true rfl) hl.1 rfl (Nat.le_of_ble_eq_true rfl) dL_law_1793 (fun H locs cells slots hw => ?_)
  refine lv_iload hx hb dL_law_1796 (lv_at hl 1 rfl) ?_
  refine lv_icmp_eq (tgt := 1803) hx hb dL_law_1798 (by decide) (fun c485 => ?_) (fun c485 => ?_)
  · replace hf := (if_pos c485).symm.trans hf
    refine lv_iload hx hb dL_law_1803 (lv_at hl 1 rfl) ?_
    refine lv_if_ne (tgt := 1827) hx hb dL_law_1805 (by decide) (fun c484 => ?_) (fun c484 => ?_)
    · replace hf := (if_neg c484).symm.trans hf
      refine lv_goto (tgt := 3358) hx hb dL_law_1827 (by decide) ?_
      exact L_law_3358_W hC hQ hst h_28 hf hw (lv_sub hl [2, 3, 4, 5, 6, 7] rfl)
    · replace hf := (if_pos c484).symm.trans hf
      refine lv_aload_n hx hb dL_law_1808 rfl (lv_at hl 5 rfl) ?_
      refine lv_iconst (v := 0) hx hb dL_law_1809 (by decide) ?_
      obtain ⟨x481, h482, hf⟩ := ob_some hf
      refine gg_aldJ hC hw h482 dL_law_1810 ?_
      refine lv_iload hx hb dL_law_1811 (lv_at hl 0 rfl) ?_
      refine lv_if_eq (tgt := 1820) hx hb dL_law_1813 (by decide) (fun c483 => ?_) (fun c483 => ?_)
      · replace hf := (if_pos c483).symm.trans hf
        refine lv_lconst (v := 0) hx hb dL_law_1820 (by decide) ?_
        exact L_law_1821_W hC hQ hst h_28 hf hw (lv_sub hl [2, 3, 4, 5, 6, 7] rfl)
      · replace hf := (if_neg c483).symm.trans hf
        refine lv_lconst (v := 1) hx hb dL_law_1816 (by decide) ?_
        refine lv_goto (tgt := 1821) hx hb dL_law_1817 (by decide) ?_
        exact L_law_1821_W hC hQ hst h_28 hf hw (lv_sub hl [2, 3, 4, 5, 6, 7] rfl)
  · replace hf := (if_neg c485).symm.trans hf
    refine lv_iconst (v := 0) hx hb dL_law_1801 (by decide) ?_
    cases hf
    exact hQ _ _ _ _ _ _ dL_law_1802 gz0 hw

def L_law_1830 (E : gE) (r_28 : Nat → Nat → Nat → Nat → Nat → Int32 → gS → Option (Int32 × gS)) (l0 : Nat) (l1 : Nat) (l2 : Nat) (l3 : Nat) (l4 : Nat) (l5 : Int32) (σ : gS) : Option (Int32 × gS) :=
  ob (gcl σ l1 10) fun _ =>
  ob (X12_selectedCount_f E σ l1) fun x486 =>
  ob (gcl σ l2 11) fun _ =>
  ob (X13_selectedCount_f E l2 σ) fun x489 =>
  if x486 = x489.1 then
    L_law_3358 E r_28 l0 l1 l2 l3 l4 l5 x489.2
  else
    some ((0 : Int32), x489.2)
set_option maxHeartbeats 4000000 in
set_option maxRecDepth 100000 in
theorem L_law_1830_W {σ : gS} {l0 : Nat} {l1 : Nat} {l2 : Nat} {l3 : Nat} {l4 : Nat} {l5 : Int32} {res : (Int32 × gS)} {ls : Array Slot} (hC : gC E D A p R s m args meth c cL_law 10 RL nm 11 259) (hQ : gQI E D A p l e R s m args below meth c Q cL_law FieldType.boolean res) (hst : l.stackTraces = false) {r_28 : Nat → Nat → Nat → Nat → Nat → Int32 → gS → Option (Int32 × gS)} (h_28 : ∀ {l0 : Nat} {l1 : Nat} {l2 : Nat} {l3 : Nat} {l4 : Nat} {l5 : Int32} {σ : gS} {H : Heap} {locs : List Loc} {cells slots : Nat} {ls : Array Slot}, r_28 l0 l1 l2 l3 l4 l5 σ = some res → gW E D A s σ H locs → lv_has ls 10 [(0, .ref l0), (1, .ref l1), (2, .ref l2), (3, .ref l3), (4, .ref l4), (5, .int l5)] → W p l e R s m args below meth c H locs cells slots Q (F0 m 28 ls [])) (hf : L_law_1830 E r_28 l0 l1 l2 l3 l4 l5 σ = some res) (hw : gW E D A s σ H locs) (hl : lv_has ls 10 [(0, .ref l0), (1, .ref l1), (2, .ref l2), (3, .ref l3), (4, .ref l4), (5, .int l5)]) : W p l e R s m args below meth c H locs cells slots Q (F0 m 1830 ls []) := by
  have hC0 := hC
  obtain ⟨hx, hb, hml, hown, hts, -⟩ := hC0
  unfold L_law_1830 at hf
  refine lv_aload_n hx hb dL_law_1830 rfl (lv_at hl 1 rfl) ?_
  obtain ⟨_, h488, hf⟩ := ob_some hf
  obtain ⟨x486, h487, hf⟩ := ob_some hf
  refine gg_cVI (As := []) hC hw (X12_selectedCount_M l E D A h487) h488 rfl g_ml_L_274 hd_X12_selectedCount (Nat.le_of_ble_eq_true rfl) (Nat.le_of_ble_eq_true rfl) hl.1 rfl (Nat.le_of_ble_eq_true rfl) dL_law_1831 (fun H locs cells slots hw => ?_)
  refine lv_aload_n hx hb dL_law_1834 rfl (lv_at hl 2 rfl) ?_
  obtain ⟨_, h491, hf⟩ := ob_some hf
  obtain ⟨x489, h490, hf⟩ := ob_some hf
  refine gg_cVI (As := []) hC hw (X13_selectedCount_M l E D A h490) h491 rfl g_ml_L_277 hd_X13_selectedCount (Nat.le_of_ble_eq_true rfl) (Nat.le_of_ble_eq_true rfl) hl.1 rfl (Nat.le_of_ble_eq_true rfl) dL_law_1835 (fun H locs cells slots hw => ?_)
  refine lv_icmp_eq (tgt := 3358) hx hb dL_law_1838 (by decide) (fun c492 => ?_) (fun c492 => ?_)
  · replace hf := (if_pos c492).symm.trans hf
    exact L_law_3358_W hC hQ hst h_28 hf hw (lv_sub hl [0, 1, 2, 3, 4, 5] rfl)
  · replace hf := (if_neg c492).symm.trans hf
    refine lv_iconst (v := 0) hx hb dL_law_1841 (by decide) ?_
    cases hf
    exact hQ _ _ _ _ _ _ dL_law_1842 gz0 hw

def L_law_1843 (E : gE) (r_28 : Nat → Nat → Nat → Nat → Nat → Int32 → gS → Option (Int32 × gS)) (l0 : Nat) (l1 : Nat) (l2 : Nat) (l3 : Nat) (l4 : Nat) (l5 : Int32) (σ : gS) : Option (Int32 × gS) :=
  ob (graI E 0 σ l0 (l5 + (1 : Int32))) fun x493 =>
  ob (gcl σ l1 10) fun _ =>
  ob (X12_selectedRow_f E σ l1 x493) fun x495 =>
  ob (graI E 0 σ l0 (l5 + (1 : Int32))) fun x498 =>
  ob (gcl σ l2 11) fun _ =>
  ob (X13_selectedRow_f E l2 x498 σ) fun x500 =>
  if x495 = x500.1 then
    L_law_3358 E r_28 l0 l1 l2 l3 l4 l5 x500.2
  else
    some ((0 : Int32), x500.2)
set_option maxHeartbeats 4000000 in
set_option maxRecDepth 100000 in
theorem L_law_1843_W {σ : gS} {l0 : Nat} {l1 : Nat} {l2 : Nat} {l3 : Nat} {l4 : Nat} {l5 : Int32} {res : (Int32 × gS)} {ls : Array Slot} (hC : gC E D A p R s m args meth c cL_law 10 RL nm 11 259) (hQ : gQI E D A p l e R s m args below meth c Q cL_law FieldType.boolean res) (hst : l.stackTraces = false) {r_28 : Nat → Nat → Nat → Nat → Nat → Int32 → gS → Option (Int32 × gS)} (h_28 : ∀ {l0 : Nat} {l1 : Nat} {l2 : Nat} {l3 : Nat} {l4 : Nat} {l5 : Int32} {σ : gS} {H : Heap} {locs : List Loc} {cells slots : Nat} {ls : Array Slot}, r_28 l0 l1 l2 l3 l4 l5 σ = some res → gW E D A s σ H locs → lv_has ls 10 [(0, .ref l0), (1, .ref l1), (2, .ref l2), (3, .ref l3), (4, .ref l4), (5, .int l5)] → W p l e R s m args below meth c H locs cells slots Q (F0 m 28 ls [])) (hf : L_law_1843 E r_28 l0 l1 l2 l3 l4 l5 σ = some res) (hw : gW E D A s σ H locs) (hl : lv_has ls 10 [(0, .ref l0), (1, .ref l1), (2, .ref l2), (3, .ref l3), (4, .ref l4), (5, .int l5)]) : W p l e R s m args below meth c H locs cells slots Q (F0 m 1843 ls []) := by
  have hC0 := hC
  obtain ⟨hx, hb, hml, hown, hts, -⟩ := hC0
  unfold L_law_1843 at hf
  refine lv_aload_n hx hb dL_law_1843 rfl (lv_at hl 1 rfl) ?_
  refine lv_aload_n hx hb dL_law_1844 rfl (lv_at hl 0 rfl) ?_
  refine lv_iload hx hb dL_law_1845 (lv_at hl 5 rfl) ?_
  refine lv_iconst (v := 1) hx hb dL_law_1847 (by decide) ?_
  refine lv_iadd hx hb dL_law_1848 ?_
  obtain ⟨x493, h494, hf⟩ := ob_some hf
  refine gg_aldI hC hw h494 dL_law_1849 ?_
  obtain ⟨_, h497, hf⟩ := ob_some hf
  obtain ⟨x495, h496, hf⟩ := ob_some hf
  refine gg_cVI (As := [.int x493]) hC hw (X12_selectedRow_M l E D A h496) h497 rfl g_ml_L_278 hd_X12_selectedRow (Nat.le_of_ble_eq_true rfl) (Nat.le_of_ble_eq_true rfl) hl.1 rfl (Nat.le_of_ble_eq_true rfl) dL_law_1850 (fun H locs cells slots hw => ?_)
  refine lv_aload_n hx hb dL_law_1853 rfl (lv_at hl 2 rfl) ?_
  refine lv_aload_n hx hb dL_law_1854 rfl (lv_at hl 0 rfl) ?_
  refine lv_iload hx hb dL_law_1855 (lv_at hl 5 rfl) ?_
  refine lv_iconst (v := 1) hx hb dL_law_1857 (by decide) ?_
  refine lv_iadd hx hb dL_law_1858 ?_
  obtain ⟨x498, h499, hf⟩ := ob_some hf
  refine gg_aldI hC hw h499 dL_law_1859 ?_
  obtain ⟨_, h502, hf⟩ := ob_some hf
  obtain ⟨x500, h501, hf⟩ := ob_some hf
  refine gg_cVI (As := [.int x498]) hC hw (X13_selectedRow_M l E D A h501) h502 rfl g_ml_L_281 hd_X13_selectedRow (Nat.le_of_ble_eq_true rfl) (Nat.le_of_ble_eq_true rfl) hl.1 rfl (Nat.le_of_ble_eq_true rfl) dL_law_1860 (fun H locs cells slots hw => ?_)
  refine lv_icmp_eq (tgt := 3358) hx hb dL_law_1863 (by decide) (fun c503 => ?_) (fun c503 => ?_)
  · replace hf := (if_pos c503).symm.trans hf
    exact L_law_3358_W hC hQ hst h_28 hf hw (lv_sub hl [0, 1, 2, 3, 4, 5] rfl)
  · replace hf := (if_neg c503).symm.trans hf
    refine lv_iconst (v := 0) hx hb dL_law_1866 (by decide) ?_
    cases hf
    exact hQ _ _ _ _ _ _ dL_law_1867 gz0 hw

def L_law_1868 (E : gE) (r_28 : Nat → Nat → Nat → Nat → Nat → Int32 → gS → Option (Int32 × gS)) (l0 : Nat) (l1 : Nat) (l2 : Nat) (l3 : Nat) (l4 : Nat) (l5 : Int32) (σ : gS) : Option (Int32 × gS) :=
  ob (graI E 0 σ l0 (l5 + (1 : Int32))) fun x504 =>
  ob (L_rejectedBy_f E l1 x504 l3 σ) fun x506 =>
  ob (graI E 0 x506.2 l0 (l5 + (1 : Int32))) fun x508 =>
  ob (gcl x506.2 l2 11) fun _ =>
  ob (X13_rejectedBy_f E l2 x508 x506.2) fun x510 =>
  ob (gcl x510.2 l2 11) fun _ =>
  ob (X13_thrown_f E x510.2 l2) fun x513 =>
  if x513 = x506.1 then
    if x506.1 = 0 then
      ob (graJ E x510.2 l3 (0 : Int32)) fun x516 =>
      if (lg_cmp x516 ((x510.1).toInt64)) = 0 then
        L_law_3358 E r_28 l0 l1 l2 l3 l4 l5 x510.2
      else
        some ((0 : Int32), x510.2)
    else
      L_law_3358 E r_28 l0 l1 l2 l3 l4 l5 x510.2
  else
    some ((0 : Int32), x510.2)
set_option maxHeartbeats 4000000 in
set_option maxRecDepth 100000 in
theorem L_law_1868_W {σ : gS} {l0 : Nat} {l1 : Nat} {l2 : Nat} {l3 : Nat} {l4 : Nat} {l5 : Int32} {res : (Int32 × gS)} {ls : Array Slot} (hC : gC E D A p R s m args meth c cL_law 10 RL nm 11 259) (hQ : gQI E D A p l e R s m args below meth c Q cL_law FieldType.boolean res) (hst : l.stackTraces = false) {r_28 : Nat → Nat → Nat → Nat → Nat → Int32 → gS → Option (Int32 × gS)} (h_28 : ∀ {l0 : Nat} {l1 : Nat} {l2 : Nat} {l3 : Nat} {l4 : Nat} {l5 : Int32} {σ : gS} {H : Heap} {locs : List Loc} {cells slots : Nat} {ls : Array Slot}, r_28 l0 l1 l2 l3 l4 l5 σ = some res → gW E D A s σ H locs → lv_has ls 10 [(0, .ref l0), (1, .ref l1), (2, .ref l2), (3, .ref l3), (4, .ref l4), (5, .int l5)] → W p l e R s m args below meth c H locs cells slots Q (F0 m 28 ls [])) (hf : L_law_1868 E r_28 l0 l1 l2 l3 l4 l5 σ = some res) (hw : gW E D A s σ H locs) (hl : lv_has ls 10 [(0, .ref l0), (1, .ref l1), (2, .ref l2), (3, .ref l3), (4, .ref l4), (5, .int l5)]) : W p l e R s m args below meth c H locs cells slots Q (F0 m 1868 ls []) := by
  have hC0 := hC
  obtain ⟨hx, hb, hml, hown, hts, -⟩ := hC0
  unfold L_law_1868 at hf
  refine lv_aload_n hx hb dL_law_1868 rfl (lv_at hl 1 rfl) ?_
  refine lv_aload_n hx hb dL_law_1869 rfl (lv_at hl 0 rfl) ?_
  refine lv_iload hx hb dL_law_1870 (lv_at hl 5 rfl) ?_
  refine lv_iconst (v := 1) hx hb dL_law_1872 (by decide) ?_
  refine lv_iadd hx hb dL_law_1873 ?_
  obtain ⟨x504, h505, hf⟩ := ob_some hf
  refine gg_aldI hC hw h505 dL_law_1874 ?_
  refine lv_aload_n hx hb dL_law_1875 rfl (lv_at hl 3 rfl) ?_
  obtain ⟨x506, h507, hf⟩ := ob_some hf
  refine gg_yHI (As := [.ref l1, .int x504, .ref l3]) hC hw (L_rejectedBy_M l hst E D A h507) g_ml_L_282 hd_L_rejectedBy.2 (Nat.le_of_ble_eq_true rfl) (Nat.le_of_ble_eq_true rfl) hl.1 rfl (Nat.le_of_ble_eq_true rfl) dL_law_1876 (fun _ _ he => nomatch (congrArg Prod.fst he)) (fun r9 σ9 he H locs cells slots hw => ?_)
  cases he
  refine lv_istore (lv' := [(6, .int x506.1), (0, .ref l0), (1, .ref l1), (2, .ref l2), (3, .ref l3), (4, .ref l4), (5, .int l5)]) hx hb dL_law_1879 hl (by decide) rfl (fun ls hl => ?_)
  refine lv_aload_n hx hb dL_law_1881 rfl (lv_at hl 3 rfl) ?_
  refine lv_aload_n hx hb dL_law_1882 rfl (lv_at hl 1 rfl) ?_
  refine lv_iload hx hb dL_law_1883 (lv_at hl 6 rfl) ?_
  refine lv_iconst (v := 1) hx hb dL_law_1885 (by decide) ?_
  refine lv_iadd hx hb dL_law_1886 ?_
  obtain ⟨x508, h509, hf⟩ := ob_some hf
  refine gg_aldI hC hw h509 dL_law_1887 ?_
  obtain ⟨_, h512, hf⟩ := ob_some hf
  obtain ⟨x510, h511, hf⟩ := ob_some hf
  refine gg_cVI (As := [.int x508]) hC hw (X13_rejectedBy_M l E D A h511) h512 rfl g_ml_L_284 hd_X13_rejectedBy (Nat.le_of_ble_eq_true rfl) (Nat.le_of_ble_eq_true rfl) hl.1 rfl (Nat.le_of_ble_eq_true rfl) dL_law_1888 (fun H locs cells slots hw => ?_)
  refine lv_istore (lv' := [(7, .int x510.1), (6, .int x506.1), (0, .ref l0), (1, .ref l1), (2, .ref l2), (3, .ref l3), (4, .ref l4), (5, .int l5)]) hx hb dL_law_1891 hl (by decide) rfl (fun ls hl => ?_)
  refine lv_aload_n hx hb dL_law_1893 rfl (lv_at hl 4 rfl) ?_
  obtain ⟨_, h515, hf⟩ := ob_some hf
  obtain ⟨x513, h514, hf⟩ := ob_some hf
  refine gg_cVI (As := []) hC hw (X13_thrown_M l E D A h514) h515 rfl g_ml_L_174 hd_X13_thrown (Nat.le_of_ble_eq_true rfl) (Nat.le_of_ble_eq_true rfl) hl.1 rfl (Nat.le_of_ble_eq_true rfl) dL_law_1894 (fun H locs cells slots hw => ?_)
  refine lv_iload hx hb dL_law_1897 (lv_at hl 1 rfl) ?_
  refine lv_icmp_eq (tgt := 1904) hx hb dL_law_1899 (by decide) (fun c520 => ?_) (fun c520 => ?_)
  · replace hf := (if_pos c520).symm.trans hf
    refine lv_iload hx hb dL_law_1904 (lv_at hl 1 rfl) ?_
    refine lv_if_ne (tgt := 1921) hx hb dL_law_1906 (by decide) (fun c519 => ?_) (fun c519 => ?_)
    · replace hf := (if_neg c519).symm.trans hf
      refine lv_goto (tgt := 3358) hx hb dL_law_1921 (by decide) ?_
      exact L_law_3358_W hC hQ hst h_28 hf hw (lv_sub hl [2, 3, 4, 5, 6, 7] rfl)
    · replace hf := (if_pos c519).symm.trans hf
      refine lv_aload_n hx hb dL_law_1909 rfl (lv_at hl 5 rfl) ?_
      refine lv_iconst (v := 0) hx hb dL_law_1910 (by decide) ?_
      obtain ⟨x516, h517, hf⟩ := ob_some hf
      refine gg_aldJ hC hw h517 dL_law_1911 ?_
      refine lv_iload hx hb dL_law_1912 (lv_at hl 0 rfl) ?_
      refine lv_i2l (v := (x510.1).toInt64) hx hb dL_law_1914 rfl ?_
      refine W.lcmp hx hb dL_law_1915 ?_
      refine lv_if_eq (tgt := 1921) hx hb dL_law_1916 (by decide) (fun c518 => ?_) (fun c518 => ?_)
      · replace hf := (if_pos c518).symm.trans hf
        refine lv_goto (tgt := 3358) hx hb dL_law_1921 (by decide) ?_
        exact L_law_3358_W hC hQ hst h_28 hf hw (lv_sub hl [2, 3, 4, 5, 6, 7] rfl)
      · replace hf := (if_neg c518).symm.trans hf
        refine lv_iconst (v := 0) hx hb dL_law_1919 (by decide) ?_
        cases hf
        exact hQ _ _ _ _ _ _ dL_law_1920 gz0 hw
  · replace hf := (if_neg c520).symm.trans hf
    refine lv_iconst (v := 0) hx hb dL_law_1902 (by decide) ?_
    cases hf
    exact hQ _ _ _ _ _ _ dL_law_1903 gz0 hw

def L_law_1924 (E : gE) (r_28 : Nat → Nat → Nat → Nat → Nat → Int32 → gS → Option (Int32 × gS)) (l0 : Nat) (l1 : Nat) (l2 : Nat) (l3 : Nat) (l4 : Nat) (l5 : Int32) (σ : gS) : Option (Int32 × gS) :=
  ob (graI E 0 σ l0 (l5 + (1 : Int32))) fun x521 =>
  ob (L_sumSelected_f E l1 x521 l3 σ) fun x523 =>
  ob (graI E 0 x523.2 l0 (l5 + (1 : Int32))) fun x525 =>
  ob (gcl x523.2 l2 11) fun _ =>
  ob (X13_sumSelected_f E l2 x525 x523.2) fun x527 =>
  ob (gcl x527.2 l2 11) fun _ =>
  ob (X13_thrown_f E x527.2 l2) fun x530 =>
  if x530 = x523.1 then
    if x523.1 = 0 then
      ob (graJ E x527.2 l3 (0 : Int32)) fun x533 =>
      if (lg_cmp x533 x527.1) = 0 then
        L_law_3358 E r_28 l0 l1 l2 l3 l4 l5 x527.2
      else
        some ((0 : Int32), x527.2)
    else
      L_law_3358 E r_28 l0 l1 l2 l3 l4 l5 x527.2
  else
    some ((0 : Int32), x527.2)
set_option maxHeartbeats 4000000 in
set_option maxRecDepth 100000 in
theorem L_law_1924_W {σ : gS} {l0 : Nat} {l1 : Nat} {l2 : Nat} {l3 : Nat} {l4 : Nat} {l5 : Int32} {res : (Int32 × gS)} {ls : Array Slot} (hC : gC E D A p R s m args meth c cL_law 10 RL nm 11 259) (hQ : gQI E D A p l e R s m args below meth c Q cL_law FieldType.boolean res) (hst : l.stackTraces = false) {r_28 : Nat → Nat → Nat → Nat → Nat → Int32 → gS → Option (Int32 × gS)} (h_28 : ∀ {l0 : Nat} {l1 : Nat} {l2 : Nat} {l3 : Nat} {l4 : Nat} {l5 : Int32} {σ : gS} {H : Heap} {locs : List Loc} {cells slots : Nat} {ls : Array Slot}, r_28 l0 l1 l2 l3 l4 l5 σ = some res → gW E D A s σ H locs → lv_has ls 10 [(0, .ref l0), (1, .ref l1), (2, .ref l2), (3, .ref l3), (4, .ref l4), (5, .int l5)] → W p l e R s m args below meth c H locs cells slots Q (F0 m 28 ls [])) (hf : L_law_1924 E r_28 l0 l1 l2 l3 l4 l5 σ = some res) (hw : gW E D A s σ H locs) (hl : lv_has ls 10 [(0, .ref l0), (1, .ref l1), (2, .ref l2), (3, .ref l3), (4, .ref l4), (5, .int l5)]) : W p l e R s m args below meth c H locs cells slots Q (F0 m 1924 ls []) := by
  have hC0 := hC
  obtain ⟨hx, hb, hml, hown, hts, -⟩ := hC0
  unfold L_law_1924 at hf
  refine lv_aload_n hx hb dL_law_1924 rfl (lv_at hl 1 rfl) ?_
  refine lv_aload_n hx hb dL_law_1925 rfl (lv_at hl 0 rfl) ?_
  refine lv_iload hx hb dL_law_1926 (lv_at hl 5 rfl) ?_
  refine lv_iconst (v := 1) hx hb dL_law_1928 (by decide) ?_
  refine lv_iadd hx hb dL_law_1929 ?_
  obtain ⟨x521, h522, hf⟩ := ob_some hf
  refine gg_aldI hC hw h522 dL_law_1930 ?_
  refine lv_aload_n hx hb dL_law_1931 rfl (lv_at hl 3 rfl) ?_
  obtain ⟨x523, h524, hf⟩ := ob_some hf
  refine gg_yHI (As := [.ref l1, .int x521, .ref l3]) hC hw (L_sumSelected_M l hst E D A h524) g_ml_L_285 hd_L_sumSelected.2 (Nat.le_of_ble_eq_true rfl) (Nat.le_of_ble_eq_true rfl) hl.1 rfl (Nat.le_of_ble_eq_true rfl) dL_law_1932 (fun _ _ he => nomatch (congrArg Prod.fst he)) (fun r9 σ9 he H locs cells slots hw => ?_)
  cases he
  refine lv_istore (lv' := [(6, .int x523.1), (0, .ref l0), (1, .ref l1), (2, .ref l2), (3, .ref l3), (4, .ref l4), (5, .int l5)]) hx hb dL_law_1935 hl (by decide) rfl (fun ls hl => ?_)
  refine lv_aload_n hx hb dL_law_1937 rfl (lv_at hl 3 rfl) ?_
  refine lv_aload_n hx hb dL_law_1938 rfl (lv_at hl 1 rfl) ?_
  refine lv_iload hx hb dL_law_1939 (lv_at hl 6 rfl) ?_
  refine lv_iconst (v := 1) hx hb dL_law_1941 (by decide) ?_
  refine lv_iadd hx hb dL_law_1942 ?_
  obtain ⟨x525, h526, hf⟩ := ob_some hf
  refine gg_aldI hC hw h526 dL_law_1943 ?_
  obtain ⟨_, h529, hf⟩ := ob_some hf
  obtain ⟨x527, h528, hf⟩ := ob_some hf
  refine gg_cVJ (As := [.int x525]) hC hw (X13_sumSelected_M l E D A h528) h529 rfl g_ml_L_287 hd_X13_sumSelected (Nat.le_of_ble_eq_true rfl) (Nat.le_of_ble_eq_true rfl) hl.1 rfl (Nat.le_of_ble_eq_true rfl) dL_law_1944 (fun H locs cells slots hw => ?_)
  refine lv_lstore (lv' := [(7, .long x527.1), (6, .int x523.1), (0, .ref l0), (1, .ref l1), (2, .ref l2), (3, .ref l3), (4, .ref l4), (5, .int l5)]) hx hb dL_law_1947 hl (by decide) rfl (fun ls hl => ?_)
  refine lv_aload_n hx hb dL_law_1949 rfl (lv_at hl 4 rfl) ?_
  obtain ⟨_, h532, hf⟩ := ob_some hf
  obtain ⟨x530, h531, hf⟩ := ob_some hf
  refine gg_cVI (As := []) hC hw (X13_thrown_M l E D A h531) h532 rfl g_ml_L_174 hd_X13_thrown (Nat.le_of_ble_eq_true rfl) (Nat.le_of_ble_eq_true rfl) hl.1 rfl (Nat.le_of_ble_eq_true rfl) dL_law_1950 (fun H locs cells slots hw => ?_)
  refine lv_iload hx hb dL_law_1953 (lv_at hl 1 rfl) ?_
  refine lv_icmp_eq (tgt := 1960) hx hb dL_law_1955 (by decide) (fun c537 => ?_) (fun c537 => ?_)
  · replace hf := (if_pos c537).symm.trans hf
    refine lv_iload hx hb dL_law_1960 (lv_at hl 1 rfl) ?_
    refine lv_if_ne (tgt := 1976) hx hb dL_law_1962 (by decide) (fun c536 => ?_) (fun c536 => ?_)
    · replace hf := (if_neg c536).symm.trans hf
      refine lv_goto (tgt := 3358) hx hb dL_law_1976 (by decide) ?_
      exact L_law_3358_W hC hQ hst h_28 hf hw (lv_sub hl [2, 3, 4, 5, 6, 7] rfl)
    · replace hf := (if_pos c536).symm.trans hf
      refine lv_aload_n hx hb dL_law_1965 rfl (lv_at hl 5 rfl) ?_
      refine lv_iconst (v := 0) hx hb dL_law_1966 (by decide) ?_
      obtain ⟨x533, h534, hf⟩ := ob_some hf
      refine gg_aldJ hC hw h534 dL_law_1967 ?_
      refine lv_lload hx hb dL_law_1968 (lv_at hl 0 rfl) ?_
      refine W.lcmp hx hb dL_law_1970 ?_
      refine lv_if_eq (tgt := 1976) hx hb dL_law_1971 (by decide) (fun c535 => ?_) (fun c535 => ?_)
      · replace hf := (if_pos c535).symm.trans hf
        refine lv_goto (tgt := 3358) hx hb dL_law_1976 (by decide) ?_
        exact L_law_3358_W hC hQ hst h_28 hf hw (lv_sub hl [2, 3, 4, 5, 6, 7] rfl)
      · replace hf := (if_neg c535).symm.trans hf
        refine lv_iconst (v := 0) hx hb dL_law_1974 (by decide) ?_
        cases hf
        exact hQ _ _ _ _ _ _ dL_law_1975 gz0 hw
  · replace hf := (if_neg c537).symm.trans hf
    refine lv_iconst (v := 0) hx hb dL_law_1958 (by decide) ?_
    cases hf
    exact hQ _ _ _ _ _ _ dL_law_1959 gz0 hw

def L_law_1979 (E : gE) (r_28 : Nat → Nat → Nat → Nat → Nat → Int32 → gS → Option (Int32 × gS)) (l0 : Nat) (l1 : Nat) (l2 : Nat) (l3 : Nat) (l4 : Nat) (l5 : Int32) (σ : gS) : Option (Int32 × gS) :=
  ob (graI E 0 σ l0 (l5 + (1 : Int32))) fun x538 =>
  ob (L_smallestSelected_f E l1 x538 l3 σ) fun x540 =>
  ob (graI E 0 x540.2 l0 (l5 + (1 : Int32))) fun x542 =>
  ob (gcl x540.2 l2 11) fun _ =>
  ob (X13_smallestSelected_f E l2 x542 x540.2) fun x544 =>
  ob (gcl x544.2 l2 11) fun _ =>
  ob (X13_thrown_f E x544.2 l2) fun x547 =>
  if x547 = x540.1 then
    if x540.1 = 0 then
      ob (graJ E x544.2 l3 (0 : Int32)) fun x550 =>
      if (lg_cmp x550 ((x544.1).toInt64)) = 0 then
        L_law_3358 E r_28 l0 l1 l2 l3 l4 l5 x544.2
      else
        some ((0 : Int32), x544.2)
    else
      L_law_3358 E r_28 l0 l1 l2 l3 l4 l5 x544.2
  else
    some ((0 : Int32), x544.2)
set_option maxHeartbeats 4000000 in
set_option maxRecDepth 100000 in
theorem L_law_1979_W {σ : gS} {l0 : Nat} {l1 : Nat} {l2 : Nat} {l3 : Nat} {l4 : Nat} {l5 : Int32} {res : (Int32 × gS)} {ls : Array Slot} (hC : gC E D A p R s m args meth c cL_law 10 RL nm 11 259) (hQ : gQI E D A p l e R s m args below meth c Q cL_law FieldType.boolean res) (hst : l.stackTraces = false) {r_28 : Nat → Nat → Nat → Nat → Nat → Int32 → gS → Option (Int32 × gS)} (h_28 : ∀ {l0 : Nat} {l1 : Nat} {l2 : Nat} {l3 : Nat} {l4 : Nat} {l5 : Int32} {σ : gS} {H : Heap} {locs : List Loc} {cells slots : Nat} {ls : Array Slot}, r_28 l0 l1 l2 l3 l4 l5 σ = some res → gW E D A s σ H locs → lv_has ls 10 [(0, .ref l0), (1, .ref l1), (2, .ref l2), (3, .ref l3), (4, .ref l4), (5, .int l5)] → W p l e R s m args below meth c H locs cells slots Q (F0 m 28 ls [])) (hf : L_law_1979 E r_28 l0 l1 l2 l3 l4 l5 σ = some res) (hw : gW E D A s σ H locs) (hl : lv_has ls 10 [(0, .ref l0), (1, .ref l1), (2, .ref l2), (3, .ref l3), (4, .ref l4), (5, .int l5)]) : W p l e R s m args below meth c H locs cells slots Q (F0 m 1979 ls []) := by
  have hC0 := hC
  obtain ⟨hx, hb, hml, hown, hts, -⟩ := hC0
  unfold L_law_1979 at hf
  refine lv_aload_n hx hb dL_law_1979 rfl (lv_at hl 1 rfl) ?_
  refine lv_aload_n hx hb dL_law_1980 rfl (lv_at hl 0 rfl) ?_
  refine lv_iload hx hb dL_law_1981 (lv_at hl 5 rfl) ?_
  refine lv_iconst (v := 1) hx hb dL_law_1983 (by decide) ?_
  refine lv_iadd hx hb dL_law_1984 ?_
  obtain ⟨x538, h539, hf⟩ := ob_some hf
  refine gg_aldI hC hw h539 dL_law_1985 ?_
  refine lv_aload_n hx hb dL_law_1986 rfl (lv_at hl 3 rfl) ?_
  obtain ⟨x540, h541, hf⟩ := ob_some hf
  refine gg_yHI (As := [.ref l1, .int x538, .ref l3]) hC hw (L_smallestSelected_M l hst E D A h541) g_ml_L_288 hd_L_smallestSelected.2 (Nat.le_of_ble_eq_true rfl) (Nat.le_of_ble_eq_true rfl) hl.1 rfl (Nat.le_of_ble_eq_true rfl) dL_law_1987 (fun _ _ he => nomatch (congrArg Prod.fst he)) (fun r9 σ9 he H locs cells slots hw => ?_)
  cases he
  refine lv_istore (lv' := [(6, .int x540.1), (0, .ref l0), (1, .ref l1), (2, .ref l2), (3, .ref l3), (4, .ref l4), (5, .int l5)]) hx hb dL_law_1990 hl (by decide) rfl (fun ls hl => ?_)
  refine lv_aload_n hx hb dL_law_1992 rfl (lv_at hl 3 rfl) ?_
  refine lv_aload_n hx hb dL_law_1993 rfl (lv_at hl 1 rfl) ?_
  refine lv_iload hx hb dL_law_1994 (lv_at hl 6 rfl) ?_
  refine lv_iconst (v := 1) hx hb dL_law_1996 (by decide) ?_
  refine lv_iadd hx hb dL_law_1997 ?_
  obtain ⟨x542, h543, hf⟩ := ob_some hf
  refine gg_aldI hC hw h543 dL_law_1998 ?_
  obtain ⟨_, h546, hf⟩ := ob_some hf
  obtain ⟨x544, h545, hf⟩ := ob_some hf
  refine gg_cVI (As := [.int x542]) hC hw (X13_smallestSelected_M l E D A h545) h546 rfl g_ml_L_290 hd_X13_smallestSelected (Nat.le_of_ble_eq_true rfl) (Nat.le_of_ble_eq_true rfl) hl.1 rfl (Nat.le_of_ble_eq_true rfl) dL_law_1999 (fun H locs cells slots hw => ?_)
  refine lv_istore (lv' := [(7, .int x544.1), (6, .int x540.1), (0, .ref l0), (1, .ref l1), (2, .ref l2), (3, .ref l3), (4, .ref l4), (5, .int l5)]) hx hb dL_law_2002 hl (by decide) rfl (fun ls hl => ?_)
  refine lv_aload_n hx hb dL_law_2004 rfl (lv_at hl 4 rfl) ?_
  obtain ⟨_, h549, hf⟩ := ob_some hf
  obtain ⟨x547, h548, hf⟩ := ob_some hf
  refine gg_cVI (As := []) hC hw (X13_thrown_M l E D A h548) h549 rfl g_ml_L_174 hd_X13_thrown (Nat.le_of_ble_eq_true rfl) (Nat.le_of_ble_eq_true rfl) hl.1 rfl (Nat.le_of_ble_eq_true rfl) dL_law_2005 (fun H locs cells slots hw => ?_)
  refine lv_iload hx hb dL_law_2008 (lv_at hl 1 rfl) ?_
  refine lv_icmp_eq (tgt := 2015) hx hb dL_law_2010 (by decide) (fun c554 => ?_) (fun c554 => ?_)
  · replace hf := (if_pos c554).symm.trans hf
    refine lv_iload hx hb dL_law_2015 (lv_at hl 1 rfl) ?_
    refine lv_if_ne (tgt := 2032) hx hb dL_law_2017 (by decide) (fun c553 => ?_) (fun c553 => ?_)
    · replace hf := (if_neg c553).symm.trans hf
      refine lv_goto (tgt := 3358) hx hb dL_law_2032 (by decide) ?_
      exact L_law_3358_W hC hQ hst h_28 hf hw (lv_sub hl [2, 3, 4, 5, 6, 7] rfl)
    · replace hf := (if_pos c553).symm.trans hf
      refine lv_aload_n hx hb dL_law_2020 rfl (lv_at hl 5 rfl) ?_
      refine lv_iconst (v := 0) hx hb dL_law_2021 (by decide) ?_
      obtain ⟨x550, h551, hf⟩ := ob_some hf
      refine gg_aldJ hC hw h551 dL_law_2022 ?_
      refine lv_iload hx hb dL_law_2023 (lv_at hl 0 rfl) ?_
      refine lv_i2l (v := (x544.1).toInt64) hx hb dL_law_2025 rfl ?_
      refine W.lcmp hx hb dL_law_2026 ?_
      refine lv_if_eq (tgt := 2032) hx hb dL_law_2027 (by decide) (fun c552 => ?_) (fun c552 => ?_)
      · replace hf := (if_pos c552).symm.trans hf
        refine lv_goto (tgt := 3358) hx hb dL_law_2032 (by decide) ?_
        exact L_law_3358_W hC hQ hst h_28 hf hw (lv_sub hl [2, 3, 4, 5, 6, 7] rfl)
      · replace hf := (if_neg c552).symm.trans hf
        refine lv_iconst (v := 0) hx hb dL_law_2030 (by decide) ?_
        cases hf
        exact hQ _ _ _ _ _ _ dL_law_2031 gz0 hw
  · replace hf := (if_neg c554).symm.trans hf
    refine lv_iconst (v := 0) hx hb dL_law_2013 (by decide) ?_
    cases hf
    exact hQ _ _ _ _ _ _ dL_law_2014 gz0 hw

def L_law_2035 (E : gE) (r_28 : Nat → Nat → Nat → Nat → Nat → Int32 → gS → Option (Int32 × gS)) (l0 : Nat) (l1 : Nat) (l2 : Nat) (l3 : Nat) (l4 : Nat) (l5 : Int32) (σ : gS) : Option (Int32 × gS) :=
  ob (graI E 0 σ l0 (l5 + (1 : Int32))) fun x555 =>
  ob (L_greatestSelected_f E l1 x555 l3 σ) fun x557 =>
  ob (graI E 0 x557.2 l0 (l5 + (1 : Int32))) fun x559 =>
  ob (gcl x557.2 l2 11) fun _ =>
  ob (X13_greatestSelected_f E l2 x559 x557.2) fun x561 =>
  ob (gcl x561.2 l2 11) fun _ =>
  ob (X13_thrown_f E x561.2 l2) fun x564 =>
  if x564 = x557.1 then
    if x557.1 = 0 then
      ob (graJ E x561.2 l3 (0 : Int32)) fun x567 =>
      if (lg_cmp x567 ((x561.1).toInt64)) = 0 then
        L_law_3358 E r_28 l0 l1 l2 l3 l4 l5 x561.2
      else
        some ((0 : Int32), x561.2)
    else
      L_law_3358 E r_28 l0 l1 l2 l3 l4 l5 x561.2
  else
    some ((0 : Int32), x561.2)
set_option maxHeartbeats 4000000 in
set_option maxRecDepth 100000 in
theorem L_law_2035_W {σ : gS} {l0 : Nat} {l1 : Nat} {l2 : Nat} {l3 : Nat} {l4 : Nat} {l5 : Int32} {res : (Int32 × gS)} {ls : Array Slot} (hC : gC E D A p R s m args meth c cL_law 10 RL nm 11 259) (hQ : gQI E D A p l e R s m args below meth c Q cL_law FieldType.boolean res) (hst : l.stackTraces = false) {r_28 : Nat → Nat → Nat → Nat → Nat → Int32 → gS → Option (Int32 × gS)} (h_28 : ∀ {l0 : Nat} {l1 : Nat} {l2 : Nat} {l3 : Nat} {l4 : Nat} {l5 : Int32} {σ : gS} {H : Heap} {locs : List Loc} {cells slots : Nat} {ls : Array Slot}, r_28 l0 l1 l2 l3 l4 l5 σ = some res → gW E D A s σ H locs → lv_has ls 10 [(0, .ref l0), (1, .ref l1), (2, .ref l2), (3, .ref l3), (4, .ref l4), (5, .int l5)] → W p l e R s m args below meth c H locs cells slots Q (F0 m 28 ls [])) (hf : L_law_2035 E r_28 l0 l1 l2 l3 l4 l5 σ = some res) (hw : gW E D A s σ H locs) (hl : lv_has ls 10 [(0, .ref l0), (1, .ref l1), (2, .ref l2), (3, .ref l3), (4, .ref l4), (5, .int l5)]) : W p l e R s m args below meth c H locs cells slots Q (F0 m 2035 ls []) := by
  have hC0 := hC
  obtain ⟨hx, hb, hml, hown, hts, -⟩ := hC0
  unfold L_law_2035 at hf
  refine lv_aload_n hx hb dL_law_2035 rfl (lv_at hl 1 rfl) ?_
  refine lv_aload_n hx hb dL_law_2036 rfl (lv_at hl 0 rfl) ?_
  refine lv_iload hx hb dL_law_2037 (lv_at hl 5 rfl) ?_
  refine lv_iconst (v := 1) hx hb dL_law_2039 (by decide) ?_
  refine lv_iadd hx hb dL_law_2040 ?_
  obtain ⟨x555, h556, hf⟩ := ob_some hf
  refine gg_aldI hC hw h556 dL_law_2041 ?_
  refine lv_aload_n hx hb dL_law_2042 rfl (lv_at hl 3 rfl) ?_
  obtain ⟨x557, h558, hf⟩ := ob_some hf
  refine gg_yHI (As := [.ref l1, .int x555, .ref l3]) hC hw (L_greatestSelected_M l hst E D A h558) g_ml_L_291 hd_L_greatestSelected.2 (Nat.le_of_ble_eq_true rfl) (Nat.le_of_ble_eq_true rfl) hl.1 rfl (Nat.le_of_ble_eq_true rfl) dL_law_2043 (fun _ _ he => nomatch (congrArg Prod.fst he)) (fun r9 σ9 he H locs cells slots hw => ?_)
  cases he
  refine lv_istore (lv' := [(6, .int x557.1), (0, .ref l0), (1, .ref l1), (2, .ref l2), (3, .ref l3), (4, .ref l4), (5, .int l5)]) hx hb dL_law_2046 hl (by decide) rfl (fun ls hl => ?_)
  refine lv_aload_n hx hb dL_law_2048 rfl (lv_at hl 3 rfl) ?_
  refine lv_aload_n hx hb dL_law_2049 rfl (lv_at hl 1 rfl) ?_
  refine lv_iload hx hb dL_law_2050 (lv_at hl 6 rfl) ?_
  refine lv_iconst (v := 1) hx hb dL_law_2052 (by decide) ?_
  refine lv_iadd hx hb dL_law_2053 ?_
  obtain ⟨x559, h560, hf⟩ := ob_some hf
  refine gg_aldI hC hw h560 dL_law_2054 ?_
  obtain ⟨_, h563, hf⟩ := ob_some hf
  obtain ⟨x561, h562, hf⟩ := ob_some hf
  refine gg_cVI (As := [.int x559]) hC hw (X13_greatestSelected_M l E D A h562) h563 rfl g_ml_L_293 hd_X13_greatestSelected (Nat.le_of_ble_eq_true rfl) (Nat.le_of_ble_eq_true rfl) hl.1 rfl (Nat.le_of_ble_eq_true rfl) dL_law_2055 (fun H locs cells slots hw => ?_)
  refine lv_istore (lv' := [(7, .int x561.1), (6, .int x557.1), (0, .ref l0), (1, .ref l1), (2, .ref l2), (3, .ref l3), (4, .ref l4), (5, .int l5)]) hx hb dL_law_2058 hl (by decide) rfl (fun ls hl => ?_)
  refine lv_aload_n hx hb dL_law_2060 rfl (lv_at hl 4 rfl) ?_
  obtain ⟨_, h566, hf⟩ := ob_some hf
  obtain ⟨x564, h565, hf⟩ := ob_some hf
  refine gg_cVI (As := []) hC hw (X13_thrown_M l E D A h565) h566 rfl g_ml_L_174 hd_X13_thrown (Nat.le_of_ble_eq_true rfl) (Nat.le_of_ble_eq_true rfl) hl.1 rfl (Nat.le_of_ble_eq_true rfl) dL_law_2061 (fun H locs cells slots hw => ?_)
  refine lv_iload hx hb dL_law_2064 (lv_at hl 1 rfl) ?_
  refine lv_icmp_eq (tgt := 2071) hx hb dL_law_2066 (by decide) (fun c571 => ?_) (fun c571 => ?_)
  · replace hf := (if_pos c571).symm.trans hf
    refine lv_iload hx hb dL_law_2071 (lv_at hl 1 rfl) ?_
    refine lv_if_ne (tgt := 2088) hx hb dL_law_2073 (by decide) (fun c570 => ?_) (fun c570 => ?_)
    · replace hf := (if_neg c570).symm.trans hf
      refine lv_goto (tgt := 3358) hx hb dL_law_2088 (by decide) ?_
      exact L_law_3358_W hC hQ hst h_28 hf hw (lv_sub hl [2, 3, 4, 5, 6, 7] rfl)
    · replace hf := (if_pos c570).symm.trans hf
      refine lv_aload_n hx hb dL_law_2076 rfl (lv_at hl 5 rfl) ?_
      refine lv_iconst (v := 0) hx hb dL_law_2077 (by decide) ?_
      obtain ⟨x567, h568, hf⟩ := ob_some hf
      refine gg_aldJ hC hw h568 dL_law_2078 ?_
      refine lv_iload hx hb dL_law_2079 (lv_at hl 0 rfl) ?_
      refine lv_i2l (v := (x561.1).toInt64) hx hb dL_law_2081 rfl ?_
      refine W.lcmp hx hb dL_law_2082 ?_
      refine lv_if_eq (tgt := 2088) hx hb dL_law_2083 (by decide) (fun c569 => ?_) (fun c569 => ?_)
      · replace hf := (if_pos c569).symm.trans hf
        refine lv_goto (tgt := 3358) hx hb dL_law_2088 (by decide) ?_
        exact L_law_3358_W hC hQ hst h_28 hf hw (lv_sub hl [2, 3, 4, 5, 6, 7] rfl)
      · replace hf := (if_neg c569).symm.trans hf
        refine lv_iconst (v := 0) hx hb dL_law_2086 (by decide) ?_
        cases hf
        exact hQ _ _ _ _ _ _ dL_law_2087 gz0 hw
  · replace hf := (if_neg c571).symm.trans hf
    refine lv_iconst (v := 0) hx hb dL_law_2069 (by decide) ?_
    cases hf
    exact hQ _ _ _ _ _ _ dL_law_2070 gz0 hw

def L_law_2091 (E : gE) (r_28 : Nat → Nat → Nat → Nat → Nat → Int32 → gS → Option (Int32 × gS)) (l0 : Nat) (l1 : Nat) (l2 : Nat) (l3 : Nat) (l4 : Nat) (l5 : Int32) (σ : gS) : Option (Int32 × gS) :=
  ob (graI E 0 σ l0 (l5 + (1 : Int32))) fun x572 =>
  ob (L_distinctSelected_f E l1 x572 l3 σ) fun x574 =>
  ob (graI E 0 x574.2 l0 (l5 + (1 : Int32))) fun x576 =>
  ob (gcl x574.2 l2 11) fun _ =>
  ob (X13_distinctSelected_f E l2 x576 x574.2) fun x578 =>
  ob (gcl x578.2 l2 11) fun _ =>
  ob (X13_thrown_f E x578.2 l2) fun x581 =>
  if x581 = x574.1 then
    if x574.1 = 0 then
      ob (graJ E x578.2 l3 (0 : Int32)) fun x584 =>
      if (lg_cmp x584 ((x578.1).toInt64)) = 0 then
        L_law_3358 E r_28 l0 l1 l2 l3 l4 l5 x578.2
      else
        some ((0 : Int32), x578.2)
    else
      L_law_3358 E r_28 l0 l1 l2 l3 l4 l5 x578.2
  else
    some ((0 : Int32), x578.2)
set_option maxHeartbeats 4000000 in
set_option maxRecDepth 100000 in
theorem L_law_2091_W {σ : gS} {l0 : Nat} {l1 : Nat} {l2 : Nat} {l3 : Nat} {l4 : Nat} {l5 : Int32} {res : (Int32 × gS)} {ls : Array Slot} (hC : gC E D A p R s m args meth c cL_law 10 RL nm 11 259) (hQ : gQI E D A p l e R s m args below meth c Q cL_law FieldType.boolean res) (hst : l.stackTraces = false) {r_28 : Nat → Nat → Nat → Nat → Nat → Int32 → gS → Option (Int32 × gS)} (h_28 : ∀ {l0 : Nat} {l1 : Nat} {l2 : Nat} {l3 : Nat} {l4 : Nat} {l5 : Int32} {σ : gS} {H : Heap} {locs : List Loc} {cells slots : Nat} {ls : Array Slot}, r_28 l0 l1 l2 l3 l4 l5 σ = some res → gW E D A s σ H locs → lv_has ls 10 [(0, .ref l0), (1, .ref l1), (2, .ref l2), (3, .ref l3), (4, .ref l4), (5, .int l5)] → W p l e R s m args below meth c H locs cells slots Q (F0 m 28 ls [])) (hf : L_law_2091 E r_28 l0 l1 l2 l3 l4 l5 σ = some res) (hw : gW E D A s σ H locs) (hl : lv_has ls 10 [(0, .ref l0), (1, .ref l1), (2, .ref l2), (3, .ref l3), (4, .ref l4), (5, .int l5)]) : W p l e R s m args below meth c H locs cells slots Q (F0 m 2091 ls []) := by
  have hC0 := hC
  obtain ⟨hx, hb, hml, hown, hts, -⟩ := hC0
  unfold L_law_2091 at hf
  refine lv_aload_n hx hb dL_law_2091 rfl (lv_at hl 1 rfl) ?_
  refine lv_aload_n hx hb dL_law_2092 rfl (lv_at hl 0 rfl) ?_
  refine lv_iload hx hb dL_law_2093 (lv_at hl 5 rfl) ?_
  refine lv_iconst (v := 1) hx hb dL_law_2095 (by decide) ?_
  refine lv_iadd hx hb dL_law_2096 ?_
  obtain ⟨x572, h573, hf⟩ := ob_some hf
  refine gg_aldI hC hw h573 dL_law_2097 ?_
  refine lv_aload_n hx hb dL_law_2098 rfl (lv_at hl 3 rfl) ?_
  obtain ⟨x574, h575, hf⟩ := ob_some hf
  refine gg_yHI (As := [.ref l1, .int x572, .ref l3]) hC hw (L_distinctSelected_M l hst E D A h575) g_ml_L_294 hd_L_distinctSelected.2 (Nat.le_of_ble_eq_true rfl) (Nat.le_of_ble_eq_true rfl) hl.1 rfl (Nat.le_of_ble_eq_true rfl) dL_law_2099 (fun _ _ he => nomatch (congrArg Prod.fst he)) (fun r9 σ9 he H locs cells slots hw => ?_)
  cases he
  refine lv_istore (lv' := [(6, .int x574.1), (0, .ref l0), (1, .ref l1), (2, .ref l2), (3, .ref l3), (4, .ref l4), (5, .int l5)]) hx hb dL_law_2102 hl (by decide) rfl (fun ls hl => ?_)
  refine lv_aload_n hx hb dL_law_2104 rfl (lv_at hl 3 rfl) ?_
  refine lv_aload_n hx hb dL_law_2105 rfl (lv_at hl 1 rfl) ?_
  refine lv_iload hx hb dL_law_2106 (lv_at hl 6 rfl) ?_
  refine lv_iconst (v := 1) hx hb dL_law_2108 (by decide) ?_
  refine lv_iadd hx hb dL_law_2109 ?_
  obtain ⟨x576, h577, hf⟩ := ob_some hf
  refine gg_aldI hC hw h577 dL_law_2110 ?_
  obtain ⟨_, h580, hf⟩ := ob_some hf
  obtain ⟨x578, h579, hf⟩ := ob_some hf
  refine gg_cVI (As := [.int x576]) hC hw (X13_distinctSelected_M l E D A h579) h580 rfl g_ml_L_296 hd_X13_distinctSelected (Nat.le_of_ble_eq_true rfl) (Nat.le_of_ble_eq_true rfl) hl.1 rfl (Nat.le_of_ble_eq_true rfl) dL_law_2111 (fun H locs cells slots hw => ?_)
  refine lv_istore (lv' := [(7, .int x578.1), (6, .int x574.1), (0, .ref l0), (1, .ref l1), (2, .ref l2), (3, .ref l3), (4, .ref l4), (5, .int l5)]) hx hb dL_law_2114 hl (by decide) rfl (fun ls hl => ?_)
  refine lv_aload_n hx hb dL_law_2116 rfl (lv_at hl 4 rfl) ?_
  obtain ⟨_, h583, hf⟩ := ob_some hf
  obtain ⟨x581, h582, hf⟩ := ob_some hf
  refine gg_cVI (As := []) hC hw (X13_thrown_M l E D A h582) h583 rfl g_ml_L_174 hd_X13_thrown (Nat.le_of_ble_eq_true rfl) (Nat.le_of_ble_eq_true rfl) hl.1 rfl (Nat.le_of_ble_eq_true rfl) dL_law_2117 (fun H locs cells slots hw => ?_)
  refine lv_iload hx hb dL_law_2120 (lv_at hl 1 rfl) ?_
  refine lv_icmp_eq (tgt := 2127) hx hb dL_law_2122 (by decide) (fun c588 => ?_) (fun c588 => ?_)
  · replace hf := (if_pos c588).symm.trans hf
    refine lv_iload hx hb dL_law_2127 (lv_at hl 1 rfl) ?_
    refine lv_if_ne (tgt := 2144) hx hb dL_law_2129 (by decide) (fun c587 => ?_) (fun c587 => ?_)
    · replace hf := (if_neg c587).symm.trans hf
      refine lv_goto (tgt := 3358) hx hb dL_law_2144 (by decide) ?_
      exact L_law_3358_W hC hQ hst h_28 hf hw (lv_sub hl [2, 3, 4, 5, 6, 7] rfl)
    · replace hf := (if_pos c587).symm.trans hf
      refine lv_aload_n hx hb dL_law_2132 rfl (lv_at hl 5 rfl) ?_
      refine lv_iconst (v := 0) hx hb dL_law_2133 (by decide) ?_
      obtain ⟨x584, h585, hf⟩ := ob_some hf
      refine gg_aldJ hC hw h585 dL_law_2134 ?_
      refine lv_iload hx hb dL_law_2135 (lv_at hl 0 rfl) ?_
      refine lv_i2l (v := (x578.1).toInt64) hx hb dL_law_2137 rfl ?_
      refine W.lcmp hx hb dL_law_2138 ?_
      refine lv_if_eq (tgt := 2144) hx hb dL_law_2139 (by decide) (fun c586 => ?_) (fun c586 => ?_)
      · replace hf := (if_pos c586).symm.trans hf
        refine lv_goto (tgt := 3358) hx hb dL_law_2144 (by decide) ?_
        exact L_law_3358_W hC hQ hst h_28 hf hw (lv_sub hl [2, 3, 4, 5, 6, 7] rfl)
      · replace hf := (if_neg c586).symm.trans hf
        refine lv_iconst (v := 0) hx hb dL_law_2142 (by decide) ?_
        cases hf
        exact hQ _ _ _ _ _ _ dL_law_2143 gz0 hw
  · replace hf := (if_neg c588).symm.trans hf
    refine lv_iconst (v := 0) hx hb dL_law_2125 (by decide) ?_
    cases hf
    exact hQ _ _ _ _ _ _ dL_law_2126 gz0 hw

def L_law_2219 (E : gE) (σ : gS) : Option (Int32 × gS) :=
  some ((0 : Int32), σ)
set_option maxHeartbeats 4000000 in
set_option maxRecDepth 100000 in
theorem L_law_2219_W {σ : gS} {res : (Int32 × gS)} {ls : Array Slot} (hC : gC E D A p R s m args meth c cL_law 10 RL nm 11 259) (hQ : gQI E D A p l e R s m args below meth c Q cL_law FieldType.boolean res) (hst : l.stackTraces = false) (hf : L_law_2219 E σ = some res) (hw : gW E D A s σ H locs) (hl : lv_has ls 10 []) : W p l e R s m args below meth c H locs cells slots Q (F0 m 2219 ls []) := by
  have hC0 := hC
  obtain ⟨hx, hb, hml, hown, hts, -⟩ := hC0
  unfold L_law_2219 at hf
  refine lv_iconst (v := 0) hx hb dL_law_2219 (by decide) ?_
  cases hf
  exact hQ _ _ _ _ _ _ dL_law_2220 gz0 hw

def L_law_2147 (E : gE) (r_28 : Nat → Nat → Nat → Nat → Nat → Int32 → gS → Option (Int32 × gS)) (l0 : Nat) (l1 : Nat) (l2 : Nat) (l3 : Nat) (l4 : Nat) (l5 : Int32) (σ : gS) : Option (Int32 × gS) :=
  ob (graI E 0 σ l0 (l5 + (1 : Int32))) fun x589 =>
  ob (L_meanSelected_f E l1 x589 l4 σ) fun x591 =>
  ob (graI E 0 x591.2 l0 (l5 + (1 : Int32))) fun x593 =>
  ob (gcl x591.2 l2 11) fun _ =>
  ob (X13_meanSelected_f E l2 x593 x591.2) fun x595 =>
  ob (gcl x595.2 l2 11) fun _ =>
  ob (X13_thrown_f E x595.2 l2) fun x598 =>
  if x598 = x591.1 then
    if x591.1 = 0 then
      ob (graD E x595.2 l4 (0 : Int32)) fun x601 =>
      if (Op.cmpValue (FP.dcmp x601 x595.1) .l) = 0 then
        L_law_3358 E r_28 l0 l1 l2 l3 l4 l5 x595.2
      else
        ob (graD E x595.2 l4 (0 : Int32)) fun x603 =>
        ob (graD E x595.2 l4 (0 : Int32)) fun x605 =>
        if (Op.cmpValue (FP.dcmp x603 x605) .l) = 0 then
          L_law_2219 E x595.2
        else
          if (Op.cmpValue (FP.dcmp x595.1 x595.1) .l) = 0 then
            L_law_2219 E x595.2
          else
            L_law_3358 E r_28 l0 l1 l2 l3 l4 l5 x595.2
    else
      L_law_3358 E r_28 l0 l1 l2 l3 l4 l5 x595.2
  else
    some ((0 : Int32), x595.2)
set_option maxHeartbeats 4000000 in
set_option maxRecDepth 100000 in
theorem L_law_2147_W {σ : gS} {l0 : Nat} {l1 : Nat} {l2 : Nat} {l3 : Nat} {l4 : Nat} {l5 : Int32} {res : (Int32 × gS)} {ls : Array Slot} (hC : gC E D A p R s m args meth c cL_law 10 RL nm 11 259) (hQ : gQI E D A p l e R s m args below meth c Q cL_law FieldType.boolean res) (hst : l.stackTraces = false) {r_28 : Nat → Nat → Nat → Nat → Nat → Int32 → gS → Option (Int32 × gS)} (h_28 : ∀ {l0 : Nat} {l1 : Nat} {l2 : Nat} {l3 : Nat} {l4 : Nat} {l5 : Int32} {σ : gS} {H : Heap} {locs : List Loc} {cells slots : Nat} {ls : Array Slot}, r_28 l0 l1 l2 l3 l4 l5 σ = some res → gW E D A s σ H locs → lv_has ls 10 [(0, .ref l0), (1, .ref l1), (2, .ref l2), (3, .ref l3), (4, .ref l4), (5, .int l5)] → W p l e R s m args below meth c H locs cells slots Q (F0 m 28 ls [])) (hf : L_law_2147 E r_28 l0 l1 l2 l3 l4 l5 σ = some res) (hw : gW E D A s σ H locs) (hl : lv_has ls 10 [(0, .ref l0), (1, .ref l1), (2, .ref l2), (3, .ref l3), (4, .ref l4), (5, .int l5)]) : W p l e R s m args below meth c H locs cells slots Q (F0 m 2147 ls []) := by
  have hC0 := hC
  obtain ⟨hx, hb, hml, hown, hts, -⟩ := hC0
  unfold L_law_2147 at hf
  refine lv_aload_n hx hb dL_law_2147 rfl (lv_at hl 1 rfl) ?_
  refine lv_aload_n hx hb dL_law_2148 rfl (lv_at hl 0 rfl) ?_
  refine lv_iload hx hb dL_law_2149 (lv_at hl 5 rfl) ?_
  refine lv_iconst (v := 1) hx hb dL_law_2151 (by decide) ?_
  refine lv_iadd hx hb dL_law_2152 ?_
  obtain ⟨x589, h590, hf⟩ := ob_some hf
  refine gg_aldI hC hw h590 dL_law_2153 ?_
  refine lv_aload hx hb dL_law_2154 (lv_at hl 4 rfl) ?_
  obtain ⟨x591, h592, hf⟩ := ob_some hf
  refine gg_yHI (As := [.ref l1, .int x589, .ref l4]) hC hw (L_meanSelected_M l hst E D A h592) g_ml_L_297 hd_L_meanSelected.2 (Nat.le_of_ble_eq_true rfl) (Nat.le_of_ble_eq_true rfl) hl.1 rfl (Nat.le_of_ble_eq_true rfl) dL_law_2156 (fun _ _ he => nomatch (congrArg Prod.fst he)) (fun r9 σ9 he H locs cells slots hw => ?_)
  cases he
  refine lv_istore (lv' := [(6, .int x591.1), (0, .ref l0), (1, .ref l1), (2, .ref l2), (3, .ref l3), (4, .ref l4), (5, .int l5)]) hx hb dL_law_2159 hl (by decide) rfl (fun ls hl => ?_)
  refine lv_aload_n hx hb dL_law_2161 rfl (lv_at hl 3 rfl) ?_
  refine lv_aload_n hx hb dL_law_2162 rfl (lv_at hl 1 rfl) ?_
  refine lv_iload hx hb dL_law_2163 (lv_at hl 6 rfl) ?_
  refine lv_iconst (v := 1) hx hb dL_law_2165 (by decide) ?_
  refine lv_iadd hx hb dL_law_2166 ?_
  obtain ⟨x593, h594, hf⟩ := ob_some hf
  refine gg_aldI hC hw h594 dL_law_2167 ?_
  obtain ⟨_, h597, hf⟩ := ob_some hf
  obtain ⟨x595, h596, hf⟩ := ob_some hf
  refine gg_cVD (As := [.int x593]) hC hw (X13_meanSelected_M l E D A h596) h597 rfl g_ml_L_300 hd_X13_meanSelected (Nat.le_of_ble_eq_true rfl) (Nat.le_of_ble_eq_true rfl) hl.1 rfl (Nat.le_of_ble_eq_true rfl) dL_law_2168 (fun H locs cells slots hw => ?_)
  refine lv_dstore (lv' := [(7, .double x595.1), (6, .int x591.1), (0, .ref l0), (1, .ref l1), (2, .ref l2), (3, .ref l3), (4, .ref l4), (5, .int l5)]) hx hb dL_law_2171 hl (by decide) rfl (fun ls hl => ?_)
  refine lv_aload_n hx hb dL_law_2173 rfl (lv_at hl 4 rfl) ?_
  obtain ⟨_, h600, hf⟩ := ob_some hf
  obtain ⟨x598, h599, hf⟩ := ob_some hf
  refine gg_cVI (As := []) hC hw (X13_thrown_M l E D A h599) h600 rfl g_ml_L_174 hd_X13_thrown (Nat.le_of_ble_eq_true rfl) (Nat.le_of_ble_eq_true rfl) hl.1 rfl (Nat.le_of_ble_eq_true rfl) dL_law_2174 (fun H locs cells slots hw => ?_)
  refine lv_iload hx hb dL_law_2177 (lv_at hl 1 rfl) ?_
  refine lv_icmp_eq (tgt := 2184) hx hb dL_law_2179 (by decide) (fun c611 => ?_) (fun c611 => ?_)
  · replace hf := (if_pos c611).symm.trans hf
    refine lv_iload hx hb dL_law_2184 (lv_at hl 1 rfl) ?_
    refine lv_if_ne (tgt := 2221) hx hb dL_law_2186 (by decide) (fun c610 => ?_) (fun c610 => ?_)
    · replace hf := (if_neg c610).symm.trans hf
      refine lv_goto (tgt := 3358) hx hb dL_law_2221 (by decide) ?_
      exact L_law_3358_W hC hQ hst h_28 hf hw (lv_sub hl [2, 3, 4, 5, 6, 7] rfl)
    · replace hf := (if_pos c610).symm.trans hf
      refine lv_aload hx hb dL_law_2189 (lv_at hl 6 rfl) ?_
      refine lv_iconst (v := 0) hx hb dL_law_2191 (by decide) ?_
      obtain ⟨x601, h602, hf⟩ := ob_some hf
      refine gg_aldD hC hw h602 dL_law_2192 ?_
      refine lv_dload hx hb dL_law_2193 (lv_at hl 0 rfl) ?_
      refine lv_dcmp hx hb dL_law_2195 ?_
      refine lv_if_eq (tgt := 2221) hx hb dL_law_2196 (by decide) (fun c609 => ?_) (fun c609 => ?_)
      · replace hf := (if_pos c609).symm.trans hf
        refine lv_goto (tgt := 3358) hx hb dL_law_2221 (by decide) ?_
        exact L_law_3358_W hC hQ hst h_28 hf hw (lv_sub hl [2, 3, 4, 5, 6, 7] rfl)
      · replace hf := (if_neg c609).symm.trans hf
        refine lv_aload hx hb dL_law_2199 (lv_at hl 6 rfl) ?_
        refine lv_iconst (v := 0) hx hb dL_law_2201 (by decide) ?_
        obtain ⟨x603, h604, hf⟩ := ob_some hf
        refine gg_aldD hC hw h604 dL_law_2202 ?_
        refine lv_aload hx hb dL_law_2203 (lv_at hl 6 rfl) ?_
        refine lv_iconst (v := 0) hx hb dL_law_2205 (by decide) ?_
        obtain ⟨x605, h606, hf⟩ := ob_some hf
        refine gg_aldD hC hw h606 dL_law_2206 ?_
        refine lv_dcmp hx hb dL_law_2207 ?_
        refine lv_if_eq (tgt := 2219) hx hb dL_law_2208 (by decide) (fun c608 => ?_) (fun c608 => ?_)
        · replace hf := (if_pos c608).symm.trans hf
          exact L_law_2219_W hC hQ hst hf hw (lv_sub hl [] rfl)
        · replace hf := (if_neg c608).symm.trans hf
          refine lv_dload hx hb dL_law_2211 (lv_at hl 0 rfl) ?_
          refine lv_dload hx hb dL_law_2213 (lv_at hl 0 rfl) ?_
          refine lv_dcmp hx hb dL_law_2215 ?_
          refine lv_if_ne (tgt := 2221) hx hb dL_law_2216 (by decide) (fun c607 => ?_) (fun c607 => ?_)
          · replace hf := (if_neg c607).symm.trans hf
            refine lv_goto (tgt := 3358) hx hb dL_law_2221 (by decide) ?_
            exact L_law_3358_W hC hQ hst h_28 hf hw (lv_sub hl [2, 3, 4, 5, 6, 7] rfl)
          · replace hf := (if_pos c607).symm.trans hf
            exact L_law_2219_W hC hQ hst hf hw (lv_sub hl [] rfl)
  · replace hf := (if_neg c611).symm.trans hf
    refine lv_iconst (v := 0) hx hb dL_law_2182 (by decide) ?_
    cases hf
    exact hQ _ _ _ _ _ _ dL_law_2183 gz0 hw

def L_law_2262 (E : gE) (σ : gS) : Option (Int32 × gS) :=
  some ((0 : Int32), σ)
set_option maxHeartbeats 4000000 in
set_option maxRecDepth 100000 in
theorem L_law_2262_W {σ : gS} {res : (Int32 × gS)} {ls : Array Slot} (hC : gC E D A p R s m args meth c cL_law 10 RL nm 11 259) (hQ : gQI E D A p l e R s m args below meth c Q cL_law FieldType.boolean res) (hst : l.stackTraces = false) (hf : L_law_2262 E σ = some res) (hw : gW E D A s σ H locs) (hl : lv_has ls 10 []) : W p l e R s m args below meth c H locs cells slots Q (F0 m 2262 ls []) := by
  have hC0 := hC
  obtain ⟨hx, hb, hml, hown, hts, -⟩ := hC0
  unfold L_law_2262 at hf
  refine lv_iconst (v := 0) hx hb dL_law_2262 (by decide) ?_
  cases hf
  exact hQ _ _ _ _ _ _ dL_law_2263 gz0 hw

def L_law_2224 (E : gE) (r_28 : Nat → Nat → Nat → Nat → Nat → Int32 → gS → Option (Int32 × gS)) (l0 : Nat) (l1 : Nat) (l2 : Nat) (l3 : Nat) (l4 : Nat) (l5 : Int32) (σ : gS) : Option (Int32 × gS) :=
  ob (gcl σ l1 10) fun _ =>
  ob (X12_selectivity_f E σ l1) fun x612 =>
  ob (gf2d x612) fun x615 =>
  ob (gcl σ l2 11) fun _ =>
  ob (X13_selectivity_f E l2 σ) fun x617 =>
  ob (gf2d x617.1) fun x620 =>
  if (Op.cmpValue (FP.dcmp x615 x620) .l) = 0 then
    L_law_3358 E r_28 l0 l1 l2 l3 l4 l5 x617.2
  else
    if (Op.cmpValue (FP.dcmp x615 x615) .l) = 0 then
      L_law_2262 E x617.2
    else
      if (Op.cmpValue (FP.dcmp x620 x620) .l) = 0 then
        L_law_2262 E x617.2
      else
        L_law_3358 E r_28 l0 l1 l2 l3 l4 l5 x617.2
set_option maxHeartbeats 4000000 in
set_option maxRecDepth 100000 in
theorem L_law_2224_W {σ : gS} {l0 : Nat} {l1 : Nat} {l2 : Nat} {l3 : Nat} {l4 : Nat} {l5 : Int32} {res : (Int32 × gS)} {ls : Array Slot} (hC : gC E D A p R s m args meth c cL_law 10 RL nm 11 259) (hQ : gQI E D A p l e R s m args below meth c Q cL_law FieldType.boolean res) (hst : l.stackTraces = false) {r_28 : Nat → Nat → Nat → Nat → Nat → Int32 → gS → Option (Int32 × gS)} (h_28 : ∀ {l0 : Nat} {l1 : Nat} {l2 : Nat} {l3 : Nat} {l4 : Nat} {l5 : Int32} {σ : gS} {H : Heap} {locs : List Loc} {cells slots : Nat} {ls : Array Slot}, r_28 l0 l1 l2 l3 l4 l5 σ = some res → gW E D A s σ H locs → lv_has ls 10 [(0, .ref l0), (1, .ref l1), (2, .ref l2), (3, .ref l3), (4, .ref l4), (5, .int l5)] → W p l e R s m args below meth c H locs cells slots Q (F0 m 28 ls [])) (hf : L_law_2224 E r_28 l0 l1 l2 l3 l4 l5 σ = some res) (hw : gW E D A s σ H locs) (hl : lv_has ls 10 [(0, .ref l0), (1, .ref l1), (2, .ref l2), (3, .ref l3), (4, .ref l4), (5, .int l5)]) : W p l e R s m args below meth c H locs cells slots Q (F0 m 2224 ls []) := by
  have hC0 := hC
  obtain ⟨hx, hb, hml, hown, hts, -⟩ := hC0
  unfold L_law_2224 at hf
  refine lv_aload_n hx hb dL_law_2224 rfl (lv_at hl 1 rfl) ?_
  obtain ⟨_, h614, hf⟩ := ob_some hf
  obtain ⟨x612, h613, hf⟩ := ob_some hf
  refine gg_cVF (As := []) hC hw (X12_selectivity_M l E D A h613) h614 rfl g_ml_L_301 hd_X12_selectivity (Nat.le_of_ble_eq_true rfl) (Nat.le_of_ble_eq_true rfl) hl.1 rfl (Nat.le_of_ble_eq_true rfl) dL_law_2225 (fun H locs cells slots hw => ?_)
  obtain ⟨x615, h616, hf⟩ := ob_some hf
  obtain ⟨he, hn⟩ := gf2d_some h616
  refine lv_f2d hx hb dL_law_2228 hn ?_
  rw [← he]
  refine lv_dstore (lv' := [(6, .double x615), (0, .ref l0), (1, .ref l1), (2, .ref l2), (3, .ref l3), (4, .ref l4), (5, .int l5)]) hx hb dL_law_2229 hl (by decide) rfl (fun ls hl => ?_)
  refine lv_aload_n hx hb dL_law_2231 rfl (lv_at hl 3 rfl) ?_
  obtain ⟨_, h619, hf⟩ := ob_some hf
  obtain ⟨x617, h618, hf⟩ := ob_some hf
  refine gg_cVF (As := []) hC hw (X13_selectivity_M l E D A h618) h619 rfl g_ml_L_305 hd_X13_selectivity (Nat.le_of_ble_eq_true rfl) (Nat.le_of_ble_eq_true rfl) hl.1 rfl (Nat.le_of_ble_eq_true rfl) dL_law_2232 (fun H locs cells slots hw => ?_)
  obtain ⟨x620, h621, hf⟩ := ob_some hf
  obtain ⟨he, hn⟩ := gf2d_some h621
  refine lv_f2d hx hb dL_law_2235 hn ?_
  rw [← he]
  refine lv_dstore (lv' := [(8, .double x620), (6, .double x615), (0, .ref l0), (1, .ref l1), (2, .ref l2), (3, .ref l3), (4, .ref l4), (5, .int l5)]) hx hb dL_law_2236 hl (by decide) rfl (fun ls hl => ?_)
  refine lv_dload hx hb dL_law_2238 (lv_at hl 1 rfl) ?_
  refine lv_dload hx hb dL_law_2240 (lv_at hl 0 rfl) ?_
  refine lv_dcmp hx hb dL_law_2242 ?_
  refine lv_if_eq (tgt := 2264) hx hb dL_law_2243 (by decide) (fun c624 => ?_) (fun c624 => ?_)
  · replace hf := (if_pos c624).symm.trans hf
    refine lv_goto (tgt := 3358) hx hb dL_law_2264 (by decide) ?_
    exact L_law_3358_W hC hQ hst h_28 hf hw (lv_sub hl [2, 3, 4, 5, 6, 7] rfl)
  · replace hf := (if_neg c624).symm.trans hf
    refine lv_dload hx hb dL_law_2246 (lv_at hl 1 rfl) ?_
    refine lv_dload hx hb dL_law_2248 (lv_at hl 1 rfl) ?_
    refine lv_dcmp hx hb dL_law_2250 ?_
    refine lv_if_eq (tgt := 2262) hx hb dL_law_2251 (by decide) (fun c623 => ?_) (fun c623 => ?_)
    · replace hf := (if_pos c623).symm.trans hf
      exact L_law_2262_W hC hQ hst hf hw (lv_sub hl [] rfl)
    · replace hf := (if_neg c623).symm.trans hf
      refine lv_dload hx hb dL_law_2254 (lv_at hl 0 rfl) ?_
      refine lv_dload hx hb dL_law_2256 (lv_at hl 0 rfl) ?_
      refine lv_dcmp hx hb dL_law_2258 ?_
      refine lv_if_ne (tgt := 2264) hx hb dL_law_2259 (by decide) (fun c622 => ?_) (fun c622 => ?_)
      · replace hf := (if_neg c622).symm.trans hf
        refine lv_goto (tgt := 3358) hx hb dL_law_2264 (by decide) ?_
        exact L_law_3358_W hC hQ hst h_28 hf hw (lv_sub hl [2, 3, 4, 5, 6, 7] rfl)
      · replace hf := (if_pos c622).symm.trans hf
        exact L_law_2262_W hC hQ hst hf hw (lv_sub hl [] rfl)

def L_law_2267 (E : gE) (r_28 : Nat → Nat → Nat → Nat → Nat → Int32 → gS → Option (Int32 × gS)) (l0 : Nat) (l1 : Nat) (l2 : Nat) (l3 : Nat) (l4 : Nat) (l5 : Int32) (σ : gS) : Option (Int32 × gS) :=
  ob (graI E 0 σ l0 (l5 + (1 : Int32))) fun x625 =>
  ob (graI E 0 σ l0 (l5 + (2 : Int32))) fun x627 =>
  ob (L_bitWidthWith_f E l1 x625 x627 l3 σ) fun x629 =>
  ob (graI E 0 x629.2 l0 (l5 + (1 : Int32))) fun x631 =>
  ob (graI E 0 x629.2 l0 (l5 + (2 : Int32))) fun x633 =>
  ob (gcl x629.2 l2 11) fun _ =>
  ob (X13_bitWidthWith_f E l2 x631 x633 x629.2) fun x635 =>
  ob (gcl x635.2 l2 11) fun _ =>
  ob (X13_thrown_f E x635.2 l2) fun x638 =>
  if x638 = x629.1 then
    if x629.1 = 0 then
      ob (graJ E x635.2 l3 (0 : Int32)) fun x641 =>
      if (lg_cmp x641 ((x635.1).toInt64)) = 0 then
        L_law_3358 E r_28 l0 l1 l2 l3 l4 l5 x635.2
      else
        some ((0 : Int32), x635.2)
    else
      L_law_3358 E r_28 l0 l1 l2 l3 l4 l5 x635.2
  else
    some ((0 : Int32), x635.2)
set_option maxHeartbeats 4000000 in
set_option maxRecDepth 100000 in
theorem L_law_2267_W {σ : gS} {l0 : Nat} {l1 : Nat} {l2 : Nat} {l3 : Nat} {l4 : Nat} {l5 : Int32} {res : (Int32 × gS)} {ls : Array Slot} (hC : gC E D A p R s m args meth c cL_law 10 RL nm 11 259) (hQ : gQI E D A p l e R s m args below meth c Q cL_law FieldType.boolean res) (hst : l.stackTraces = false) {r_28 : Nat → Nat → Nat → Nat → Nat → Int32 → gS → Option (Int32 × gS)} (h_28 : ∀ {l0 : Nat} {l1 : Nat} {l2 : Nat} {l3 : Nat} {l4 : Nat} {l5 : Int32} {σ : gS} {H : Heap} {locs : List Loc} {cells slots : Nat} {ls : Array Slot}, r_28 l0 l1 l2 l3 l4 l5 σ = some res → gW E D A s σ H locs → lv_has ls 10 [(0, .ref l0), (1, .ref l1), (2, .ref l2), (3, .ref l3), (4, .ref l4), (5, .int l5)] → W p l e R s m args below meth c H locs cells slots Q (F0 m 28 ls [])) (hf : L_law_2267 E r_28 l0 l1 l2 l3 l4 l5 σ = some res) (hw : gW E D A s σ H locs) (hl : lv_has ls 10 [(0, .ref l0), (1, .ref l1), (2, .ref l2), (3, .ref l3), (4, .ref l4), (5, .int l5)]) : W p l e R s m args below meth c H locs cells slots Q (F0 m 2267 ls []) := by
  have hC0 := hC
  obtain ⟨hx, hb, hml, hown, hts, -⟩ := hC0
  unfold L_law_2267 at hf
  refine lv_aload_n hx hb dL_law_2267 rfl (lv_at hl 1 rfl) ?_
  refine lv_aload_n hx hb dL_law_2268 rfl (lv_at hl 0 rfl) ?_
  refine lv_iload hx hb dL_law_2269 (lv_at hl 5 rfl) ?_
  refine lv_iconst (v := 1) hx hb dL_law_2271 (by decide) ?_
  refine lv_iadd hx hb dL_law_2272 ?_
  obtain ⟨x625, h626, hf⟩ := ob_some hf
  refine gg_aldI hC hw h626 dL_law_2273 ?_
  refine lv_aload_n hx hb dL_law_2274 rfl (lv_at hl 0 rfl) ?_
  refine lv_iload hx hb dL_law_2275 (lv_at hl 5 rfl) ?_
  refine lv_iconst (v := 2) hx hb dL_law_2277 (by decide) ?_
  refine lv_iadd hx hb dL_law_2278 ?_
  obtain ⟨x627, h628, hf⟩ := ob_some hf
  refine gg_aldI hC hw h628 dL_law_2279 ?_
  refine lv_aload_n hx hb dL_law_2280 rfl (lv_at hl 3 rfl) ?_
  obtain ⟨x629, h630, hf⟩ := ob_some hf
  refine gg_yHI (As := [.ref l1, .int x625, .int x627, .ref l3]) hC hw (L_bitWidthWith_M l hst E D A h630) g_ml_L_306 hd_L_bitWidthWith.2 (Nat.le_of_ble_eq_true rfl) (Nat.le_of_ble_eq_true rfl) hl.1 rfl (Nat.le_of_ble_eq_true rfl) dL_law_2281 (fun _ _ he => nomatch (congrArg Prod.fst he)) (fun r9 σ9 he H locs cells slots hw => ?_)
  cases he
  refine lv_istore (lv' := [(6, .int x629.1), (0, .ref l0), (1, .ref l1), (2, .ref l2), (3, .ref l3), (4, .ref l4), (5, .int l5)]) hx hb dL_law_2284 hl (by decide) rfl (fun ls hl => ?_)
  refine lv_aload_n hx hb dL_law_2286 rfl (lv_at hl 3 rfl) ?_
  refine lv_aload_n hx hb dL_law_2287 rfl (lv_at hl 1 rfl) ?_
  refine lv_iload hx hb dL_law_2288 (lv_at hl 6 rfl) ?_
  refine lv_iconst (v := 1) hx hb dL_law_2290 (by decide) ?_
  refine lv_iadd hx hb dL_law_2291 ?_
  obtain ⟨x631, h632, hf⟩ := ob_some hf
  refine gg_aldI hC hw h632 dL_law_2292 ?_
  refine lv_aload_n hx hb dL_law_2293 rfl (lv_at hl 1 rfl) ?_
  refine lv_iload hx hb dL_law_2294 (lv_at hl 6 rfl) ?_
  refine lv_iconst (v := 2) hx hb dL_law_2296 (by decide) ?_
  refine lv_iadd hx hb dL_law_2297 ?_
  obtain ⟨x633, h634, hf⟩ := ob_some hf
  refine gg_aldI hC hw h634 dL_law_2298 ?_
  obtain ⟨_, h637, hf⟩ := ob_some hf
  obtain ⟨x635, h636, hf⟩ := ob_some hf
  refine gg_cVI (As := [.int x631, .int x633]) hC hw (X13_bitWidthWith_M l E D A h636) h637 rfl g_ml_L_308 hd_X13_bitWidthWith (Nat.le_of_ble_eq_true rfl) (Nat.le_of_ble_eq_true rfl) hl.1 rfl (Nat.le_of_ble_eq_true rfl) dL_law_2299 (fun H locs cells slots hw => ?_)
  refine lv_istore (lv' := [(7, .int x635.1), (6, .int x629.1), (0, .ref l0), (1, .ref l1), (2, .ref l2), (3, .ref l3), (4, .ref l4), (5, .int l5)]) hx hb dL_law_2302 hl (by decide) rfl (fun ls hl => ?_)
  refine lv_aload_n hx hb dL_law_2304 rfl (lv_at hl 4 rfl) ?_
  obtain ⟨_, h640, hf⟩ := ob_some hf
  obtain ⟨x638, h639, hf⟩ := ob_some hf
  refine gg_cVI (As := []) hC hw (X13_thrown_M l E D A h639) h640 rfl g_ml_L_174 hd_X13_thrown (Nat.le_of_ble_eq_true rfl) (Nat.le_of_ble_eq_true rfl) hl.1 rfl (Nat.le_of_ble_eq_true rfl) dL_law_2305 (fun H locs cells slots hw => ?_)
  refine lv_iload hx hb dL_law_2308 (lv_at hl 1 rfl) ?_
  refine lv_icmp_eq (tgt := 2315) hx hb dL_law_2310 (by decide) (fun c645 => ?_) (fun c645 => ?_)
  · replace hf := (if_pos c645).symm.trans hf
    refine lv_iload hx hb dL_law_2315 (lv_at hl 1 rfl) ?_
    refine lv_if_ne (tgt := 2332) hx hb dL_law_2317 (by decide) (fun c644 => ?_) (fun c644 => ?_)
    · replace hf := (if_neg c644).symm.trans hf
      refine lv_goto (tgt := 3358) hx hb dL_law_2332 (by decide) ?_
      exact L_law_3358_W hC hQ hst h_28 hf hw (lv_sub hl [2, 3, 4, 5, 6, 7] rfl)
    · replace hf := (if_pos c644).symm.trans hf
      refine lv_aload_n hx hb dL_law_2320 rfl (lv_at hl 5 rfl) ?_
      refine lv_iconst (v := 0) hx hb dL_law_2321 (by decide) ?_
      obtain ⟨x641, h642, hf⟩ := ob_some hf
      refine gg_aldJ hC hw h642 dL_law_2322 ?_
      refine lv_iload hx hb dL_law_2323 (lv_at hl 0 rfl) ?_
      refine lv_i2l (v := (x635.1).toInt64) hx hb dL_law_2325 rfl ?_
      refine W.lcmp hx hb dL_law_2326 ?_
      refine lv_if_eq (tgt := 2332) hx hb dL_law_2327 (by decide) (fun c643 => ?_) (fun c643 => ?_)
      · replace hf := (if_pos c643).symm.trans hf
        refine lv_goto (tgt := 3358) hx hb dL_law_2332 (by decide) ?_
        exact L_law_3358_W hC hQ hst h_28 hf hw (lv_sub hl [2, 3, 4, 5, 6, 7] rfl)
      · replace hf := (if_neg c643).symm.trans hf
        refine lv_iconst (v := 0) hx hb dL_law_2330 (by decide) ?_
        cases hf
        exact hQ _ _ _ _ _ _ dL_law_2331 gz0 hw
  · replace hf := (if_neg c645).symm.trans hf
    refine lv_iconst (v := 0) hx hb dL_law_2313 (by decide) ?_
    cases hf
    exact hQ _ _ _ _ _ _ dL_law_2314 gz0 hw

def L_law_2335 (E : gE) (r_28 : Nat → Nat → Nat → Nat → Nat → Int32 → gS → Option (Int32 × gS)) (l0 : Nat) (l1 : Nat) (l2 : Nat) (l3 : Nat) (l4 : Nat) (l5 : Int32) (σ : gS) : Option (Int32 × gS) :=
  ob (graI E 0 σ l0 (l5 + (1 : Int32))) fun x646 =>
  ob (L_bitWidthCompacted_f E l1 x646 l3 σ) fun x648 =>
  ob (graI E 0 x648.2 l0 (l5 + (1 : Int32))) fun x650 =>
  ob (gcl x648.2 l2 11) fun _ =>
  ob (X13_bitWidthCompacted_f E l2 x650 x648.2) fun x652 =>
  ob (gcl x652.2 l2 11) fun _ =>
  ob (X13_thrown_f E x652.2 l2) fun x655 =>
  if x655 = x648.1 then
    if x648.1 = 0 then
      ob (graJ E x652.2 l3 (0 : Int32)) fun x658 =>
      if (lg_cmp x658 ((x652.1).toInt64)) = 0 then
        L_law_3358 E r_28 l0 l1 l2 l3 l4 l5 x652.2
      else
        some ((0 : Int32), x652.2)
    else
      L_law_3358 E r_28 l0 l1 l2 l3 l4 l5 x652.2
  else
    some ((0 : Int32), x652.2)
set_option maxHeartbeats 4000000 in
set_option maxRecDepth 100000 in
theorem L_law_2335_W {σ : gS} {l0 : Nat} {l1 : Nat} {l2 : Nat} {l3 : Nat} {l4 : Nat} {l5 : Int32} {res : (Int32 × gS)} {ls : Array Slot} (hC : gC E D A p R s m args meth c cL_law 10 RL nm 11 259) (hQ : gQI E D A p l e R s m args below meth c Q cL_law FieldType.boolean res) (hst : l.stackTraces = false) {r_28 : Nat → Nat → Nat → Nat → Nat → Int32 → gS → Option (Int32 × gS)} (h_28 : ∀ {l0 : Nat} {l1 : Nat} {l2 : Nat} {l3 : Nat} {l4 : Nat} {l5 : Int32} {σ : gS} {H : Heap} {locs : List Loc} {cells slots : Nat} {ls : Array Slot}, r_28 l0 l1 l2 l3 l4 l5 σ = some res → gW E D A s σ H locs → lv_has ls 10 [(0, .ref l0), (1, .ref l1), (2, .ref l2), (3, .ref l3), (4, .ref l4), (5, .int l5)] → W p l e R s m args below meth c H locs cells slots Q (F0 m 28 ls [])) (hf : L_law_2335 E r_28 l0 l1 l2 l3 l4 l5 σ = some res) (hw : gW E D A s σ H locs) (hl : lv_has ls 10 [(0, .ref l0), (1, .ref l1), (2, .ref l2), (3, .ref l3), (4, .ref l4), (5, .int l5)]) : W p l e R s m args below meth c H locs cells slots Q (F0 m 2335 ls []) := by
  have hC0 := hC
  obtain ⟨hx, hb, hml, hown, hts, -⟩ := hC0
  unfold L_law_2335 at hf
  refine lv_aload_n hx hb dL_law_2335 rfl (lv_at hl 1 rfl) ?_
  refine lv_aload_n hx hb dL_law_2336 rfl (lv_at hl 0 rfl) ?_
  refine lv_iload hx hb dL_law_2337 (lv_at hl 5 rfl) ?_
  refine lv_iconst (v := 1) hx hb dL_law_2339 (by decide) ?_
  refine lv_iadd hx hb dL_law_2340 ?_
  obtain ⟨x646, h647, hf⟩ := ob_some hf
  refine gg_aldI hC hw h647 dL_law_2341 ?_
  refine lv_aload_n hx hb dL_law_2342 rfl (lv_at hl 3 rfl) ?_
  obtain ⟨x648, h649, hf⟩ := ob_some hf
  refine gg_yHI (As := [.ref l1, .int x646, .ref l3]) hC hw (L_bitWidthCompacted_M l hst E D A h649) g_ml_L_309 hd_L_bitWidthCompacted.2 (Nat.le_of_ble_eq_true rfl) (Nat.le_of_ble_eq_true rfl) hl.1 rfl (Nat.le_of_ble_eq_true rfl) dL_law_2343 (fun _ _ he => nomatch (congrArg Prod.fst he)) (fun r9 σ9 he H locs cells slots hw => ?_)
  cases he
  refine lv_istore (lv' := [(6, .int x648.1), (0, .ref l0), (1, .ref l1), (2, .ref l2), (3, .ref l3), (4, .ref l4), (5, .int l5)]) hx hb dL_law_2346 hl (by decide) rfl (fun ls hl => ?_)
  refine lv_aload_n hx hb dL_law_2348 rfl (lv_at hl 3 rfl) ?_
  refine lv_aload_n hx hb dL_law_2349 rfl (lv_at hl 1 rfl) ?_
  refine lv_iload hx hb dL_law_2350 (lv_at hl 6 rfl) ?_
  refine lv_iconst (v := 1) hx hb dL_law_2352 (by decide) ?_
  refine lv_iadd hx hb dL_law_2353 ?_
  obtain ⟨x650, h651, hf⟩ := ob_some hf
  refine gg_aldI hC hw h651 dL_law_2354 ?_
  obtain ⟨_, h654, hf⟩ := ob_some hf
  obtain ⟨x652, h653, hf⟩ := ob_some hf
  refine gg_cVI (As := [.int x650]) hC hw (X13_bitWidthCompacted_M l E D A h653) h654 rfl g_ml_L_311 hd_X13_bitWidthCompacted (Nat.le_of_ble_eq_true rfl) (Nat.le_of_ble_eq_true rfl) hl.1 rfl (Nat.le_of_ble_eq_true rfl) dL_law_2355 (fun H locs cells slots hw => ?_)
  refine lv_istore (lv' := [(7, .int x652.1), (6, .int x648.1), (0, .ref l0), (1, .ref l1), (2, .ref l2), (3, .ref l3), (4, .ref l4), (5, .int l5)]) hx hb dL_law_2358 hl (by decide) rfl (fun ls hl => ?_)
  refine lv_aload_n hx hb dL_law_2360 rfl (lv_at hl 4 rfl) ?_
  obtain ⟨_, h657, hf⟩ := ob_some hf
  obtain ⟨x655, h656, hf⟩ := ob_some hf
  refine gg_cVI (As := []) hC hw (X13_thrown_M l E D A h656) h657 rfl g_ml_L_174 hd_X13_thrown (Nat.le_of_ble_eq_true rfl) (Nat.le_of_ble_eq_true rfl) hl.1 rfl (Nat.le_of_ble_eq_true rfl) dL_law_2361 (fun H locs cells slots hw => ?_)
  refine lv_iload hx hb dL_law_2364 (lv_at hl 1 rfl) ?_
  refine lv_icmp_eq (tgt := 2371) hx hb dL_law_2366 (by decide) (fun c662 => ?_) (fun c662 => ?_)
  · replace hf := (if_pos c662).symm.trans hf
    refine lv_iload hx hb dL_law_2371 (lv_at hl 1 rfl) ?_
    refine lv_if_ne (tgt := 2388) hx hb dL_law_2373 (by decide) (fun c661 => ?_) (fun c661 => ?_)
    · replace hf := (if_neg c661).symm.trans hf
      refine lv_goto (tgt := 3358) hx hb dL_law_2388 (by decide) ?_
      exact L_law_3358_W hC hQ hst h_28 hf hw (lv_sub hl [2, 3, 4, 5, 6, 7] rfl)
    · replace hf := (if_pos c661).symm.trans hf
      refine lv_aload_n hx hb dL_law_2376 rfl (lv_at hl 5 rfl) ?_
      refine lv_iconst (v := 0) hx hb dL_law_2377 (by decide) ?_
      obtain ⟨x658, h659, hf⟩ := ob_some hf
      refine gg_aldJ hC hw h659 dL_law_2378 ?_
      refine lv_iload hx hb dL_law_2379 (lv_at hl 0 rfl) ?_
      refine lv_i2l (v := (x652.1).toInt64) hx hb dL_law_2381 rfl ?_
      refine W.lcmp hx hb dL_law_2382 ?_
      refine lv_if_eq (tgt := 2388) hx hb dL_law_2383 (by decide) (fun c660 => ?_) (fun c660 => ?_)
      · replace hf := (if_pos c660).symm.trans hf
        refine lv_goto (tgt := 3358) hx hb dL_law_2388 (by decide) ?_
        exact L_law_3358_W hC hQ hst h_28 hf hw (lv_sub hl [2, 3, 4, 5, 6, 7] rfl)
      · replace hf := (if_neg c660).symm.trans hf
        refine lv_iconst (v := 0) hx hb dL_law_2386 (by decide) ?_
        cases hf
        exact hQ _ _ _ _ _ _ dL_law_2387 gz0 hw
  · replace hf := (if_neg c662).symm.trans hf
    refine lv_iconst (v := 0) hx hb dL_law_2369 (by decide) ?_
    cases hf
    exact hQ _ _ _ _ _ _ dL_law_2370 gz0 hw

def L_law_2391 (E : gE) (r_28 : Nat → Nat → Nat → Nat → Nat → Int32 → gS → Option (Int32 × gS)) (l0 : Nat) (l1 : Nat) (l2 : Nat) (l3 : Nat) (l4 : Nat) (l5 : Int32) (σ : gS) : Option (Int32 × gS) :=
  ob (graI E 0 σ l0 (l5 + (1 : Int32))) fun x663 =>
  ob (L_runsIfSorted_f E l1 x663 l3 σ) fun x665 =>
  ob (graI E 0 x665.2 l0 (l5 + (1 : Int32))) fun x667 =>
  ob (gcl x665.2 l2 11) fun _ =>
  ob (X13_runsIfSorted_f E l2 x667 x665.2) fun x669 =>
  ob (gcl x669.2 l2 11) fun _ =>
  ob (X13_thrown_f E x669.2 l2) fun x672 =>
  if x672 = x665.1 then
    if x665.1 = 0 then
      ob (graJ E x669.2 l3 (0 : Int32)) fun x675 =>
      if (lg_cmp x675 ((x669.1).toInt64)) = 0 then
        L_law_3358 E r_28 l0 l1 l2 l3 l4 l5 x669.2
      else
        some ((0 : Int32), x669.2)
    else
      L_law_3358 E r_28 l0 l1 l2 l3 l4 l5 x669.2
  else
    some ((0 : Int32), x669.2)
set_option maxHeartbeats 4000000 in
set_option maxRecDepth 100000 in
theorem L_law_2391_W {σ : gS} {l0 : Nat} {l1 : Nat} {l2 : Nat} {l3 : Nat} {l4 : Nat} {l5 : Int32} {res : (Int32 × gS)} {ls : Array Slot} (hC : gC E D A p R s m args meth c cL_law 10 RL nm 11 259) (hQ : gQI E D A p l e R s m args below meth c Q cL_law FieldType.boolean res) (hst : l.stackTraces = false) {r_28 : Nat → Nat → Nat → Nat → Nat → Int32 → gS → Option (Int32 × gS)} (h_28 : ∀ {l0 : Nat} {l1 : Nat} {l2 : Nat} {l3 : Nat} {l4 : Nat} {l5 : Int32} {σ : gS} {H : Heap} {locs : List Loc} {cells slots : Nat} {ls : Array Slot}, r_28 l0 l1 l2 l3 l4 l5 σ = some res → gW E D A s σ H locs → lv_has ls 10 [(0, .ref l0), (1, .ref l1), (2, .ref l2), (3, .ref l3), (4, .ref l4), (5, .int l5)] → W p l e R s m args below meth c H locs cells slots Q (F0 m 28 ls [])) (hf : L_law_2391 E r_28 l0 l1 l2 l3 l4 l5 σ = some res) (hw : gW E D A s σ H locs) (hl : lv_has ls 10 [(0, .ref l0), (1, .ref l1), (2, .ref l2), (3, .ref l3), (4, .ref l4), (5, .int l5)]) : W p l e R s m args below meth c H locs cells slots Q (F0 m 2391 ls []) := by
  have hC0 := hC
  obtain ⟨hx, hb, hml, hown, hts, -⟩ := hC0
  unfold L_law_2391 at hf
  refine lv_aload_n hx hb dL_law_2391 rfl (lv_at hl 1 rfl) ?_
  refine lv_aload_n hx hb dL_law_2392 rfl (lv_at hl 0 rfl) ?_
  refine lv_iload hx hb dL_law_2393 (lv_at hl 5 rfl) ?_
  refine lv_iconst (v := 1) hx hb dL_law_2395 (by decide) ?_
  refine lv_iadd hx hb dL_law_2396 ?_
  obtain ⟨x663, h664, hf⟩ := ob_some hf
  refine gg_aldI hC hw h664 dL_law_2397 ?_
  refine lv_aload_n hx hb dL_law_2398 rfl (lv_at hl 3 rfl) ?_
  obtain ⟨x665, h666, hf⟩ := ob_some hf
  refine gg_yHI (As := [.ref l1, .int x663, .ref l3]) hC hw (L_runsIfSorted_M l hst E D A h666) g_ml_L_312 hd_L_runsIfSorted.2 (Nat.le_of_ble_eq_true rfl) (Nat.le_of_ble_eq_true rfl) hl.1 rfl (Nat.le_of_ble_eq_true rfl) dL_law_2399 (fun _ _ he => nomatch (congrArg Prod.fst he)) (fun r9 σ9 he H locs cells slots hw => ?_)
  cases he
  refine lv_istore (lv' := [(6, .int x665.1), (0, .ref l0), (1, .ref l1), (2, .ref l2), (3, .ref l3), (4, .ref l4), (5, .int l5)]) hx hb dL_law_2402 hl (by decide) rfl (fun ls hl => ?_)
  refine lv_aload_n hx hb dL_law_2404 rfl (lv_at hl 3 rfl) ?_
  refine lv_aload_n hx hb dL_law_2405 rfl (lv_at hl 1 rfl) ?_
  refine lv_iload hx hb dL_law_2406 (lv_at hl 6 rfl) ?_
  refine lv_iconst (v := 1) hx hb dL_law_2408 (by decide) ?_
  refine lv_iadd hx hb dL_law_2409 ?_
  obtain ⟨x667, h668, hf⟩ := ob_some hf
  refine gg_aldI hC hw h668 dL_law_2410 ?_
  obtain ⟨_, h671, hf⟩ := ob_some hf
  obtain ⟨x669, h670, hf⟩ := ob_some hf
  refine gg_cVI (As := [.int x667]) hC hw (X13_runsIfSorted_M l E D A h670) h671 rfl g_ml_L_314 hd_X13_runsIfSorted (Nat.le_of_ble_eq_true rfl) (Nat.le_of_ble_eq_true rfl) hl.1 rfl (Nat.le_of_ble_eq_true rfl) dL_law_2411 (fun H locs cells slots hw => ?_)
  refine lv_istore (lv' := [(7, .int x669.1), (6, .int x665.1), (0, .ref l0), (1, .ref l1), (2, .ref l2), (3, .ref l3), (4, .ref l4), (5, .int l5)]) hx hb dL_law_2414 hl (by decide) rfl (fun ls hl => ?_)
  refine lv_aload_n hx hb dL_law_2416 rfl (lv_at hl 4 rfl) ?_
  obtain ⟨_, h674, hf⟩ := ob_some hf
  obtain ⟨x672, h673, hf⟩ := ob_some hf
  refine gg_cVI (As := []) hC hw (X13_thrown_M l E D A h673) h674 rfl g_ml_L_174 hd_X13_thrown (Nat.le_of_ble_eq_true rfl) (Nat.le_of_ble_eq_true rfl) hl.1 rfl (Nat.le_of_ble_eq_true rfl) dL_law_2417 (fun H locs cells slots hw => ?_)
  refine lv_iload hx hb dL_law_2420 (lv_at hl 1 rfl) ?_
  refine lv_icmp_eq (tgt := 2427) hx hb dL_law_2422 (by decide) (fun c679 => ?_) (fun c679 => ?_)
  · replace hf := (if_pos c679).symm.trans hf
    refine lv_iload hx hb dL_law_2427 (lv_at hl 1 rfl) ?_
    refine lv_if_ne (tgt := 2444) hx hb dL_law_2429 (by decide) (fun c678 => ?_) (fun c678 => ?_)
    · replace hf := (if_neg c678).symm.trans hf
      refine lv_goto (tgt := 3358) hx hb dL_law_2444 (by decide) ?_
      exact L_law_3358_W hC hQ hst h_28 hf hw (lv_sub hl [2, 3, 4, 5, 6, 7] rfl)
    · replace hf := (if_pos c678).symm.trans hf
      refine lv_aload_n hx hb dL_law_2432 rfl (lv_at hl 5 rfl) ?_
      refine lv_iconst (v := 0) hx hb dL_law_2433 (by decide) ?_
      obtain ⟨x675, h676, hf⟩ := ob_some hf
      refine gg_aldJ hC hw h676 dL_law_2434 ?_
      refine lv_iload hx hb dL_law_2435 (lv_at hl 0 rfl) ?_
      refine lv_i2l (v := (x669.1).toInt64) hx hb dL_law_2437 rfl ?_
      refine W.lcmp hx hb dL_law_2438 ?_
      refine lv_if_eq (tgt := 2444) hx hb dL_law_2439 (by decide) (fun c677 => ?_) (fun c677 => ?_)
      · replace hf := (if_pos c677).symm.trans hf
        refine lv_goto (tgt := 3358) hx hb dL_law_2444 (by decide) ?_
        exact L_law_3358_W hC hQ hst h_28 hf hw (lv_sub hl [2, 3, 4, 5, 6, 7] rfl)
      · replace hf := (if_neg c677).symm.trans hf
        refine lv_iconst (v := 0) hx hb dL_law_2442 (by decide) ?_
        cases hf
        exact hQ _ _ _ _ _ _ dL_law_2443 gz0 hw
  · replace hf := (if_neg c679).symm.trans hf
    refine lv_iconst (v := 0) hx hb dL_law_2425 (by decide) ?_
    cases hf
    exact hQ _ _ _ _ _ _ dL_law_2426 gz0 hw

def L_law_2447 (E : gE) (r_28 : Nat → Nat → Nat → Nat → Nat → Int32 → gS → Option (Int32 × gS)) (l0 : Nat) (l1 : Nat) (l2 : Nat) (l3 : Nat) (l4 : Nat) (l5 : Int32) (σ : gS) : Option (Int32 × gS) :=
  ob (gcl σ l1 10) fun _ =>
  ob (X12_bestSortColumn_f E l1 σ) fun x680 =>
  ob (gcl x680.2 l2 11) fun _ =>
  ob (X13_bestSortColumn_f E l2 x680.2) fun x683 =>
  if x680.1 = x683.1 then
    L_law_3358 E r_28 l0 l1 l2 l3 l4 l5 x683.2
  else
    some ((0 : Int32), x683.2)
set_option maxHeartbeats 4000000 in
set_option maxRecDepth 100000 in
theorem L_law_2447_W {σ : gS} {l0 : Nat} {l1 : Nat} {l2 : Nat} {l3 : Nat} {l4 : Nat} {l5 : Int32} {res : (Int32 × gS)} {ls : Array Slot} (hC : gC E D A p R s m args meth c cL_law 10 RL nm 11 259) (hQ : gQI E D A p l e R s m args below meth c Q cL_law FieldType.boolean res) (hst : l.stackTraces = false) {r_28 : Nat → Nat → Nat → Nat → Nat → Int32 → gS → Option (Int32 × gS)} (h_28 : ∀ {l0 : Nat} {l1 : Nat} {l2 : Nat} {l3 : Nat} {l4 : Nat} {l5 : Int32} {σ : gS} {H : Heap} {locs : List Loc} {cells slots : Nat} {ls : Array Slot}, r_28 l0 l1 l2 l3 l4 l5 σ = some res → gW E D A s σ H locs → lv_has ls 10 [(0, .ref l0), (1, .ref l1), (2, .ref l2), (3, .ref l3), (4, .ref l4), (5, .int l5)] → W p l e R s m args below meth c H locs cells slots Q (F0 m 28 ls [])) (hf : L_law_2447 E r_28 l0 l1 l2 l3 l4 l5 σ = some res) (hw : gW E D A s σ H locs) (hl : lv_has ls 10 [(0, .ref l0), (1, .ref l1), (2, .ref l2), (3, .ref l3), (4, .ref l4), (5, .int l5)]) : W p l e R s m args below meth c H locs cells slots Q (F0 m 2447 ls []) := by
  have hC0 := hC
  obtain ⟨hx, hb, hml, hown, hts, -⟩ := hC0
  unfold L_law_2447 at hf
  refine lv_aload_n hx hb dL_law_2447 rfl (lv_at hl 1 rfl) ?_
  obtain ⟨_, h682, hf⟩ := ob_some hf
  obtain ⟨x680, h681, hf⟩ := ob_some hf
  refine gg_cVI (As := []) hC hw (X12_bestSortColumn_M l E D A h681) h682 rfl g_ml_L_315 hd_X12_bestSortColumn (Nat.le_of_ble_eq_true rfl) (Nat.le_of_ble_eq_true rfl) hl.1 rfl (Nat.le_of_ble_eq_true rfl) dL_law_2448 (fun H locs cells slots hw => ?_)
  refine lv_aload_n hx hb dL_law_2451 rfl (lv_at hl 2 rfl) ?_
  obtain ⟨_, h685, hf⟩ := ob_some hf
  obtain ⟨x683, h684, hf⟩ := ob_some hf
  refine gg_cVI (As := []) hC hw (X13_bestSortColumn_M l E D A h684) h685 rfl g_ml_L_318 hd_X13_bestSortColumn (Nat.le_of_ble_eq_true rfl) (Nat.le_of_ble_eq_true rfl) hl.1 rfl (Nat.le_of_ble_eq_true rfl) dL_law_2452 (fun H locs cells slots hw => ?_)
  refine lv_icmp_eq (tgt := 3358) hx hb dL_law_2455 (by decide) (fun c686 => ?_) (fun c686 => ?_)
  · replace hf := (if_pos c686).symm.trans hf
    exact L_law_3358_W hC hQ hst h_28 hf hw (lv_sub hl [0, 1, 2, 3, 4, 5] rfl)
  · replace hf := (if_neg c686).symm.trans hf
    refine lv_iconst (v := 0) hx hb dL_law_2458 (by decide) ?_
    cases hf
    exact hQ _ _ _ _ _ _ dL_law_2459 gz0 hw

def L_law_2460 (E : gE) (r_28 : Nat → Nat → Nat → Nat → Nat → Int32 → gS → Option (Int32 × gS)) (l0 : Nat) (l1 : Nat) (l2 : Nat) (l3 : Nat) (l4 : Nat) (l5 : Int32) (σ : gS) : Option (Int32 × gS) :=
  ob (gcl σ l1 10) fun _ =>
  ob (X12_gap_f E l1 σ) fun x687 =>
  ob (gcl x687.2 l2 11) fun _ =>
  ob (X13_gap_f E l2 x687.2) fun x690 =>
  if x687.1 = x690.1 then
    L_law_3358 E r_28 l0 l1 l2 l3 l4 l5 x690.2
  else
    some ((0 : Int32), x690.2)
set_option maxHeartbeats 4000000 in
set_option maxRecDepth 100000 in
theorem L_law_2460_W {σ : gS} {l0 : Nat} {l1 : Nat} {l2 : Nat} {l3 : Nat} {l4 : Nat} {l5 : Int32} {res : (Int32 × gS)} {ls : Array Slot} (hC : gC E D A p R s m args meth c cL_law 10 RL nm 11 259) (hQ : gQI E D A p l e R s m args below meth c Q cL_law FieldType.boolean res) (hst : l.stackTraces = false) {r_28 : Nat → Nat → Nat → Nat → Nat → Int32 → gS → Option (Int32 × gS)} (h_28 : ∀ {l0 : Nat} {l1 : Nat} {l2 : Nat} {l3 : Nat} {l4 : Nat} {l5 : Int32} {σ : gS} {H : Heap} {locs : List Loc} {cells slots : Nat} {ls : Array Slot}, r_28 l0 l1 l2 l3 l4 l5 σ = some res → gW E D A s σ H locs → lv_has ls 10 [(0, .ref l0), (1, .ref l1), (2, .ref l2), (3, .ref l3), (4, .ref l4), (5, .int l5)] → W p l e R s m args below meth c H locs cells slots Q (F0 m 28 ls [])) (hf : L_law_2460 E r_28 l0 l1 l2 l3 l4 l5 σ = some res) (hw : gW E D A s σ H locs) (hl : lv_has ls 10 [(0, .ref l0), (1, .ref l1), (2, .ref l2), (3, .ref l3), (4, .ref l4), (5, .int l5)]) : W p l e R s m args below meth c H locs cells slots Q (F0 m 2460 ls []) := by
  have hC0 := hC
  obtain ⟨hx, hb, hml, hown, hts, -⟩ := hC0
  unfold L_law_2460 at hf
  refine lv_aload_n hx hb dL_law_2460 rfl (lv_at hl 1 rfl) ?_
  obtain ⟨_, h689, hf⟩ := ob_some hf
  obtain ⟨x687, h688, hf⟩ := ob_some hf
  refine gg_cVI (As := []) hC hw (X12_gap_M l E D A h688) h689 rfl g_ml_L_319 hd_X12_gap (Nat.le_of_ble_eq_true rfl) (Nat.le_of_ble_eq_true rfl) hl.1 rfl (Nat.le_of_ble_eq_true rfl) dL_law_2461 (fun H locs cells slots hw => ?_)
  refine lv_aload_n hx hb dL_law_2464 rfl (lv_at hl 2 rfl) ?_
  obtain ⟨_, h692, hf⟩ := ob_some hf
  obtain ⟨x690, h691, hf⟩ := ob_some hf
  refine gg_cVI (As := []) hC hw (X13_gap_M l E D A h691) h692 rfl g_ml_L_322 hd_X13_gap (Nat.le_of_ble_eq_true rfl) (Nat.le_of_ble_eq_true rfl) hl.1 rfl (Nat.le_of_ble_eq_true rfl) dL_law_2465 (fun H locs cells slots hw => ?_)
  refine lv_icmp_eq (tgt := 3358) hx hb dL_law_2468 (by decide) (fun c693 => ?_) (fun c693 => ?_)
  · replace hf := (if_pos c693).symm.trans hf
    exact L_law_3358_W hC hQ hst h_28 hf hw (lv_sub hl [0, 1, 2, 3, 4, 5] rfl)
  · replace hf := (if_neg c693).symm.trans hf
    refine lv_iconst (v := 0) hx hb dL_law_2471 (by decide) ?_
    cases hf
    exact hQ _ _ _ _ _ _ dL_law_2472 gz0 hw

def L_law_2473 (E : gE) (r_28 : Nat → Nat → Nat → Nat → Nat → Int32 → gS → Option (Int32 × gS)) (l0 : Nat) (l1 : Nat) (l2 : Nat) (l3 : Nat) (l4 : Nat) (l5 : Int32) (σ : gS) : Option (Int32 × gS) :=
  ob (graI E 0 σ l0 (l5 + (1 : Int32))) fun x694 =>
  ob (L_addRow_f E l1 x694 l3 σ) fun x696 =>
  ob (graI E 0 x696.2 l0 (l5 + (1 : Int32))) fun x698 =>
  ob (gcl x696.2 l2 11) fun _ =>
  ob (X13_addRow_f E l2 x698 x696.2) fun x700 =>
  ob (gcl x700.2 l2 11) fun _ =>
  ob (X13_thrown_f E x700.2 l2) fun x703 =>
  if x703 = x696.1 then
    if x696.1 = 0 then
      ob (graJ E x700.2 l3 (0 : Int32)) fun x706 =>
      if (lg_cmp x706 ((x700.1).toInt64)) = 0 then
        L_law_3358 E r_28 l0 l1 l2 l3 l4 l5 x700.2
      else
        some ((0 : Int32), x700.2)
    else
      L_law_3358 E r_28 l0 l1 l2 l3 l4 l5 x700.2
  else
    some ((0 : Int32), x700.2)
set_option maxHeartbeats 4000000 in
set_option maxRecDepth 100000 in
theorem L_law_2473_W {σ : gS} {l0 : Nat} {l1 : Nat} {l2 : Nat} {l3 : Nat} {l4 : Nat} {l5 : Int32} {res : (Int32 × gS)} {ls : Array Slot} (hC : gC E D A p R s m args meth c cL_law 10 RL nm 11 259) (hQ : gQI E D A p l e R s m args below meth c Q cL_law FieldType.boolean res) (hst : l.stackTraces = false) {r_28 : Nat → Nat → Nat → Nat → Nat → Int32 → gS → Option (Int32 × gS)} (h_28 : ∀ {l0 : Nat} {l1 : Nat} {l2 : Nat} {l3 : Nat} {l4 : Nat} {l5 : Int32} {σ : gS} {H : Heap} {locs : List Loc} {cells slots : Nat} {ls : Array Slot}, r_28 l0 l1 l2 l3 l4 l5 σ = some res → gW E D A s σ H locs → lv_has ls 10 [(0, .ref l0), (1, .ref l1), (2, .ref l2), (3, .ref l3), (4, .ref l4), (5, .int l5)] → W p l e R s m args below meth c H locs cells slots Q (F0 m 28 ls [])) (hf : L_law_2473 E r_28 l0 l1 l2 l3 l4 l5 σ = some res) (hw : gW E D A s σ H locs) (hl : lv_has ls 10 [(0, .ref l0), (1, .ref l1), (2, .ref l2), (3, .ref l3), (4, .ref l4), (5, .int l5)]) : W p l e R s m args below meth c H locs cells slots Q (F0 m 2473 ls []) := by
  have hC0 := hC
  obtain ⟨hx, hb, hml, hown, hts, -⟩ := hC0
  unfold L_law_2473 at hf
  refine lv_aload_n hx hb dL_law_2473 rfl (lv_at hl 1 rfl) ?_
  refine lv_aload_n hx hb dL_law_2474 rfl (lv_at hl 0 rfl) ?_
  refine lv_iload hx hb dL_law_2475 (lv_at hl 5 rfl) ?_
  refine lv_iconst (v := 1) hx hb dL_law_2477 (by decide) ?_
  refine lv_iadd hx hb dL_law_2478 ?_
  obtain ⟨x694, h695, hf⟩ := ob_some hf
  refine gg_aldI hC hw h695 dL_law_2479 ?_
  refine lv_aload_n hx hb dL_law_2480 rfl (lv_at hl 3 rfl) ?_
  obtain ⟨x696, h697, hf⟩ := ob_some hf
  refine gg_yHI (As := [.ref l1, .int x694, .ref l3]) hC hw (L_addRow_M l hst E D A h697) g_ml_L_323 hd_L_addRow.2 (Nat.le_of_ble_eq_true rfl) (Nat.le_of_ble_eq_true rfl) hl.1 rfl (Nat.le_of_ble_eq_true rfl) dL_law_2481 (fun _ _ he => nomatch (congrArg Prod.fst he)) (fun r9 σ9 he H locs cells slots hw => ?_)
  cases he
  refine lv_istore (lv' := [(6, .int x696.1), (0, .ref l0), (1, .ref l1), (2, .ref l2), (3, .ref l3), (4, .ref l4), (5, .int l5)]) hx hb dL_law_2484 hl (by decide) rfl (fun ls hl => ?_)
  refine lv_aload_n hx hb dL_law_2486 rfl (lv_at hl 3 rfl) ?_
  refine lv_aload_n hx hb dL_law_2487 rfl (lv_at hl 1 rfl) ?_
  refine lv_iload hx hb dL_law_2488 (lv_at hl 6 rfl) ?_
  refine lv_iconst (v := 1) hx hb dL_law_2490 (by decide) ?_
  refine lv_iadd hx hb dL_law_2491 ?_
  obtain ⟨x698, h699, hf⟩ := ob_some hf
  refine gg_aldI hC hw h699 dL_law_2492 ?_
  obtain ⟨_, h702, hf⟩ := ob_some hf
  obtain ⟨x700, h701, hf⟩ := ob_some hf
  refine gg_cVI (As := [.int x698]) hC hw (X13_addRow_M l E D A h701) h702 rfl g_ml_L_325 hd_X13_addRow (Nat.le_of_ble_eq_true rfl) (Nat.le_of_ble_eq_true rfl) hl.1 rfl (Nat.le_of_ble_eq_true rfl) dL_law_2493 (fun H locs cells slots hw => ?_)
  refine lv_istore (lv' := [(7, .int x700.1), (6, .int x696.1), (0, .ref l0), (1, .ref l1), (2, .ref l2), (3, .ref l3), (4, .ref l4), (5, .int l5)]) hx hb dL_law_2496 hl (by decide) rfl (fun ls hl => ?_)
  refine lv_aload_n hx hb dL_law_2498 rfl (lv_at hl 4 rfl) ?_
  obtain ⟨_, h705, hf⟩ := ob_some hf
  obtain ⟨x703, h704, hf⟩ := ob_some hf
  refine gg_cVI (As := []) hC hw (X13_thrown_M l E D A h704) h705 rfl g_ml_L_174 hd_X13_thrown (Nat.le_of_ble_eq_true rfl) (Nat.le_of_ble_eq_true rfl) hl.1 rfl (Nat.le_of_ble_eq_true rfl) dL_law_2499 (fun H locs cells slots hw => ?_)
  refine lv_iload hx hb dL_law_2502 (lv_at hl 1 rfl) ?_
  refine lv_icmp_eq (tgt := 2509) hx hb dL_law_2504 (by decide) (fun c710 => ?_) (fun c710 => ?_)
  · replace hf := (if_pos c710).symm.trans hf
    refine lv_iload hx hb dL_law_2509 (lv_at hl 1 rfl) ?_
    refine lv_if_ne (tgt := 2526) hx hb dL_law_2511 (by decide) (fun c709 => ?_) (fun c709 => ?_)
    · replace hf := (if_neg c709).symm.trans hf
      refine lv_goto (tgt := 3358) hx hb dL_law_2526 (by decide) ?_
      exact L_law_3358_W hC hQ hst h_28 hf hw (lv_sub hl [2, 3, 4, 5, 6, 7] rfl)
    · replace hf := (if_pos c709).symm.trans hf
      refine lv_aload_n hx hb dL_law_2514 rfl (lv_at hl 5 rfl) ?_
      refine lv_iconst (v := 0) hx hb dL_law_2515 (by decide) ?_
      obtain ⟨x706, h707, hf⟩ := ob_some hf
      refine gg_aldJ hC hw h707 dL_law_2516 ?_
      refine lv_iload hx hb dL_law_2517 (lv_at hl 0 rfl) ?_
      refine lv_i2l (v := (x700.1).toInt64) hx hb dL_law_2519 rfl ?_
      refine W.lcmp hx hb dL_law_2520 ?_
      refine lv_if_eq (tgt := 2526) hx hb dL_law_2521 (by decide) (fun c708 => ?_) (fun c708 => ?_)
      · replace hf := (if_pos c708).symm.trans hf
        refine lv_goto (tgt := 3358) hx hb dL_law_2526 (by decide) ?_
        exact L_law_3358_W hC hQ hst h_28 hf hw (lv_sub hl [2, 3, 4, 5, 6, 7] rfl)
      · replace hf := (if_neg c708).symm.trans hf
        refine lv_iconst (v := 0) hx hb dL_law_2524 (by decide) ?_
        cases hf
        exact hQ _ _ _ _ _ _ dL_law_2525 gz0 hw
  · replace hf := (if_neg c710).symm.trans hf
    refine lv_iconst (v := 0) hx hb dL_law_2507 (by decide) ?_
    cases hf
    exact hQ _ _ _ _ _ _ dL_law_2508 gz0 hw

def L_law_2529 (E : gE) (r_28 : Nat → Nat → Nat → Nat → Nat → Int32 → gS → Option (Int32 × gS)) (l0 : Nat) (l1 : Nat) (l2 : Nat) (l3 : Nat) (l4 : Nat) (l5 : Int32) (σ : gS) : Option (Int32 × gS) :=
  ob (graI E 0 σ l0 (l5 + (1 : Int32))) fun x711 =>
  ob (L_removeRow_f E l1 x711 l3 σ) fun x713 =>
  ob (graI E 0 x713.2 l0 (l5 + (1 : Int32))) fun x715 =>
  ob (gcl x713.2 l2 11) fun _ =>
  ob (X13_removeRow_f E l2 x715 x713.2) fun x717 =>
  ob (gcl x717.2 l2 11) fun _ =>
  ob (X13_thrown_f E x717.2 l2) fun x720 =>
  if x720 = x713.1 then
    if x713.1 = 0 then
      ob (graJ E x717.2 l3 (0 : Int32)) fun x723 =>
      if (lg_cmp x723 ((x717.1).toInt64)) = 0 then
        L_law_3358 E r_28 l0 l1 l2 l3 l4 l5 x717.2
      else
        some ((0 : Int32), x717.2)
    else
      L_law_3358 E r_28 l0 l1 l2 l3 l4 l5 x717.2
  else
    some ((0 : Int32), x717.2)
set_option maxHeartbeats 4000000 in
set_option maxRecDepth 100000 in
theorem L_law_2529_W {σ : gS} {l0 : Nat} {l1 : Nat} {l2 : Nat} {l3 : Nat} {l4 : Nat} {l5 : Int32} {res : (Int32 × gS)} {ls : Array Slot} (hC : gC E D A p R s m args meth c cL_law 10 RL nm 11 259) (hQ : gQI E D A p l e R s m args below meth c Q cL_law FieldType.boolean res) (hst : l.stackTraces = false) {r_28 : Nat → Nat → Nat → Nat → Nat → Int32 → gS → Option (Int32 × gS)} (h_28 : ∀ {l0 : Nat} {l1 : Nat} {l2 : Nat} {l3 : Nat} {l4 : Nat} {l5 : Int32} {σ : gS} {H : Heap} {locs : List Loc} {cells slots : Nat} {ls : Array Slot}, r_28 l0 l1 l2 l3 l4 l5 σ = some res → gW E D A s σ H locs → lv_has ls 10 [(0, .ref l0), (1, .ref l1), (2, .ref l2), (3, .ref l3), (4, .ref l4), (5, .int l5)] → W p l e R s m args below meth c H locs cells slots Q (F0 m 28 ls [])) (hf : L_law_2529 E r_28 l0 l1 l2 l3 l4 l5 σ = some res) (hw : gW E D A s σ H locs) (hl : lv_has ls 10 [(0, .ref l0), (1, .ref l1), (2, .ref l2), (3, .ref l3), (4, .ref l4), (5, .int l5)]) : W p l e R s m args below meth c H locs cells slots Q (F0 m 2529 ls []) := by
  have hC0 := hC
  obtain ⟨hx, hb, hml, hown, hts, -⟩ := hC0
  unfold L_law_2529 at hf
  refine lv_aload_n hx hb dL_law_2529 rfl (lv_at hl 1 rfl) ?_
  refine lv_aload_n hx hb dL_law_2530 rfl (lv_at hl 0 rfl) ?_
  refine lv_iload hx hb dL_law_2531 (lv_at hl 5 rfl) ?_
  refine lv_iconst (v := 1) hx hb dL_law_2533 (by decide) ?_
  refine lv_iadd hx hb dL_law_2534 ?_
  obtain ⟨x711, h712, hf⟩ := ob_some hf
  refine gg_aldI hC hw h712 dL_law_2535 ?_
  refine lv_aload_n hx hb dL_law_2536 rfl (lv_at hl 3 rfl) ?_
  obtain ⟨x713, h714, hf⟩ := ob_some hf
  refine gg_yHI (As := [.ref l1, .int x711, .ref l3]) hC hw (L_removeRow_M l hst E D A h714) g_ml_L_326 hd_L_removeRow.2 (Nat.le_of_ble_eq_true rfl) (Nat.le_of_ble_eq_true rfl) hl.1 rfl (Nat.le_of_ble_eq_true rfl) dL_law_2537 (fun _ _ he => nomatch (congrArg Prod.fst he)) (fun r9 σ9 he H locs cells slots hw => ?_)
  cases he
  refine lv_istore (lv' := [(6, .int x713.1), (0, .ref l0), (1, .ref l1), (2, .ref l2), (3, .ref l3), (4, .ref l4), (5, .int l5)]) hx hb dL_law_2540 hl (by decide) rfl (fun ls hl => ?_)
  refine lv_aload_n hx hb dL_law_2542 rfl (lv_at hl 3 rfl) ?_
  refine lv_aload_n hx hb dL_law_2543 rfl (lv_at hl 1 rfl) ?_
  refine lv_iload hx hb dL_law_2544 (lv_at hl 6 rfl) ?_
  refine lv_iconst (v := 1) hx hb dL_law_2546 (by decide) ?_
  refine lv_iadd hx hb dL_law_2547 ?_
  obtain ⟨x715, h716, hf⟩ := ob_some hf
  refine gg_aldI hC hw h716 dL_law_2548 ?_
  obtain ⟨_, h719, hf⟩ := ob_some hf
  obtain ⟨x717, h718, hf⟩ := ob_some hf
  refine gg_cVI (As := [.int x715]) hC hw (X13_removeRow_M l E D A h718) h719 rfl g_ml_L_328 hd_X13_removeRow (Nat.le_of_ble_eq_true rfl) (Nat.le_of_ble_eq_true rfl) hl.1 rfl (Nat.le_of_ble_eq_true rfl) dL_law_2549 (fun H locs cells slots hw => ?_)
  refine lv_istore (lv' := [(7, .int x717.1), (6, .int x713.1), (0, .ref l0), (1, .ref l1), (2, .ref l2), (3, .ref l3), (4, .ref l4), (5, .int l5)]) hx hb dL_law_2552 hl (by decide) rfl (fun ls hl => ?_)
  refine lv_aload_n hx hb dL_law_2554 rfl (lv_at hl 4 rfl) ?_
  obtain ⟨_, h722, hf⟩ := ob_some hf
  obtain ⟨x720, h721, hf⟩ := ob_some hf
  refine gg_cVI (As := []) hC hw (X13_thrown_M l E D A h721) h722 rfl g_ml_L_174 hd_X13_thrown (Nat.le_of_ble_eq_true rfl) (Nat.le_of_ble_eq_true rfl) hl.1 rfl (Nat.le_of_ble_eq_true rfl) dL_law_2555 (fun H locs cells slots hw => ?_)
  refine lv_iload hx hb dL_law_2558 (lv_at hl 1 rfl) ?_
  refine lv_icmp_eq (tgt := 2565) hx hb dL_law_2560 (by decide) (fun c727 => ?_) (fun c727 => ?_)
  · replace hf := (if_pos c727).symm.trans hf
    refine lv_iload hx hb dL_law_2565 (lv_at hl 1 rfl) ?_
    refine lv_if_ne (tgt := 2582) hx hb dL_law_2567 (by decide) (fun c726 => ?_) (fun c726 => ?_)
    · replace hf := (if_neg c726).symm.trans hf
      refine lv_goto (tgt := 3358) hx hb dL_law_2582 (by decide) ?_
      exact L_law_3358_W hC hQ hst h_28 hf hw (lv_sub hl [2, 3, 4, 5, 6, 7] rfl)
    · replace hf := (if_pos c726).symm.trans hf
      refine lv_aload_n hx hb dL_law_2570 rfl (lv_at hl 5 rfl) ?_
      refine lv_iconst (v := 0) hx hb dL_law_2571 (by decide) ?_
      obtain ⟨x723, h724, hf⟩ := ob_some hf
      refine gg_aldJ hC hw h724 dL_law_2572 ?_
      refine lv_iload hx hb dL_law_2573 (lv_at hl 0 rfl) ?_
      refine lv_i2l (v := (x717.1).toInt64) hx hb dL_law_2575 rfl ?_
      refine W.lcmp hx hb dL_law_2576 ?_
      refine lv_if_eq (tgt := 2582) hx hb dL_law_2577 (by decide) (fun c725 => ?_) (fun c725 => ?_)
      · replace hf := (if_pos c725).symm.trans hf
        refine lv_goto (tgt := 3358) hx hb dL_law_2582 (by decide) ?_
        exact L_law_3358_W hC hQ hst h_28 hf hw (lv_sub hl [2, 3, 4, 5, 6, 7] rfl)
      · replace hf := (if_neg c725).symm.trans hf
        refine lv_iconst (v := 0) hx hb dL_law_2580 (by decide) ?_
        cases hf
        exact hQ _ _ _ _ _ _ dL_law_2581 gz0 hw
  · replace hf := (if_neg c727).symm.trans hf
    refine lv_iconst (v := 0) hx hb dL_law_2563 (by decide) ?_
    cases hf
    exact hQ _ _ _ _ _ _ dL_law_2564 gz0 hw

def L_law_2585 (E : gE) (r_28 : Nat → Nat → Nat → Nat → Nat → Int32 → gS → Option (Int32 × gS)) (l0 : Nat) (l1 : Nat) (l2 : Nat) (l3 : Nat) (l4 : Nat) (l5 : Int32) (σ : gS) : Option (Int32 × gS) :=
  ob (graI E 0 σ l0 (l5 + (1 : Int32))) fun x728 =>
  ob (graI E 0 σ l0 (l5 + (2 : Int32))) fun x730 =>
  ob (graI E 0 σ l0 (l5 + (3 : Int32))) fun x732 =>
  ob (L_setValue_f E l1 x728 x730 x732 l3 σ) fun x734 =>
  ob (graI E 0 x734.2 l0 (l5 + (1 : Int32))) fun x736 =>
  ob (graI E 0 x734.2 l0 (l5 + (2 : Int32))) fun x738 =>
  ob (graI E 0 x734.2 l0 (l5 + (3 : Int32))) fun x740 =>
  ob (gcl x734.2 l2 11) fun _ =>
  ob (X13_setValue_f E l2 x736 x738 x740 x734.2) fun x742 =>
  ob (gcl x742.2 l2 11) fun _ =>
  ob (X13_thrown_f E x742.2 l2) fun x745 =>
  if x745 = x734.1 then
    if x734.1 = 0 then
      ob (graJ E x742.2 l3 (0 : Int32)) fun x748 =>
      if (lg_cmp x748 ((x742.1).toInt64)) = 0 then
        L_law_3358 E r_28 l0 l1 l2 l3 l4 l5 x742.2
      else
        some ((0 : Int32), x742.2)
    else
      L_law_3358 E r_28 l0 l1 l2 l3 l4 l5 x742.2
  else
    some ((0 : Int32), x742.2)
set_option maxHeartbeats 4000000 in
set_option maxRecDepth 100000 in
theorem L_law_2585_W {σ : gS} {l0 : Nat} {l1 : Nat} {l2 : Nat} {l3 : Nat} {l4 : Nat} {l5 : Int32} {res : (Int32 × gS)} {ls : Array Slot} (hC : gC E D A p R s m args meth c cL_law 10 RL nm 11 259) (hQ : gQI E D A p l e R s m args below meth c Q cL_law FieldType.boolean res) (hst : l.stackTraces = false) {r_28 : Nat → Nat → Nat → Nat → Nat → Int32 → gS → Option (Int32 × gS)} (h_28 : ∀ {l0 : Nat} {l1 : Nat} {l2 : Nat} {l3 : Nat} {l4 : Nat} {l5 : Int32} {σ : gS} {H : Heap} {locs : List Loc} {cells slots : Nat} {ls : Array Slot}, r_28 l0 l1 l2 l3 l4 l5 σ = some res → gW E D A s σ H locs → lv_has ls 10 [(0, .ref l0), (1, .ref l1), (2, .ref l2), (3, .ref l3), (4, .ref l4), (5, .int l5)] → W p l e R s m args below meth c H locs cells slots Q (F0 m 28 ls [])) (hf : L_law_2585 E r_28 l0 l1 l2 l3 l4 l5 σ = some res) (hw : gW E D A s σ H locs) (hl : lv_has ls 10 [(0, .ref l0), (1, .ref l1), (2, .ref l2), (3, .ref l3), (4, .ref l4), (5, .int l5)]) : W p l e R s m args below meth c H locs cells slots Q (F0 m 2585 ls []) := by
  have hC0 := hC
  obtain ⟨hx, hb, hml, hown, hts, -⟩ := hC0
  unfold L_law_2585 at hf
  refine lv_aload_n hx hb dL_law_2585 rfl (lv_at hl 1 rfl) ?_
  refine lv_aload_n hx hb dL_law_2586 rfl (lv_at hl 0 rfl) ?_
  refine lv_iload hx hb dL_law_2587 (lv_at hl 5 rfl) ?_
  refine lv_iconst (v := 1) hx hb dL_law_2589 (by decide) ?_
  refine lv_iadd hx hb dL_law_2590 ?_
  obtain ⟨x728, h729, hf⟩ := ob_some hf
  refine gg_aldI hC hw h729 dL_law_2591 ?_
  refine lv_aload_n hx hb dL_law_2592 rfl (lv_at hl 0 rfl) ?_
  refine lv_iload hx hb dL_law_2593 (lv_at hl 5 rfl) ?_
  refine lv_iconst (v := 2) hx hb dL_law_2595 (by decide) ?_
  refine lv_iadd hx hb dL_law_2596 ?_
  obtain ⟨x730, h731, hf⟩ := ob_some hf
  refine gg_aldI hC hw h731 dL_law_2597 ?_
  refine lv_aload_n hx hb dL_law_2598 rfl (lv_at hl 0 rfl) ?_
  refine lv_iload hx hb dL_law_2599 (lv_at hl 5 rfl) ?_
  refine lv_iconst (v := 3) hx hb dL_law_2601 (by decide) ?_
  refine lv_iadd hx hb dL_law_2602 ?_
  obtain ⟨x732, h733, hf⟩ := ob_some hf
  refine gg_aldI hC hw h733 dL_law_2603 ?_
  refine lv_aload_n hx hb dL_law_2604 rfl (lv_at hl 3 rfl) ?_
  obtain ⟨x734, h735, hf⟩ := ob_some hf
  refine gg_yHI (As := [.ref l1, .int x728, .int x730, .int x732, .ref l3]) hC hw (L_setValue_M l hst E D A h735) g_ml_L_329 hd_L_setValue.2 (Nat.le_of_ble_eq_true rfl) (Nat.le_of_ble_eq_true rfl) hl.1 rfl (Nat.le_of_ble_eq_true rfl) dL_law_2605 (fun _ _ he => nomatch (congrArg Prod.fst he)) (fun r9 σ9 he H locs cells slots hw => ?_)
  cases he
  refine lv_istore (lv' := [(6, .int x734.1), (0, .ref l0), (1, .ref l1), (2, .ref l2), (3, .ref l3), (4, .ref l4), (5, .int l5)]) hx hb dL_law_2608 hl (by decide) rfl (fun ls hl => ?_)
  refine lv_aload_n hx hb dL_law_2610 rfl (lv_at hl 3 rfl) ?_
  refine lv_aload_n hx hb dL_law_2611 rfl (lv_at hl 1 rfl) ?_
  refine lv_iload hx hb dL_law_2612 (lv_at hl 6 rfl) ?_
  refine lv_iconst (v := 1) hx hb dL_law_2614 (by decide) ?_
  refine lv_iadd hx hb dL_law_2615 ?_
  obtain ⟨x736, h737, hf⟩ := ob_some hf
  refine gg_aldI hC hw h737 dL_law_2616 ?_
  refine lv_aload_n hx hb dL_law_2617 rfl (lv_at hl 1 rfl) ?_
  refine lv_iload hx hb dL_law_2618 (lv_at hl 6 rfl) ?_
  refine lv_iconst (v := 2) hx hb dL_law_2620 (by decide) ?_
  refine lv_iadd hx hb dL_law_2621 ?_
  obtain ⟨x738, h739, hf⟩ := ob_some hf
  refine gg_aldI hC hw h739 dL_law_2622 ?_
  refine lv_aload_n hx hb dL_law_2623 rfl (lv_at hl 1 rfl) ?_
  refine lv_iload hx hb dL_law_2624 (lv_at hl 6 rfl) ?_
  refine lv_iconst (v := 3) hx hb dL_law_2626 (by decide) ?_
  refine lv_iadd hx hb dL_law_2627 ?_
  obtain ⟨x740, h741, hf⟩ := ob_some hf
  refine gg_aldI hC hw h741 dL_law_2628 ?_
  obtain ⟨_, h744, hf⟩ := ob_some hf
  obtain ⟨x742, h743, hf⟩ := ob_some hf
  refine gg_cVI (As := [.int x736, .int x738, .int x740]) hC hw (X13_setValue_M l E D A h743) h744 rfl g_ml_L_332 hd_X13_setValue (Nat.le_of_ble_eq_true rfl) (Nat.le_of_ble_eq_true rfl) hl.1 rfl (Nat.le_of_ble_eq_true rfl) dL_law_2629 (fun H locs cells slots hw => ?_)
  refine lv_istore (lv' := [(7, .int x742.1), (6, .int x734.1), (0, .ref l0), (1, .ref l1), (2, .ref l2), (3, .ref l3), (4, .ref l4), (5, .int l5)]) hx hb dL_law_2632 hl (by decide) rfl (fun ls hl => ?_)
  refine lv_aload_n hx hb dL_law_2634 rfl (lv_at hl 4 rfl) ?_
  obtain ⟨_, h747, hf⟩ := ob_some hf
  obtain ⟨x745, h746, hf⟩ := ob_some hf
  refine gg_cVI (As := []) hC hw (X13_thrown_M l E D A h746) h747 rfl g_ml_L_174 hd_X13_thrown (Nat.le_of_ble_eq_true rfl) (Nat.le_of_ble_eq_true rfl) hl.1 rfl (Nat.le_of_ble_eq_true rfl) dL_law_2635 (fun H locs cells slots hw => ?_)
  refine lv_iload hx hb dL_law_2638 (lv_at hl 1 rfl) ?_
  refine lv_icmp_eq (tgt := 2645) hx hb dL_law_2640 (by decide) (fun c752 => ?_) (fun c752 => ?_)
  · replace hf := (if_pos c752).symm.trans hf
    refine lv_iload hx hb dL_law_2645 (lv_at hl 1 rfl) ?_
    refine lv_if_ne (tgt := 2662) hx hb dL_law_2647 (by decide) (fun c751 => ?_) (fun c751 => ?_)
    · replace hf := (if_neg c751).symm.trans hf
      refine lv_goto (tgt := 3358) hx hb dL_law_2662 (by decide) ?_
      exact L_law_3358_W hC hQ hst h_28 hf hw (lv_sub hl [2, 3, 4, 5, 6, 7] rfl)
    · replace hf := (if_pos c751).symm.trans hf
      refine lv_aload_n hx hb dL_law_2650 rfl (lv_at hl 5 rfl) ?_
      refine lv_iconst (v := 0) hx hb dL_law_2651 (by decide) ?_
      obtain ⟨x748, h749, hf⟩ := ob_some hf
      refine gg_aldJ hC hw h749 dL_law_2652 ?_
      refine lv_iload hx hb dL_law_2653 (lv_at hl 0 rfl) ?_
      refine lv_i2l (v := (x742.1).toInt64) hx hb dL_law_2655 rfl ?_
      refine W.lcmp hx hb dL_law_2656 ?_
      refine lv_if_eq (tgt := 2662) hx hb dL_law_2657 (by decide) (fun c750 => ?_) (fun c750 => ?_)
      · replace hf := (if_pos c750).symm.trans hf
        refine lv_goto (tgt := 3358) hx hb dL_law_2662 (by decide) ?_
        exact L_law_3358_W hC hQ hst h_28 hf hw (lv_sub hl [2, 3, 4, 5, 6, 7] rfl)
      · replace hf := (if_neg c750).symm.trans hf
        refine lv_iconst (v := 0) hx hb dL_law_2660 (by decide) ?_
        cases hf
        exact hQ _ _ _ _ _ _ dL_law_2661 gz0 hw
  · replace hf := (if_neg c752).symm.trans hf
    refine lv_iconst (v := 0) hx hb dL_law_2643 (by decide) ?_
    cases hf
    exact hQ _ _ _ _ _ _ dL_law_2644 gz0 hw

def L_law_2713 (E : gE) (r_28 : Nat → Nat → Nat → Nat → Nat → Int32 → gS → Option (Int32 × gS)) (l0 : Nat) (l1 : Nat) (l2 : Nat) (l3 : Nat) (l4 : Nat) (l5 : Int32) (l6 : Int32) (s0 : Int32) (s1 : Int32) (s2 : Nat) (σ : gS) : Option (Int32 × gS) :=
  ob (gcl σ s2 11) fun _ =>
  ob (X13_sort_f E s2 s1 s0 σ) fun x753 =>
  ob (gcl x753.2 l2 11) fun _ =>
  ob (X13_thrown_f E x753.2 l2) fun x756 =>
  if x756 = l6 then
    if l6 = 0 then
      ob (graJ E x753.2 l3 (0 : Int32)) fun x759 =>
      if (lg_cmp x759 ((x753.1).toInt64)) = 0 then
        L_law_3358 E r_28 l0 l1 l2 l3 l4 l5 x753.2
      else
        some ((0 : Int32), x753.2)
    else
      L_law_3358 E r_28 l0 l1 l2 l3 l4 l5 x753.2
  else
    some ((0 : Int32), x753.2)
set_option maxHeartbeats 4000000 in
set_option maxRecDepth 100000 in
theorem L_law_2713_W {σ : gS} {l0 : Nat} {l1 : Nat} {l2 : Nat} {l3 : Nat} {l4 : Nat} {l5 : Int32} {l6 : Int32} {s0 : Int32} {s1 : Int32} {s2 : Nat} {res : (Int32 × gS)} {ls : Array Slot} (hC : gC E D A p R s m args meth c cL_law 10 RL nm 11 259) (hQ : gQI E D A p l e R s m args below meth c Q cL_law FieldType.boolean res) (hst : l.stackTraces = false) {r_28 : Nat → Nat → Nat → Nat → Nat → Int32 → gS → Option (Int32 × gS)} (h_28 : ∀ {l0 : Nat} {l1 : Nat} {l2 : Nat} {l3 : Nat} {l4 : Nat} {l5 : Int32} {σ : gS} {H : Heap} {locs : List Loc} {cells slots : Nat} {ls : Array Slot}, r_28 l0 l1 l2 l3 l4 l5 σ = some res → gW E D A s σ H locs → lv_has ls 10 [(0, .ref l0), (1, .ref l1), (2, .ref l2), (3, .ref l3), (4, .ref l4), (5, .int l5)] → W p l e R s m args below meth c H locs cells slots Q (F0 m 28 ls [])) (hf : L_law_2713 E r_28 l0 l1 l2 l3 l4 l5 l6 s0 s1 s2 σ = some res) (hw : gW E D A s σ H locs) (hl : lv_has ls 10 [(0, .ref l0), (1, .ref l1), (2, .ref l2), (3, .ref l3), (4, .ref l4), (5, .int l5), (6, .int l6)]) : W p l e R s m args below meth c H locs cells slots Q (F0 m 2713 ls [.int s0, .int s1, .ref s2]) := by
  have hC0 := hC
  obtain ⟨hx, hb, hml, hown, hts, -⟩ := hC0
  unfold L_law_2713 at hf
  obtain ⟨_, h755, hf⟩ := ob_some hf
  obtain ⟨x753, h754, hf⟩ := ob_some hf
  refine gg_cVI (As := [.int s1, .int s0]) hC hw (X13_sort_M l E D A h754) h755 rfl g_ml_L_336 hd_X13_sort (Nat.le_of_ble_eq_true rfl) (Nat.le_of_ble_eq_true rfl) hl.1 rfl (Nat.le_of_ble_eq_true rfl) dL_law_2713 (fun H locs cells slots hw => ?_)
  refine lv_istore (lv' := [(7, .int x753.1), (0, .ref l0), (1, .ref l1), (2, .ref l2), (3, .ref l3), (4, .ref l4), (5, .int l5), (6, .int l6)]) hx hb dL_law_2716 hl (by decide) rfl (fun ls hl => ?_)
  refine lv_aload_n hx hb dL_law_2718 rfl (lv_at hl 3 rfl) ?_
  obtain ⟨_, h758, hf⟩ := ob_some hf
  obtain ⟨x756, h757, hf⟩ := ob_some hf
  refine gg_cVI (As := []) hC hw (X13_thrown_M l E D A h757) h758 rfl g_ml_L_174 hd_X13_thrown (Nat.le_of_ble_eq_true rfl) (Nat.le_of_ble_eq_true rfl) hl.1 rfl (Nat.le_of_ble_eq_true rfl) dL_law_2719 (fun H locs cells slots hw => ?_)
  refine lv_iload hx hb dL_law_2722 (lv_at hl 7 rfl) ?_
  refine lv_icmp_eq (tgt := 2729) hx hb dL_law_2724 (by decide) (fun c763 => ?_) (fun c763 => ?_)
  · replace hf := (if_pos c763).symm.trans hf
    refine lv_iload hx hb dL_law_2729 (lv_at hl 7 rfl) ?_
    refine lv_if_ne (tgt := 2746) hx hb dL_law_2731 (by decide) (fun c762 => ?_) (fun c762 => ?_)
    · replace hf := (if_neg c762).symm.trans hf
      refine lv_goto (tgt := 3358) hx hb dL_law_2746 (by decide) ?_
      exact L_law_3358_W hC hQ hst h_28 hf hw (lv_sub hl [1, 2, 3, 4, 5, 6] rfl)
    · replace hf := (if_pos c762).symm.trans hf
      refine lv_aload_n hx hb dL_law_2734 rfl (lv_at hl 4 rfl) ?_
      refine lv_iconst (v := 0) hx hb dL_law_2735 (by decide) ?_
      obtain ⟨x759, h760, hf⟩ := ob_some hf
      refine gg_aldJ hC hw h760 dL_law_2736 ?_
      refine lv_iload hx hb dL_law_2737 (lv_at hl 0 rfl) ?_
      refine lv_i2l (v := (x753.1).toInt64) hx hb dL_law_2739 rfl ?_
      refine W.lcmp hx hb dL_law_2740 ?_
      refine lv_if_eq (tgt := 2746) hx hb dL_law_2741 (by decide) (fun c761 => ?_) (fun c761 => ?_)
      · replace hf := (if_pos c761).symm.trans hf
        refine lv_goto (tgt := 3358) hx hb dL_law_2746 (by decide) ?_
        exact L_law_3358_W hC hQ hst h_28 hf hw (lv_sub hl [1, 2, 3, 4, 5, 6] rfl)
      · replace hf := (if_neg c761).symm.trans hf
        refine lv_iconst (v := 0) hx hb dL_law_2744 (by decide) ?_
        cases hf
        exact hQ _ _ _ _ _ _ dL_law_2745 gz0 hw
  · replace hf := (if_neg c763).symm.trans hf
    refine lv_iconst (v := 0) hx hb dL_law_2727 (by decide) ?_
    cases hf
    exact hQ _ _ _ _ _ _ dL_law_2728 gz0 hw

def L_law_2686 (E : gE) (r_28 : Nat → Nat → Nat → Nat → Nat → Int32 → gS → Option (Int32 × gS)) (l0 : Nat) (l1 : Nat) (l2 : Nat) (l3 : Nat) (l4 : Nat) (l5 : Int32) (s0 : Int32) (s1 : Int32) (s2 : Nat) (σ : gS) : Option (Int32 × gS) :=
  ob (L_sort_f E s2 s1 s0 l3 σ) fun x764 =>
  ob (graI E 0 x764.2 l0 (l5 + (1 : Int32))) fun x766 =>
  ob (graI E 0 x764.2 l0 (l5 + (2 : Int32))) fun x768 =>
  if x768 = 0 then
    L_law_2713 E r_28 l0 l1 l2 l3 l4 l5 x764.1 (0 : Int32) x766 l2 x764.2
  else
    L_law_2713 E r_28 l0 l1 l2 l3 l4 l5 x764.1 (1 : Int32) x766 l2 x764.2
set_option maxHeartbeats 4000000 in
set_option maxRecDepth 100000 in
theorem L_law_2686_W {σ : gS} {l0 : Nat} {l1 : Nat} {l2 : Nat} {l3 : Nat} {l4 : Nat} {l5 : Int32} {s0 : Int32} {s1 : Int32} {s2 : Nat} {res : (Int32 × gS)} {ls : Array Slot} (hC : gC E D A p R s m args meth c cL_law 10 RL nm 11 259) (hQ : gQI E D A p l e R s m args below meth c Q cL_law FieldType.boolean res) (hst : l.stackTraces = false) {r_28 : Nat → Nat → Nat → Nat → Nat → Int32 → gS → Option (Int32 × gS)} (h_28 : ∀ {l0 : Nat} {l1 : Nat} {l2 : Nat} {l3 : Nat} {l4 : Nat} {l5 : Int32} {σ : gS} {H : Heap} {locs : List Loc} {cells slots : Nat} {ls : Array Slot}, r_28 l0 l1 l2 l3 l4 l5 σ = some res → gW E D A s σ H locs → lv_has ls 10 [(0, .ref l0), (1, .ref l1), (2, .ref l2), (3, .ref l3), (4, .ref l4), (5, .int l5)] → W p l e R s m args below meth c H locs cells slots Q (F0 m 28 ls [])) (hf : L_law_2686 E r_28 l0 l1 l2 l3 l4 l5 s0 s1 s2 σ = some res) (hw : gW E D A s σ H locs) (hl : lv_has ls 10 [(0, .ref l0), (1, .ref l1), (2, .ref l2), (3, .ref l3), (4, .ref l4), (5, .int l5)]) : W p l e R s m args below meth c H locs cells slots Q (F0 m 2686 ls [.int s0, .int s1, .ref s2]) := by
  have hC0 := hC
  obtain ⟨hx, hb, hml, hown, hts, -⟩ := hC0
  unfold L_law_2686 at hf
  refine lv_aload_n hx hb dL_law_2686 rfl (lv_at hl 3 rfl) ?_
  obtain ⟨x764, h765, hf⟩ := ob_some hf
  refine gg_yHI (As := [.ref s2, .int s1, .int s0, .ref l3]) hC hw (L_sort_M l hst E D A h765) g_ml_L_333 hd_L_sort.2 (Nat.le_of_ble_eq_true rfl) (Nat.le_of_ble_eq_true rfl) hl.1 rfl (Nat.le_of_ble_eq_true rfl) dL_law_2687 (fun _ _ he => nomatch (congrArg Prod.fst he)) (fun r9 σ9 he H locs cells slots hw => ?_)
  cases he
  refine lv_istore (lv' := [(6, .int x764.1), (0, .ref l0), (1, .ref l1), (2, .ref l2), (3, .ref l3), (4, .ref l4), (5, .int l5)]) hx hb dL_law_2690 hl (by decide) rfl (fun ls hl => ?_)
  refine lv_aload_n hx hb dL_law_2692 rfl (lv_at hl 3 rfl) ?_
  refine lv_aload_n hx hb dL_law_2693 rfl (lv_at hl 1 rfl) ?_
  refine lv_iload hx hb dL_law_2694 (lv_at hl 6 rfl) ?_
  refine lv_iconst (v := 1) hx hb dL_law_2696 (by decide) ?_
  refine lv_iadd hx hb dL_law_2697 ?_
  obtain ⟨x766, h767, hf⟩ := ob_some hf
  refine gg_aldI hC hw h767 dL_law_2698 ?_
  refine lv_aload_n hx hb dL_law_2699 rfl (lv_at hl 1 rfl) ?_
  refine lv_iload hx hb dL_law_2700 (lv_at hl 6 rfl) ?_
  refine lv_iconst (v := 2) hx hb dL_law_2702 (by decide) ?_
  refine lv_iadd hx hb dL_law_2703 ?_
  obtain ⟨x768, h769, hf⟩ := ob_some hf
  refine gg_aldI hC hw h769 dL_law_2704 ?_
  refine lv_if_eq (tgt := 2712) hx hb dL_law_2705 (by decide) (fun c770 => ?_) (fun c770 => ?_)
  · replace hf := (if_pos c770).symm.trans hf
    refine lv_iconst (v := 0) hx hb dL_law_2712 (by decide) ?_
    exact L_law_2713_W hC hQ hst h_28 hf hw (lv_sub hl [1, 2, 3, 4, 5, 6, 0] rfl)
  · replace hf := (if_neg c770).symm.trans hf
    refine lv_iconst (v := 1) hx hb dL_law_2708 (by decide) ?_
    refine lv_goto (tgt := 2713) hx hb dL_law_2709 (by decide) ?_
    exact L_law_2713_W hC hQ hst h_28 hf hw (lv_sub hl [1, 2, 3, 4, 5, 6, 0] rfl)

def L_law_2665 (E : gE) (r_28 : Nat → Nat → Nat → Nat → Nat → Int32 → gS → Option (Int32 × gS)) (l0 : Nat) (l1 : Nat) (l2 : Nat) (l3 : Nat) (l4 : Nat) (l5 : Int32) (σ : gS) : Option (Int32 × gS) :=
  ob (graI E 0 σ l0 (l5 + (1 : Int32))) fun x771 =>
  ob (graI E 0 σ l0 (l5 + (2 : Int32))) fun x773 =>
  if x773 = 0 then
    L_law_2686 E r_28 l0 l1 l2 l3 l4 l5 (0 : Int32) x771 l1 σ
  else
    L_law_2686 E r_28 l0 l1 l2 l3 l4 l5 (1 : Int32) x771 l1 σ
set_option maxHeartbeats 4000000 in
set_option maxRecDepth 100000 in
theorem L_law_2665_W {σ : gS} {l0 : Nat} {l1 : Nat} {l2 : Nat} {l3 : Nat} {l4 : Nat} {l5 : Int32} {res : (Int32 × gS)} {ls : Array Slot} (hC : gC E D A p R s m args meth c cL_law 10 RL nm 11 259) (hQ : gQI E D A p l e R s m args below meth c Q cL_law FieldType.boolean res) (hst : l.stackTraces = false) {r_28 : Nat → Nat → Nat → Nat → Nat → Int32 → gS → Option (Int32 × gS)} (h_28 : ∀ {l0 : Nat} {l1 : Nat} {l2 : Nat} {l3 : Nat} {l4 : Nat} {l5 : Int32} {σ : gS} {H : Heap} {locs : List Loc} {cells slots : Nat} {ls : Array Slot}, r_28 l0 l1 l2 l3 l4 l5 σ = some res → gW E D A s σ H locs → lv_has ls 10 [(0, .ref l0), (1, .ref l1), (2, .ref l2), (3, .ref l3), (4, .ref l4), (5, .int l5)] → W p l e R s m args below meth c H locs cells slots Q (F0 m 28 ls [])) (hf : L_law_2665 E r_28 l0 l1 l2 l3 l4 l5 σ = some res) (hw : gW E D A s σ H locs) (hl : lv_has ls 10 [(0, .ref l0), (1, .ref l1), (2, .ref l2), (3, .ref l3), (4, .ref l4), (5, .int l5)]) : W p l e R s m args below meth c H locs cells slots Q (F0 m 2665 ls []) := by
  have hC0 := hC
  obtain ⟨hx, hb, hml, hown, hts, -⟩ := hC0
  unfold L_law_2665 at hf
  refine lv_aload_n hx hb dL_law_2665 rfl (lv_at hl 1 rfl) ?_
  refine lv_aload_n hx hb dL_law_2666 rfl (lv_at hl 0 rfl) ?_
  refine lv_iload hx hb dL_law_2667 (lv_at hl 5 rfl) ?_
  refine lv_iconst (v := 1) hx hb dL_law_2669 (by decide) ?_
  refine lv_iadd hx hb dL_law_2670 ?_
  obtain ⟨x771, h772, hf⟩ := ob_some hf
  refine gg_aldI hC hw h772 dL_law_2671 ?_
  refine lv_aload_n hx hb dL_law_2672 rfl (lv_at hl 0 rfl) ?_
  refine lv_iload hx hb dL_law_2673 (lv_at hl 5 rfl) ?_
  refine lv_iconst (v := 2) hx hb dL_law_2675 (by decide) ?_
  refine lv_iadd hx hb dL_law_2676 ?_
  obtain ⟨x773, h774, hf⟩ := ob_some hf
  refine gg_aldI hC hw h774 dL_law_2677 ?_
  refine lv_if_eq (tgt := 2685) hx hb dL_law_2678 (by decide) (fun c775 => ?_) (fun c775 => ?_)
  · replace hf := (if_pos c775).symm.trans hf
    refine lv_iconst (v := 0) hx hb dL_law_2685 (by decide) ?_
    exact L_law_2686_W hC hQ hst h_28 hf hw (lv_sub hl [0, 1, 2, 3, 4, 5] rfl)
  · replace hf := (if_neg c775).symm.trans hf
    refine lv_iconst (v := 1) hx hb dL_law_2681 (by decide) ?_
    refine lv_goto (tgt := 2686) hx hb dL_law_2682 (by decide) ?_
    exact L_law_2686_W hC hQ hst h_28 hf hw (lv_sub hl [0, 1, 2, 3, 4, 5] rfl)

def L_law_2749 (E : gE) (r_28 : Nat → Nat → Nat → Nat → Nat → Int32 → gS → Option (Int32 × gS)) (l0 : Nat) (l1 : Nat) (l2 : Nat) (l3 : Nat) (l4 : Nat) (l5 : Int32) (σ : gS) : Option (Int32 × gS) :=
  ob (graI E 0 σ l0 (l5 + (1 : Int32))) fun x776 =>
  ob (graI E 0 σ l0 (l5 + (2 : Int32))) fun x778 =>
  ob (L_addLess_f E l1 x776 x778 l3 σ) fun x780 =>
  ob (graI E 0 x780.2 l0 (l5 + (1 : Int32))) fun x782 =>
  ob (graI E 0 x780.2 l0 (l5 + (2 : Int32))) fun x784 =>
  ob (gcl x780.2 l2 11) fun _ =>
  ob (X13_addLess_f E l2 x782 x784 x780.2) fun x786 =>
  ob (gcl x786.2 l2 11) fun _ =>
  ob (X13_thrown_f E x786.2 l2) fun x789 =>
  if x789 = x780.1 then
    if x780.1 = 0 then
      ob (graJ E x786.2 l3 (0 : Int32)) fun x792 =>
      if (lg_cmp x792 ((x786.1).toInt64)) = 0 then
        L_law_3358 E r_28 l0 l1 l2 l3 l4 l5 x786.2
      else
        some ((0 : Int32), x786.2)
    else
      L_law_3358 E r_28 l0 l1 l2 l3 l4 l5 x786.2
  else
    some ((0 : Int32), x786.2)
set_option maxHeartbeats 4000000 in
set_option maxRecDepth 100000 in
theorem L_law_2749_W {σ : gS} {l0 : Nat} {l1 : Nat} {l2 : Nat} {l3 : Nat} {l4 : Nat} {l5 : Int32} {res : (Int32 × gS)} {ls : Array Slot} (hC : gC E D A p R s m args meth c cL_law 10 RL nm 11 259) (hQ : gQI E D A p l e R s m args below meth c Q cL_law FieldType.boolean res) (hst : l.stackTraces = false) {r_28 : Nat → Nat → Nat → Nat → Nat → Int32 → gS → Option (Int32 × gS)} (h_28 : ∀ {l0 : Nat} {l1 : Nat} {l2 : Nat} {l3 : Nat} {l4 : Nat} {l5 : Int32} {σ : gS} {H : Heap} {locs : List Loc} {cells slots : Nat} {ls : Array Slot}, r_28 l0 l1 l2 l3 l4 l5 σ = some res → gW E D A s σ H locs → lv_has ls 10 [(0, .ref l0), (1, .ref l1), (2, .ref l2), (3, .ref l3), (4, .ref l4), (5, .int l5)] → W p l e R s m args below meth c H locs cells slots Q (F0 m 28 ls [])) (hf : L_law_2749 E r_28 l0 l1 l2 l3 l4 l5 σ = some res) (hw : gW E D A s σ H locs) (hl : lv_has ls 10 [(0, .ref l0), (1, .ref l1), (2, .ref l2), (3, .ref l3), (4, .ref l4), (5, .int l5)]) : W p l e R s m args below meth c H locs cells slots Q (F0 m 2749 ls []) := by
  have hC0 := hC
  obtain ⟨hx, hb, hml, hown, hts, -⟩ := hC0
  unfold L_law_2749 at hf
  refine lv_aload_n hx hb dL_law_2749 rfl (lv_at hl 1 rfl) ?_
  refine lv_aload_n hx hb dL_law_2750 rfl (lv_at hl 0 rfl) ?_
  refine lv_iload hx hb dL_law_2751 (lv_at hl 5 rfl) ?_
  refine lv_iconst (v := 1) hx hb dL_law_2753 (by decide) ?_
  refine lv_iadd hx hb dL_law_2754 ?_
  obtain ⟨x776, h777, hf⟩ := ob_some hf
  refine gg_aldI hC hw h777 dL_law_2755 ?_
  refine lv_aload_n hx hb dL_law_2756 rfl (lv_at hl 0 rfl) ?_
  refine lv_iload hx hb dL_law_2757 (lv_at hl 5 rfl) ?_
  refine lv_iconst (v := 2) hx hb dL_law_2759 (by decide) ?_
  refine lv_iadd hx hb dL_law_2760 ?_
  obtain ⟨x778, h779, hf⟩ := ob_some hf
  refine gg_aldI hC hw h779 dL_law_2761 ?_
  refine lv_aload_n hx hb dL_law_2762 rfl (lv_at hl 3 rfl) ?_
  obtain ⟨x780, h781, hf⟩ := ob_some hf
  refine gg_yHI (As := [.ref l1, .int x776, .int x778, .ref l3]) hC hw (L_addLess_M l hst E D A h781) g_ml_L_337 hd_L_addLess.2 (Nat.le_of_ble_eq_true rfl) (Nat.le_of_ble_eq_true rfl) hl.1 rfl (Nat.le_of_ble_eq_true rfl) dL_law_2763 (fun _ _ he => nomatch (congrArg Prod.fst he)) (fun r9 σ9 he H locs cells slots hw => ?_)
  cases he
  refine lv_istore (lv' := [(6, .int x780.1), (0, .ref l0), (1, .ref l1), (2, .ref l2), (3, .ref l3), (4, .ref l4), (5, .int l5)]) hx hb dL_law_2766 hl (by decide) rfl (fun ls hl => ?_)
  refine lv_aload_n hx hb dL_law_2768 rfl (lv_at hl 3 rfl) ?_
  refine lv_aload_n hx hb dL_law_2769 rfl (lv_at hl 1 rfl) ?_
  refine lv_iload hx hb dL_law_2770 (lv_at hl 6 rfl) ?_
  refine lv_iconst (v := 1) hx hb dL_law_2772 (by decide) ?_
  refine lv_iadd hx hb dL_law_2773 ?_
  obtain ⟨x782, h783, hf⟩ := ob_some hf
  refine gg_aldI hC hw h783 dL_law_2774 ?_
  refine lv_aload_n hx hb dL_law_2775 rfl (lv_at hl 1 rfl) ?_
  refine lv_iload hx hb dL_law_2776 (lv_at hl 6 rfl) ?_
  refine lv_iconst (v := 2) hx hb dL_law_2778 (by decide) ?_
  refine lv_iadd hx hb dL_law_2779 ?_
  obtain ⟨x784, h785, hf⟩ := ob_some hf
  refine gg_aldI hC hw h785 dL_law_2780 ?_
  obtain ⟨_, h788, hf⟩ := ob_some hf
  obtain ⟨x786, h787, hf⟩ := ob_some hf
  refine gg_cVI (As := [.int x782, .int x784]) hC hw (X13_addLess_M l E D A h787) h788 rfl g_ml_L_339 hd_X13_addLess (Nat.le_of_ble_eq_true rfl) (Nat.le_of_ble_eq_true rfl) hl.1 rfl (Nat.le_of_ble_eq_true rfl) dL_law_2781 (fun H locs cells slots hw => ?_)
  refine lv_istore (lv' := [(7, .int x786.1), (6, .int x780.1), (0, .ref l0), (1, .ref l1), (2, .ref l2), (3, .ref l3), (4, .ref l4), (5, .int l5)]) hx hb dL_law_2784 hl (by decide) rfl (fun ls hl => ?_)
  refine lv_aload_n hx hb dL_law_2786 rfl (lv_at hl 4 rfl) ?_
  obtain ⟨_, h791, hf⟩ := ob_some hf
  obtain ⟨x789, h790, hf⟩ := ob_some hf
  refine gg_cVI (As := []) hC hw (X13_thrown_M l E D A h790) h791 rfl g_ml_L_174 hd_X13_thrown (Nat.le_of_ble_eq_true rfl) (Nat.le_of_ble_eq_true rfl) hl.1 rfl (Nat.le_of_ble_eq_true rfl) dL_law_2787 (fun H locs cells slots hw => ?_)
  refine lv_iload hx hb dL_law_2790 (lv_at hl 1 rfl) ?_
  refine lv_icmp_eq (tgt := 2797) hx hb dL_law_2792 (by decide) (fun c796 => ?_) (fun c796 => ?_)
  · replace hf := (if_pos c796).symm.trans hf
    refine lv_iload hx hb dL_law_2797 (lv_at hl 1 rfl) ?_
    refine lv_if_ne (tgt := 2814) hx hb dL_law_2799 (by decide) (fun c795 => ?_) (fun c795 => ?_)
    · replace hf := (if_neg c795).symm.trans hf
      refine lv_goto (tgt := 3358) hx hb dL_law_2814 (by decide) ?_
      exact L_law_3358_W hC hQ hst h_28 hf hw (lv_sub hl [2, 3, 4, 5, 6, 7] rfl)
    · replace hf := (if_pos c795).symm.trans hf
      refine lv_aload_n hx hb dL_law_2802 rfl (lv_at hl 5 rfl) ?_
      refine lv_iconst (v := 0) hx hb dL_law_2803 (by decide) ?_
      obtain ⟨x792, h793, hf⟩ := ob_some hf
      refine gg_aldJ hC hw h793 dL_law_2804 ?_
      refine lv_iload hx hb dL_law_2805 (lv_at hl 0 rfl) ?_
      refine lv_i2l (v := (x786.1).toInt64) hx hb dL_law_2807 rfl ?_
      refine W.lcmp hx hb dL_law_2808 ?_
      refine lv_if_eq (tgt := 2814) hx hb dL_law_2809 (by decide) (fun c794 => ?_) (fun c794 => ?_)
      · replace hf := (if_pos c794).symm.trans hf
        refine lv_goto (tgt := 3358) hx hb dL_law_2814 (by decide) ?_
        exact L_law_3358_W hC hQ hst h_28 hf hw (lv_sub hl [2, 3, 4, 5, 6, 7] rfl)
      · replace hf := (if_neg c794).symm.trans hf
        refine lv_iconst (v := 0) hx hb dL_law_2812 (by decide) ?_
        cases hf
        exact hQ _ _ _ _ _ _ dL_law_2813 gz0 hw
  · replace hf := (if_neg c796).symm.trans hf
    refine lv_iconst (v := 0) hx hb dL_law_2795 (by decide) ?_
    cases hf
    exact hQ _ _ _ _ _ _ dL_law_2796 gz0 hw

def L_law_2817 (E : gE) (r_28 : Nat → Nat → Nat → Nat → Nat → Int32 → gS → Option (Int32 × gS)) (l0 : Nat) (l1 : Nat) (l2 : Nat) (l3 : Nat) (l4 : Nat) (l5 : Int32) (σ : gS) : Option (Int32 × gS) :=
  ob (graI E 0 σ l0 (l5 + (1 : Int32))) fun x797 =>
  ob (graI E 0 σ l0 (l5 + (2 : Int32))) fun x799 =>
  ob (L_addEqual_f E l1 x797 x799 l3 σ) fun x801 =>
  ob (graI E 0 x801.2 l0 (l5 + (1 : Int32))) fun x803 =>
  ob (graI E 0 x801.2 l0 (l5 + (2 : Int32))) fun x805 =>
  ob (gcl x801.2 l2 11) fun _ =>
  ob (X13_addEqual_f E l2 x803 x805 x801.2) fun x807 =>
  ob (gcl x807.2 l2 11) fun _ =>
  ob (X13_thrown_f E x807.2 l2) fun x810 =>
  if x810 = x801.1 then
    if x801.1 = 0 then
      ob (graJ E x807.2 l3 (0 : Int32)) fun x813 =>
      if (lg_cmp x813 ((x807.1).toInt64)) = 0 then
        L_law_3358 E r_28 l0 l1 l2 l3 l4 l5 x807.2
      else
        some ((0 : Int32), x807.2)
    else
      L_law_3358 E r_28 l0 l1 l2 l3 l4 l5 x807.2
  else
    some ((0 : Int32), x807.2)
set_option maxHeartbeats 4000000 in
set_option maxRecDepth 100000 in
theorem L_law_2817_W {σ : gS} {l0 : Nat} {l1 : Nat} {l2 : Nat} {l3 : Nat} {l4 : Nat} {l5 : Int32} {res : (Int32 × gS)} {ls : Array Slot} (hC : gC E D A p R s m args meth c cL_law 10 RL nm 11 259) (hQ : gQI E D A p l e R s m args below meth c Q cL_law FieldType.boolean res) (hst : l.stackTraces = false) {r_28 : Nat → Nat → Nat → Nat → Nat → Int32 → gS → Option (Int32 × gS)} (h_28 : ∀ {l0 : Nat} {l1 : Nat} {l2 : Nat} {l3 : Nat} {l4 : Nat} {l5 : Int32} {σ : gS} {H : Heap} {locs : List Loc} {cells slots : Nat} {ls : Array Slot}, r_28 l0 l1 l2 l3 l4 l5 σ = some res → gW E D A s σ H locs → lv_has ls 10 [(0, .ref l0), (1, .ref l1), (2, .ref l2), (3, .ref l3), (4, .ref l4), (5, .int l5)] → W p l e R s m args below meth c H locs cells slots Q (F0 m 28 ls [])) (hf : L_law_2817 E r_28 l0 l1 l2 l3 l4 l5 σ = some res) (hw : gW E D A s σ H locs) (hl : lv_has ls 10 [(0, .ref l0), (1, .ref l1), (2, .ref l2), (3, .ref l3), (4, .ref l4), (5, .int l5)]) : W p l e R s m args below meth c H locs cells slots Q (F0 m 2817 ls []) := by
  have hC0 := hC
  obtain ⟨hx, hb, hml, hown, hts, -⟩ := hC0
  unfold L_law_2817 at hf
  refine lv_aload_n hx hb dL_law_2817 rfl (lv_at hl 1 rfl) ?_
  refine lv_aload_n hx hb dL_law_2818 rfl (lv_at hl 0 rfl) ?_
  refine lv_iload hx hb dL_law_2819 (lv_at hl 5 rfl) ?_
  refine lv_iconst (v := 1) hx hb dL_law_2821 (by decide) ?_
  refine lv_iadd hx hb dL_law_2822 ?_
  obtain ⟨x797, h798, hf⟩ := ob_some hf
  refine gg_aldI hC hw h798 dL_law_2823 ?_
  refine lv_aload_n hx hb dL_law_2824 rfl (lv_at hl 0 rfl) ?_
  refine lv_iload hx hb dL_law_2825 (lv_at hl 5 rfl) ?_
  refine lv_iconst (v := 2) hx hb dL_law_2827 (by decide) ?_
  refine lv_iadd hx hb dL_law_2828 ?_
  obtain ⟨x799, h800, hf⟩ := ob_some hf
  refine gg_aldI hC hw h800 dL_law_2829 ?_
  refine lv_aload_n hx hb dL_law_2830 rfl (lv_at hl 3 rfl) ?_
  obtain ⟨x801, h802, hf⟩ := ob_some hf
  refine gg_yHI (As := [.ref l1, .int x797, .int x799, .ref l3]) hC hw (L_addEqual_M l hst E D A h802) g_ml_L_340 hd_L_addEqual.2 (Nat.le_of_ble_eq_true rfl) (Nat.le_of_ble_eq_true rfl) hl.1 rfl (Nat.le_of_ble_eq_true rfl) dL_law_2831 (fun _ _ he => nomatch (congrArg Prod.fst he)) (fun r9 σ9 he H locs cells slots hw => ?_)
  cases he
  refine lv_istore (lv' := [(6, .int x801.1), (0, .ref l0), (1, .ref l1), (2, .ref l2), (3, .ref l3), (4, .ref l4), (5, .int l5)]) hx hb dL_law_2834 hl (by decide) rfl (fun ls hl => ?_)
  refine lv_aload_n hx hb dL_law_2836 rfl (lv_at hl 3 rfl) ?_
  refine lv_aload_n hx hb dL_law_2837 rfl (lv_at hl 1 rfl) ?_
  refine lv_iload hx hb dL_law_2838 (lv_at hl 6 rfl) ?_
  refine lv_iconst (v := 1) hx hb dL_law_2840 (by decide) ?_
  refine lv_iadd hx hb dL_law_2841 ?_
  obtain ⟨x803, h804, hf⟩ := ob_some hf
  refine gg_aldI hC hw h804 dL_law_2842 ?_
  refine lv_aload_n hx hb dL_law_2843 rfl (lv_at hl 1 rfl) ?_
  refine lv_iload hx hb dL_law_2844 (lv_at hl 6 rfl) ?_
  refine lv_iconst (v := 2) hx hb dL_law_2846 (by decide) ?_
  refine lv_iadd hx hb dL_law_2847 ?_
  obtain ⟨x805, h806, hf⟩ := ob_some hf
  refine gg_aldI hC hw h806 dL_law_2848 ?_
  obtain ⟨_, h809, hf⟩ := ob_some hf
  obtain ⟨x807, h808, hf⟩ := ob_some hf
  refine gg_cVI (As := [.int x803, .int x805]) hC hw (X13_addEqual_M l E D A h808) h809 rfl g_ml_L_342 hd_X13_addEqual (Nat.le_of_ble_eq_true rfl) (Nat.le_of_ble_eq_true rfl) hl.1 rfl (Nat.le_of_ble_eq_true rfl) dL_law_2849 (fun H locs cells slots hw => ?_)
  refine lv_istore (lv' := [(7, .int x807.1), (6, .int x801.1), (0, .ref l0), (1, .ref l1), (2, .ref l2), (3, .ref l3), (4, .ref l4), (5, .int l5)]) hx hb dL_law_2852 hl (by decide) rfl (fun ls hl => ?_)
  refine lv_aload_n hx hb dL_law_2854 rfl (lv_at hl 4 rfl) ?_
  obtain ⟨_, h812, hf⟩ := ob_some hf
  obtain ⟨x810, h811, hf⟩ := ob_some hf
  refine gg_cVI (As := []) hC hw (X13_thrown_M l E D A h811) h812 rfl g_ml_L_174 hd_X13_thrown (Nat.le_of_ble_eq_true rfl) (Nat.le_of_ble_eq_true rfl) hl.1 rfl (Nat.le_of_ble_eq_true rfl) dL_law_2855 (fun H locs cells slots hw => ?_)
  refine lv_iload hx hb dL_law_2858 (lv_at hl 1 rfl) ?_
  refine lv_icmp_eq (tgt := 2865) hx hb dL_law_2860 (by decide) (fun c817 => ?_) (fun c817 => ?_)
  · replace hf := (if_pos c817).symm.trans hf
    refine lv_iload hx hb dL_law_2865 (lv_at hl 1 rfl) ?_
    refine lv_if_ne (tgt := 2882) hx hb dL_law_2867 (by decide) (fun c816 => ?_) (fun c816 => ?_)
    · replace hf := (if_neg c816).symm.trans hf
      refine lv_goto (tgt := 3358) hx hb dL_law_2882 (by decide) ?_
      exact L_law_3358_W hC hQ hst h_28 hf hw (lv_sub hl [2, 3, 4, 5, 6, 7] rfl)
    · replace hf := (if_pos c816).symm.trans hf
      refine lv_aload_n hx hb dL_law_2870 rfl (lv_at hl 5 rfl) ?_
      refine lv_iconst (v := 0) hx hb dL_law_2871 (by decide) ?_
      obtain ⟨x813, h814, hf⟩ := ob_some hf
      refine gg_aldJ hC hw h814 dL_law_2872 ?_
      refine lv_iload hx hb dL_law_2873 (lv_at hl 0 rfl) ?_
      refine lv_i2l (v := (x807.1).toInt64) hx hb dL_law_2875 rfl ?_
      refine W.lcmp hx hb dL_law_2876 ?_
      refine lv_if_eq (tgt := 2882) hx hb dL_law_2877 (by decide) (fun c815 => ?_) (fun c815 => ?_)
      · replace hf := (if_pos c815).symm.trans hf
        refine lv_goto (tgt := 3358) hx hb dL_law_2882 (by decide) ?_
        exact L_law_3358_W hC hQ hst h_28 hf hw (lv_sub hl [2, 3, 4, 5, 6, 7] rfl)
      · replace hf := (if_neg c815).symm.trans hf
        refine lv_iconst (v := 0) hx hb dL_law_2880 (by decide) ?_
        cases hf
        exact hQ _ _ _ _ _ _ dL_law_2881 gz0 hw
  · replace hf := (if_neg c817).symm.trans hf
    refine lv_iconst (v := 0) hx hb dL_law_2863 (by decide) ?_
    cases hf
    exact hQ _ _ _ _ _ _ dL_law_2864 gz0 hw

def L_law_2885 (E : gE) (r_28 : Nat → Nat → Nat → Nat → Nat → Int32 → gS → Option (Int32 × gS)) (l0 : Nat) (l1 : Nat) (l2 : Nat) (l3 : Nat) (l4 : Nat) (l5 : Int32) (σ : gS) : Option (Int32 × gS) :=
  ob (graI E 0 σ l0 (l5 + (1 : Int32))) fun x818 =>
  ob (graI E 0 σ l0 (l5 + (2 : Int32))) fun x820 =>
  ob (L_addGreater_f E l1 x818 x820 l3 σ) fun x822 =>
  ob (graI E 0 x822.2 l0 (l5 + (1 : Int32))) fun x824 =>
  ob (graI E 0 x822.2 l0 (l5 + (2 : Int32))) fun x826 =>
  ob (gcl x822.2 l2 11) fun _ =>
  ob (X13_addGreater_f E l2 x824 x826 x822.2) fun x828 =>
  ob (gcl x828.2 l2 11) fun _ =>
  ob (X13_thrown_f E x828.2 l2) fun x831 =>
  if x831 = x822.1 then
    if x822.1 = 0 then
      ob (graJ E x828.2 l3 (0 : Int32)) fun x834 =>
      if (lg_cmp x834 ((x828.1).toInt64)) = 0 then
        L_law_3358 E r_28 l0 l1 l2 l3 l4 l5 x828.2
      else
        some ((0 : Int32), x828.2)
    else
      L_law_3358 E r_28 l0 l1 l2 l3 l4 l5 x828.2
  else
    some ((0 : Int32), x828.2)
set_option maxHeartbeats 4000000 in
set_option maxRecDepth 100000 in
theorem L_law_2885_W {σ : gS} {l0 : Nat} {l1 : Nat} {l2 : Nat} {l3 : Nat} {l4 : Nat} {l5 : Int32} {res : (Int32 × gS)} {ls : Array Slot} (hC : gC E D A p R s m args meth c cL_law 10 RL nm 11 259) (hQ : gQI E D A p l e R s m args below meth c Q cL_law FieldType.boolean res) (hst : l.stackTraces = false) {r_28 : Nat → Nat → Nat → Nat → Nat → Int32 → gS → Option (Int32 × gS)} (h_28 : ∀ {l0 : Nat} {l1 : Nat} {l2 : Nat} {l3 : Nat} {l4 : Nat} {l5 : Int32} {σ : gS} {H : Heap} {locs : List Loc} {cells slots : Nat} {ls : Array Slot}, r_28 l0 l1 l2 l3 l4 l5 σ = some res → gW E D A s σ H locs → lv_has ls 10 [(0, .ref l0), (1, .ref l1), (2, .ref l2), (3, .ref l3), (4, .ref l4), (5, .int l5)] → W p l e R s m args below meth c H locs cells slots Q (F0 m 28 ls [])) (hf : L_law_2885 E r_28 l0 l1 l2 l3 l4 l5 σ = some res) (hw : gW E D A s σ H locs) (hl : lv_has ls 10 [(0, .ref l0), (1, .ref l1), (2, .ref l2), (3, .ref l3), (4, .ref l4), (5, .int l5)]) : W p l e R s m args below meth c H locs cells slots Q (F0 m 2885 ls []) := by
  have hC0 := hC
  obtain ⟨hx, hb, hml, hown, hts, -⟩ := hC0
  unfold L_law_2885 at hf
  refine lv_aload_n hx hb dL_law_2885 rfl (lv_at hl 1 rfl) ?_
  refine lv_aload_n hx hb dL_law_2886 rfl (lv_at hl 0 rfl) ?_
  refine lv_iload hx hb dL_law_2887 (lv_at hl 5 rfl) ?_
  refine lv_iconst (v := 1) hx hb dL_law_2889 (by decide) ?_
  refine lv_iadd hx hb dL_law_2890 ?_
  obtain ⟨x818, h819, hf⟩ := ob_some hf
  refine gg_aldI hC hw h819 dL_law_2891 ?_
  refine lv_aload_n hx hb dL_law_2892 rfl (lv_at hl 0 rfl) ?_
  refine lv_iload hx hb dL_law_2893 (lv_at hl 5 rfl) ?_
  refine lv_iconst (v := 2) hx hb dL_law_2895 (by decide) ?_
  refine lv_iadd hx hb dL_law_2896 ?_
  obtain ⟨x820, h821, hf⟩ := ob_some hf
  refine gg_aldI hC hw h821 dL_law_2897 ?_
  refine lv_aload_n hx hb dL_law_2898 rfl (lv_at hl 3 rfl) ?_
  obtain ⟨x822, h823, hf⟩ := ob_some hf
  refine gg_yHI (As := [.ref l1, .int x818, .int x820, .ref l3]) hC hw (L_addGreater_M l hst E D A h823) g_ml_L_343 hd_L_addGreater.2 (Nat.le_of_ble_eq_true rfl) (Nat.le_of_ble_eq_true rfl) hl.1 rfl (Nat.le_of_ble_eq_true rfl) dL_law_2899 (fun _ _ he => nomatch (congrArg Prod.fst he)) (fun r9 σ9 he H locs cells slots hw => ?_)
  cases he
  refine lv_istore (lv' := [(6, .int x822.1), (0, .ref l0), (1, .ref l1), (2, .ref l2), (3, .ref l3), (4, .ref l4), (5, .int l5)]) hx hb dL_law_2902 hl (by decide) rfl (fun ls hl => ?_)
  refine lv_aload_n hx hb dL_law_2904 rfl (lv_at hl 3 rfl) ?_
  refine lv_aload_n hx hb dL_law_2905 rfl (lv_at hl 1 rfl) ?_
  refine lv_iload hx hb dL_law_2906 (lv_at hl 6 rfl) ?_
  refine lv_iconst (v := 1) hx hb dL_law_2908 (by decide) ?_
  refine lv_iadd hx hb dL_law_2909 ?_
  obtain ⟨x824, h825, hf⟩ := ob_some hf
  refine gg_aldI hC hw h825 dL_law_2910 ?_
  refine lv_aload_n hx hb dL_law_2911 rfl (lv_at hl 1 rfl) ?_
  refine lv_iload hx hb dL_law_2912 (lv_at hl 6 rfl) ?_
  refine lv_iconst (v := 2) hx hb dL_law_2914 (by decide) ?_
  refine lv_iadd hx hb dL_law_2915 ?_
  obtain ⟨x826, h827, hf⟩ := ob_some hf
  refine gg_aldI hC hw h827 dL_law_2916 ?_
  obtain ⟨_, h830, hf⟩ := ob_some hf
  obtain ⟨x828, h829, hf⟩ := ob_some hf
  refine gg_cVI (As := [.int x824, .int x826]) hC hw (X13_addGreater_M l E D A h829) h830 rfl g_ml_L_345 hd_X13_addGreater (Nat.le_of_ble_eq_true rfl) (Nat.le_of_ble_eq_true rfl) hl.1 rfl (Nat.le_of_ble_eq_true rfl) dL_law_2917 (fun H locs cells slots hw => ?_)
  refine lv_istore (lv' := [(7, .int x828.1), (6, .int x822.1), (0, .ref l0), (1, .ref l1), (2, .ref l2), (3, .ref l3), (4, .ref l4), (5, .int l5)]) hx hb dL_law_2920 hl (by decide) rfl (fun ls hl => ?_)
  refine lv_aload_n hx hb dL_law_2922 rfl (lv_at hl 4 rfl) ?_
  obtain ⟨_, h833, hf⟩ := ob_some hf
  obtain ⟨x831, h832, hf⟩ := ob_some hf
  refine gg_cVI (As := []) hC hw (X13_thrown_M l E D A h832) h833 rfl g_ml_L_174 hd_X13_thrown (Nat.le_of_ble_eq_true rfl) (Nat.le_of_ble_eq_true rfl) hl.1 rfl (Nat.le_of_ble_eq_true rfl) dL_law_2923 (fun H locs cells slots hw => ?_)
  refine lv_iload hx hb dL_law_2926 (lv_at hl 1 rfl) ?_
  refine lv_icmp_eq (tgt := 2933) hx hb dL_law_2928 (by decide) (fun c838 => ?_) (fun c838 => ?_)
  · replace hf := (if_pos c838).symm.trans hf
    refine lv_iload hx hb dL_law_2933 (lv_at hl 1 rfl) ?_
    refine lv_if_ne (tgt := 2950) hx hb dL_law_2935 (by decide) (fun c837 => ?_) (fun c837 => ?_)
    · replace hf := (if_neg c837).symm.trans hf
      refine lv_goto (tgt := 3358) hx hb dL_law_2950 (by decide) ?_
      exact L_law_3358_W hC hQ hst h_28 hf hw (lv_sub hl [2, 3, 4, 5, 6, 7] rfl)
    · replace hf := (if_pos c837).symm.trans hf
      refine lv_aload_n hx hb dL_law_2938 rfl (lv_at hl 5 rfl) ?_
      refine lv_iconst (v := 0) hx hb dL_law_2939 (by decide) ?_
      obtain ⟨x834, h835, hf⟩ := ob_some hf
      refine gg_aldJ hC hw h835 dL_law_2940 ?_
      refine lv_iload hx hb dL_law_2941 (lv_at hl 0 rfl) ?_
      refine lv_i2l (v := (x828.1).toInt64) hx hb dL_law_2943 rfl ?_
      refine W.lcmp hx hb dL_law_2944 ?_
      refine lv_if_eq (tgt := 2950) hx hb dL_law_2945 (by decide) (fun c836 => ?_) (fun c836 => ?_)
      · replace hf := (if_pos c836).symm.trans hf
        refine lv_goto (tgt := 3358) hx hb dL_law_2950 (by decide) ?_
        exact L_law_3358_W hC hQ hst h_28 hf hw (lv_sub hl [2, 3, 4, 5, 6, 7] rfl)
      · replace hf := (if_neg c836).symm.trans hf
        refine lv_iconst (v := 0) hx hb dL_law_2948 (by decide) ?_
        cases hf
        exact hQ _ _ _ _ _ _ dL_law_2949 gz0 hw
  · replace hf := (if_neg c838).symm.trans hf
    refine lv_iconst (v := 0) hx hb dL_law_2931 (by decide) ?_
    cases hf
    exact hQ _ _ _ _ _ _ dL_law_2932 gz0 hw

def L_law_2953 (E : gE) (r_28 : Nat → Nat → Nat → Nat → Nat → Int32 → gS → Option (Int32 × gS)) (l0 : Nat) (l1 : Nat) (l2 : Nat) (l3 : Nat) (l4 : Nat) (l5 : Int32) (σ : gS) : Option (Int32 × gS) :=
  ob (graI E 0 σ l0 (l5 + (1 : Int32))) fun x839 =>
  ob (L_removeCondition_f E l1 x839 l3 σ) fun x841 =>
  ob (graI E 0 x841.2 l0 (l5 + (1 : Int32))) fun x843 =>
  ob (gcl x841.2 l2 11) fun _ =>
  ob (X13_removeCondition_f E l2 x843 x841.2) fun x845 =>
  ob (gcl x845.2 l2 11) fun _ =>
  ob (X13_thrown_f E x845.2 l2) fun x848 =>
  if x848 = x841.1 then
    if x841.1 = 0 then
      ob (graJ E x845.2 l3 (0 : Int32)) fun x851 =>
      if (lg_cmp x851 ((x845.1).toInt64)) = 0 then
        L_law_3358 E r_28 l0 l1 l2 l3 l4 l5 x845.2
      else
        some ((0 : Int32), x845.2)
    else
      L_law_3358 E r_28 l0 l1 l2 l3 l4 l5 x845.2
  else
    some ((0 : Int32), x845.2)
set_option maxHeartbeats 4000000 in
set_option maxRecDepth 100000 in
theorem L_law_2953_W {σ : gS} {l0 : Nat} {l1 : Nat} {l2 : Nat} {l3 : Nat} {l4 : Nat} {l5 : Int32} {res : (Int32 × gS)} {ls : Array Slot} (hC : gC E D A p R s m args meth c cL_law 10 RL nm 11 259) (hQ : gQI E D A p l e R s m args below meth c Q cL_law FieldType.boolean res) (hst : l.stackTraces = false) {r_28 : Nat → Nat → Nat → Nat → Nat → Int32 → gS → Option (Int32 × gS)} (h_28 : ∀ {l0 : Nat} {l1 : Nat} {l2 : Nat} {l3 : Nat} {l4 : Nat} {l5 : Int32} {σ : gS} {H : Heap} {locs : List Loc} {cells slots : Nat} {ls : Array Slot}, r_28 l0 l1 l2 l3 l4 l5 σ = some res → gW E D A s σ H locs → lv_has ls 10 [(0, .ref l0), (1, .ref l1), (2, .ref l2), (3, .ref l3), (4, .ref l4), (5, .int l5)] → W p l e R s m args below meth c H locs cells slots Q (F0 m 28 ls [])) (hf : L_law_2953 E r_28 l0 l1 l2 l3 l4 l5 σ = some res) (hw : gW E D A s σ H locs) (hl : lv_has ls 10 [(0, .ref l0), (1, .ref l1), (2, .ref l2), (3, .ref l3), (4, .ref l4), (5, .int l5)]) : W p l e R s m args below meth c H locs cells slots Q (F0 m 2953 ls []) := by
  have hC0 := hC
  obtain ⟨hx, hb, hml, hown, hts, -⟩ := hC0
  unfold L_law_2953 at hf
  refine lv_aload_n hx hb dL_law_2953 rfl (lv_at hl 1 rfl) ?_
  refine lv_aload_n hx hb dL_law_2954 rfl (lv_at hl 0 rfl) ?_
  refine lv_iload hx hb dL_law_2955 (lv_at hl 5 rfl) ?_
  refine lv_iconst (v := 1) hx hb dL_law_2957 (by decide) ?_
  refine lv_iadd hx hb dL_law_2958 ?_
  obtain ⟨x839, h840, hf⟩ := ob_some hf
  refine gg_aldI hC hw h840 dL_law_2959 ?_
  refine lv_aload_n hx hb dL_law_2960 rfl (lv_at hl 3 rfl) ?_
  obtain ⟨x841, h842, hf⟩ := ob_some hf
  refine gg_yHI (As := [.ref l1, .int x839, .ref l3]) hC hw (L_removeCondition_M l hst E D A h842) g_ml_L_346 hd_L_removeCondition.2 (Nat.le_of_ble_eq_true rfl) (Nat.le_of_ble_eq_true rfl) hl.1 rfl (Nat.le_of_ble_eq_true rfl) dL_law_2961 (fun _ _ he => nomatch (congrArg Prod.fst he)) (fun r9 σ9 he H locs cells slots hw => ?_)
  cases he
  refine lv_istore (lv' := [(6, .int x841.1), (0, .ref l0), (1, .ref l1), (2, .ref l2), (3, .ref l3), (4, .ref l4), (5, .int l5)]) hx hb dL_law_2964 hl (by decide) rfl (fun ls hl => ?_)
  refine lv_aload_n hx hb dL_law_2966 rfl (lv_at hl 3 rfl) ?_
  refine lv_aload_n hx hb dL_law_2967 rfl (lv_at hl 1 rfl) ?_
  refine lv_iload hx hb dL_law_2968 (lv_at hl 6 rfl) ?_
  refine lv_iconst (v := 1) hx hb dL_law_2970 (by decide) ?_
  refine lv_iadd hx hb dL_law_2971 ?_
  obtain ⟨x843, h844, hf⟩ := ob_some hf
  refine gg_aldI hC hw h844 dL_law_2972 ?_
  obtain ⟨_, h847, hf⟩ := ob_some hf
  obtain ⟨x845, h846, hf⟩ := ob_some hf
  refine gg_cVI (As := [.int x843]) hC hw (X13_removeCondition_M l E D A h846) h847 rfl g_ml_L_348 hd_X13_removeCondition (Nat.le_of_ble_eq_true rfl) (Nat.le_of_ble_eq_true rfl) hl.1 rfl (Nat.le_of_ble_eq_true rfl) dL_law_2973 (fun H locs cells slots hw => ?_)
  refine lv_istore (lv' := [(7, .int x845.1), (6, .int x841.1), (0, .ref l0), (1, .ref l1), (2, .ref l2), (3, .ref l3), (4, .ref l4), (5, .int l5)]) hx hb dL_law_2976 hl (by decide) rfl (fun ls hl => ?_)
  refine lv_aload_n hx hb dL_law_2978 rfl (lv_at hl 4 rfl) ?_
  obtain ⟨_, h850, hf⟩ := ob_some hf
  obtain ⟨x848, h849, hf⟩ := ob_some hf
  refine gg_cVI (As := []) hC hw (X13_thrown_M l E D A h849) h850 rfl g_ml_L_174 hd_X13_thrown (Nat.le_of_ble_eq_true rfl) (Nat.le_of_ble_eq_true rfl) hl.1 rfl (Nat.le_of_ble_eq_true rfl) dL_law_2979 (fun H locs cells slots hw => ?_)
  refine lv_iload hx hb dL_law_2982 (lv_at hl 1 rfl) ?_
  refine lv_icmp_eq (tgt := 2989) hx hb dL_law_2984 (by decide) (fun c855 => ?_) (fun c855 => ?_)
  · replace hf := (if_pos c855).symm.trans hf
    refine lv_iload hx hb dL_law_2989 (lv_at hl 1 rfl) ?_
    refine lv_if_ne (tgt := 3006) hx hb dL_law_2991 (by decide) (fun c854 => ?_) (fun c854 => ?_)
    · replace hf := (if_neg c854).symm.trans hf
      refine lv_goto (tgt := 3358) hx hb dL_law_3006 (by decide) ?_
      exact L_law_3358_W hC hQ hst h_28 hf hw (lv_sub hl [2, 3, 4, 5, 6, 7] rfl)
    · replace hf := (if_pos c854).symm.trans hf
      refine lv_aload_n hx hb dL_law_2994 rfl (lv_at hl 5 rfl) ?_
      refine lv_iconst (v := 0) hx hb dL_law_2995 (by decide) ?_
      obtain ⟨x851, h852, hf⟩ := ob_some hf
      refine gg_aldJ hC hw h852 dL_law_2996 ?_
      refine lv_iload hx hb dL_law_2997 (lv_at hl 0 rfl) ?_
      refine lv_i2l (v := (x845.1).toInt64) hx hb dL_law_2999 rfl ?_
      refine W.lcmp hx hb dL_law_3000 ?_
      refine lv_if_eq (tgt := 3006) hx hb dL_law_3001 (by decide) (fun c853 => ?_) (fun c853 => ?_)
      · replace hf := (if_pos c853).symm.trans hf
        refine lv_goto (tgt := 3358) hx hb dL_law_3006 (by decide) ?_
        exact L_law_3358_W hC hQ hst h_28 hf hw (lv_sub hl [2, 3, 4, 5, 6, 7] rfl)
      · replace hf := (if_neg c853).symm.trans hf
        refine lv_iconst (v := 0) hx hb dL_law_3004 (by decide) ?_
        cases hf
        exact hQ _ _ _ _ _ _ dL_law_3005 gz0 hw
  · replace hf := (if_neg c855).symm.trans hf
    refine lv_iconst (v := 0) hx hb dL_law_2987 (by decide) ?_
    cases hf
    exact hQ _ _ _ _ _ _ dL_law_2988 gz0 hw

def L_law_3009 (E : gE) (r_28 : Nat → Nat → Nat → Nat → Nat → Int32 → gS → Option (Int32 × gS)) (l0 : Nat) (l1 : Nat) (l2 : Nat) (l3 : Nat) (l4 : Nat) (l5 : Int32) (σ : gS) : Option (Int32 × gS) :=
  ob (gcl σ l1 10) fun _ =>
  ob (X12_deleteSelected_f E l1 σ) fun x856 =>
  ob (gcl x856.2 l2 11) fun _ =>
  ob (X13_deleteSelected_f E l2 x856.2) fun x859 =>
  if x856.1 = x859.1 then
    L_law_3358 E r_28 l0 l1 l2 l3 l4 l5 x859.2
  else
    some ((0 : Int32), x859.2)
set_option maxHeartbeats 4000000 in
set_option maxRecDepth 100000 in
theorem L_law_3009_W {σ : gS} {l0 : Nat} {l1 : Nat} {l2 : Nat} {l3 : Nat} {l4 : Nat} {l5 : Int32} {res : (Int32 × gS)} {ls : Array Slot} (hC : gC E D A p R s m args meth c cL_law 10 RL nm 11 259) (hQ : gQI E D A p l e R s m args below meth c Q cL_law FieldType.boolean res) (hst : l.stackTraces = false) {r_28 : Nat → Nat → Nat → Nat → Nat → Int32 → gS → Option (Int32 × gS)} (h_28 : ∀ {l0 : Nat} {l1 : Nat} {l2 : Nat} {l3 : Nat} {l4 : Nat} {l5 : Int32} {σ : gS} {H : Heap} {locs : List Loc} {cells slots : Nat} {ls : Array Slot}, r_28 l0 l1 l2 l3 l4 l5 σ = some res → gW E D A s σ H locs → lv_has ls 10 [(0, .ref l0), (1, .ref l1), (2, .ref l2), (3, .ref l3), (4, .ref l4), (5, .int l5)] → W p l e R s m args below meth c H locs cells slots Q (F0 m 28 ls [])) (hf : L_law_3009 E r_28 l0 l1 l2 l3 l4 l5 σ = some res) (hw : gW E D A s σ H locs) (hl : lv_has ls 10 [(0, .ref l0), (1, .ref l1), (2, .ref l2), (3, .ref l3), (4, .ref l4), (5, .int l5)]) : W p l e R s m args below meth c H locs cells slots Q (F0 m 3009 ls []) := by
  have hC0 := hC
  obtain ⟨hx, hb, hml, hown, hts, -⟩ := hC0
  unfold L_law_3009 at hf
  refine lv_aload_n hx hb dL_law_3009 rfl (lv_at hl 1 rfl) ?_
  obtain ⟨_, h858, hf⟩ := ob_some hf
  obtain ⟨x856, h857, hf⟩ := ob_some hf
  refine gg_cVI (As := []) hC hw (X12_deleteSelected_M l E D A h857) h858 rfl g_ml_L_349 hd_X12_deleteSelected (Nat.le_of_ble_eq_true rfl) (Nat.le_of_ble_eq_true rfl) hl.1 rfl (Nat.le_of_ble_eq_true rfl) dL_law_3010 (fun H locs cells slots hw => ?_)
  refine lv_aload_n hx hb dL_law_3013 rfl (lv_at hl 2 rfl) ?_
  obtain ⟨_, h861, hf⟩ := ob_some hf
  obtain ⟨x859, h860, hf⟩ := ob_some hf
  refine gg_cVI (As := []) hC hw (X13_deleteSelected_M l E D A h860) h861 rfl g_ml_L_352 hd_X13_deleteSelected (Nat.le_of_ble_eq_true rfl) (Nat.le_of_ble_eq_true rfl) hl.1 rfl (Nat.le_of_ble_eq_true rfl) dL_law_3014 (fun H locs cells slots hw => ?_)
  refine lv_icmp_eq (tgt := 3358) hx hb dL_law_3017 (by decide) (fun c862 => ?_) (fun c862 => ?_)
  · replace hf := (if_pos c862).symm.trans hf
    exact L_law_3358_W hC hQ hst h_28 hf hw (lv_sub hl [0, 1, 2, 3, 4, 5] rfl)
  · replace hf := (if_neg c862).symm.trans hf
    refine lv_iconst (v := 0) hx hb dL_law_3020 (by decide) ?_
    cases hf
    exact hQ _ _ _ _ _ _ dL_law_3021 gz0 hw

def L_law_3022 (E : gE) (r_28 : Nat → Nat → Nat → Nat → Nat → Int32 → gS → Option (Int32 × gS)) (l0 : Nat) (l1 : Nat) (l2 : Nat) (l3 : Nat) (l4 : Nat) (l5 : Int32) (σ : gS) : Option (Int32 × gS) :=
  ob (graI E 0 σ l0 (l5 + (1 : Int32))) fun x863 =>
  ob (L_compact_f E l1 x863 l3 σ) fun x865 =>
  ob (graI E 0 x865.2 l0 (l5 + (1 : Int32))) fun x867 =>
  ob (gcl x865.2 l2 11) fun _ =>
  ob (X13_compact_f E l2 x867 x865.2) fun x869 =>
  ob (gcl x869.2 l2 11) fun _ =>
  ob (X13_thrown_f E x869.2 l2) fun x872 =>
  if x872 = x865.1 then
    if x865.1 = 0 then
      ob (graJ E x869.2 l3 (0 : Int32)) fun x875 =>
      if (lg_cmp x875 ((x869.1).toInt64)) = 0 then
        L_law_3358 E r_28 l0 l1 l2 l3 l4 l5 x869.2
      else
        some ((0 : Int32), x869.2)
    else
      L_law_3358 E r_28 l0 l1 l2 l3 l4 l5 x869.2
  else
    some ((0 : Int32), x869.2)
set_option maxHeartbeats 4000000 in
set_option maxRecDepth 100000 in
theorem L_law_3022_W {σ : gS} {l0 : Nat} {l1 : Nat} {l2 : Nat} {l3 : Nat} {l4 : Nat} {l5 : Int32} {res : (Int32 × gS)} {ls : Array Slot} (hC : gC E D A p R s m args meth c cL_law 10 RL nm 11 259) (hQ : gQI E D A p l e R s m args below meth c Q cL_law FieldType.boolean res) (hst : l.stackTraces = false) {r_28 : Nat → Nat → Nat → Nat → Nat → Int32 → gS → Option (Int32 × gS)} (h_28 : ∀ {l0 : Nat} {l1 : Nat} {l2 : Nat} {l3 : Nat} {l4 : Nat} {l5 : Int32} {σ : gS} {H : Heap} {locs : List Loc} {cells slots : Nat} {ls : Array Slot}, r_28 l0 l1 l2 l3 l4 l5 σ = some res → gW E D A s σ H locs → lv_has ls 10 [(0, .ref l0), (1, .ref l1), (2, .ref l2), (3, .ref l3), (4, .ref l4), (5, .int l5)] → W p l e R s m args below meth c H locs cells slots Q (F0 m 28 ls [])) (hf : L_law_3022 E r_28 l0 l1 l2 l3 l4 l5 σ = some res) (hw : gW E D A s σ H locs) (hl : lv_has ls 10 [(0, .ref l0), (1, .ref l1), (2, .ref l2), (3, .ref l3), (4, .ref l4), (5, .int l5)]) : W p l e R s m args below meth c H locs cells slots Q (F0 m 3022 ls []) := by
  have hC0 := hC
  obtain ⟨hx, hb, hml, hown, hts, -⟩ := hC0
  unfold L_law_3022 at hf
  refine lv_aload_n hx hb dL_law_3022 rfl (lv_at hl 1 rfl) ?_
  refine lv_aload_n hx hb dL_law_3023 rfl (lv_at hl 0 rfl) ?_
  refine lv_iload hx hb dL_law_3024 (lv_at hl 5 rfl) ?_
  refine lv_iconst (v := 1) hx hb dL_law_3026 (by decide) ?_
  refine lv_iadd hx hb dL_law_3027 ?_
  obtain ⟨x863, h864, hf⟩ := ob_some hf
  refine gg_aldI hC hw h864 dL_law_3028 ?_
  refine lv_aload_n hx hb dL_law_3029 rfl (lv_at hl 3 rfl) ?_
  obtain ⟨x865, h866, hf⟩ := ob_some hf
  refine gg_yHI (As := [.ref l1, .int x863, .ref l3]) hC hw (L_compact_M l hst E D A h866) g_ml_L_353 hd_L_compact.2 (Nat.le_of_ble_eq_true rfl) (Nat.le_of_ble_eq_true rfl) hl.1 rfl (Nat.le_of_ble_eq_true rfl) dL_law_3030 (fun _ _ he => nomatch (congrArg Prod.fst he)) (fun r9 σ9 he H locs cells slots hw => ?_)
  cases he
  refine lv_istore (lv' := [(6, .int x865.1), (0, .ref l0), (1, .ref l1), (2, .ref l2), (3, .ref l3), (4, .ref l4), (5, .int l5)]) hx hb dL_law_3033 hl (by decide) rfl (fun ls hl => ?_)
  refine lv_aload_n hx hb dL_law_3035 rfl (lv_at hl 3 rfl) ?_
  refine lv_aload_n hx hb dL_law_3036 rfl (lv_at hl 1 rfl) ?_
  refine lv_iload hx hb dL_law_3037 (lv_at hl 6 rfl) ?_
  refine lv_iconst (v := 1) hx hb dL_law_3039 (by decide) ?_
  refine lv_iadd hx hb dL_law_3040 ?_
  obtain ⟨x867, h868, hf⟩ := ob_some hf
  refine gg_aldI hC hw h868 dL_law_3041 ?_
  obtain ⟨_, h871, hf⟩ := ob_some hf
  obtain ⟨x869, h870, hf⟩ := ob_some hf
  refine gg_cVI (As := [.int x867]) hC hw (X13_compact_M l E D A h870) h871 rfl g_ml_L_355 hd_X13_compact (Nat.le_of_ble_eq_true rfl) (Nat.le_of_ble_eq_true rfl) hl.1 rfl (Nat.le_of_ble_eq_true rfl) dL_law_3042 (fun H locs cells slots hw => ?_)
  refine lv_istore (lv' := [(7, .int x869.1), (6, .int x865.1), (0, .ref l0), (1, .ref l1), (2, .ref l2), (3, .ref l3), (4, .ref l4), (5, .int l5)]) hx hb dL_law_3045 hl (by decide) rfl (fun ls hl => ?_)
  refine lv_aload_n hx hb dL_law_3047 rfl (lv_at hl 4 rfl) ?_
  obtain ⟨_, h874, hf⟩ := ob_some hf
  obtain ⟨x872, h873, hf⟩ := ob_some hf
  refine gg_cVI (As := []) hC hw (X13_thrown_M l E D A h873) h874 rfl g_ml_L_174 hd_X13_thrown (Nat.le_of_ble_eq_true rfl) (Nat.le_of_ble_eq_true rfl) hl.1 rfl (Nat.le_of_ble_eq_true rfl) dL_law_3048 (fun H locs cells slots hw => ?_)
  refine lv_iload hx hb dL_law_3051 (lv_at hl 1 rfl) ?_
  refine lv_icmp_eq (tgt := 3058) hx hb dL_law_3053 (by decide) (fun c879 => ?_) (fun c879 => ?_)
  · replace hf := (if_pos c879).symm.trans hf
    refine lv_iload hx hb dL_law_3058 (lv_at hl 1 rfl) ?_
    refine lv_if_ne (tgt := 3075) hx hb dL_law_3060 (by decide) (fun c878 => ?_) (fun c878 => ?_)
    · replace hf := (if_neg c878).symm.trans hf
      refine lv_goto (tgt := 3358) hx hb dL_law_3075 (by decide) ?_
      exact L_law_3358_W hC hQ hst h_28 hf hw (lv_sub hl [2, 3, 4, 5, 6, 7] rfl)
    · replace hf := (if_pos c878).symm.trans hf
      refine lv_aload_n hx hb dL_law_3063 rfl (lv_at hl 5 rfl) ?_
      refine lv_iconst (v := 0) hx hb dL_law_3064 (by decide) ?_
      obtain ⟨x875, h876, hf⟩ := ob_some hf
      refine gg_aldJ hC hw h876 dL_law_3065 ?_
      refine lv_iload hx hb dL_law_3066 (lv_at hl 0 rfl) ?_
      refine lv_i2l (v := (x869.1).toInt64) hx hb dL_law_3068 rfl ?_
      refine W.lcmp hx hb dL_law_3069 ?_
      refine lv_if_eq (tgt := 3075) hx hb dL_law_3070 (by decide) (fun c877 => ?_) (fun c877 => ?_)
      · replace hf := (if_pos c877).symm.trans hf
        refine lv_goto (tgt := 3358) hx hb dL_law_3075 (by decide) ?_
        exact L_law_3358_W hC hQ hst h_28 hf hw (lv_sub hl [2, 3, 4, 5, 6, 7] rfl)
      · replace hf := (if_neg c877).symm.trans hf
        refine lv_iconst (v := 0) hx hb dL_law_3073 (by decide) ?_
        cases hf
        exact hQ _ _ _ _ _ _ dL_law_3074 gz0 hw
  · replace hf := (if_neg c879).symm.trans hf
    refine lv_iconst (v := 0) hx hb dL_law_3056 (by decide) ?_
    cases hf
    exact hQ _ _ _ _ _ _ dL_law_3057 gz0 hw

def L_law_3078 (E : gE) (r_28 : Nat → Nat → Nat → Nat → Nat → Int32 → gS → Option (Int32 × gS)) (l0 : Nat) (l1 : Nat) (l2 : Nat) (l3 : Nat) (l4 : Nat) (l5 : Int32) (σ : gS) : Option (Int32 × gS) :=
  ob (graI E 0 σ l0 (l5 + (1 : Int32))) fun x880 =>
  ob (L_runScript_f E l1 x880 l3 σ) fun x882 =>
  ob (graI E 0 x882.2 l0 (l5 + (1 : Int32))) fun x884 =>
  ob (gcl x882.2 l2 11) fun _ =>
  ob (X13_runScript_f E l2 x884 x882.2) fun x886 =>
  ob (gcl x886.2 l2 11) fun _ =>
  ob (X13_thrown_f E x886.2 l2) fun x889 =>
  if x889 = x882.1 then
    if x882.1 = 0 then
      ob (graJ E x886.2 l3 (0 : Int32)) fun x892 =>
      if (lg_cmp x892 ((x886.1).toInt64)) = 0 then
        L_law_3358 E r_28 l0 l1 l2 l3 l4 l5 x886.2
      else
        some ((0 : Int32), x886.2)
    else
      L_law_3358 E r_28 l0 l1 l2 l3 l4 l5 x886.2
  else
    some ((0 : Int32), x886.2)
set_option maxHeartbeats 4000000 in
set_option maxRecDepth 100000 in
theorem L_law_3078_W {σ : gS} {l0 : Nat} {l1 : Nat} {l2 : Nat} {l3 : Nat} {l4 : Nat} {l5 : Int32} {res : (Int32 × gS)} {ls : Array Slot} (hC : gC E D A p R s m args meth c cL_law 10 RL nm 11 259) (hQ : gQI E D A p l e R s m args below meth c Q cL_law FieldType.boolean res) (hst : l.stackTraces = false) {r_28 : Nat → Nat → Nat → Nat → Nat → Int32 → gS → Option (Int32 × gS)} (h_28 : ∀ {l0 : Nat} {l1 : Nat} {l2 : Nat} {l3 : Nat} {l4 : Nat} {l5 : Int32} {σ : gS} {H : Heap} {locs : List Loc} {cells slots : Nat} {ls : Array Slot}, r_28 l0 l1 l2 l3 l4 l5 σ = some res → gW E D A s σ H locs → lv_has ls 10 [(0, .ref l0), (1, .ref l1), (2, .ref l2), (3, .ref l3), (4, .ref l4), (5, .int l5)] → W p l e R s m args below meth c H locs cells slots Q (F0 m 28 ls [])) (hf : L_law_3078 E r_28 l0 l1 l2 l3 l4 l5 σ = some res) (hw : gW E D A s σ H locs) (hl : lv_has ls 10 [(0, .ref l0), (1, .ref l1), (2, .ref l2), (3, .ref l3), (4, .ref l4), (5, .int l5)]) : W p l e R s m args below meth c H locs cells slots Q (F0 m 3078 ls []) := by
  have hC0 := hC
  obtain ⟨hx, hb, hml, hown, hts, -⟩ := hC0
  unfold L_law_3078 at hf
  refine lv_aload_n hx hb dL_law_3078 rfl (lv_at hl 1 rfl) ?_
  refine lv_aload_n hx hb dL_law_3079 rfl (lv_at hl 0 rfl) ?_
  refine lv_iload hx hb dL_law_3080 (lv_at hl 5 rfl) ?_
  refine lv_iconst (v := 1) hx hb dL_law_3082 (by decide) ?_
  refine lv_iadd hx hb dL_law_3083 ?_
  obtain ⟨x880, h881, hf⟩ := ob_some hf
  refine gg_aldI hC hw h881 dL_law_3084 ?_
  refine lv_aload_n hx hb dL_law_3085 rfl (lv_at hl 3 rfl) ?_
  obtain ⟨x882, h883, hf⟩ := ob_some hf
  refine gg_yHI (As := [.ref l1, .int x880, .ref l3]) hC hw (L_runScript_M l hst E D A h883) g_ml_L_356 hd_L_runScript.2 (Nat.le_of_ble_eq_true rfl) (Nat.le_of_ble_eq_true rfl) hl.1 rfl (Nat.le_of_ble_eq_true rfl) dL_law_3086 (fun _ _ he => nomatch (congrArg Prod.fst he)) (fun r9 σ9 he H locs cells slots hw => ?_)
  cases he
  refine lv_istore (lv' := [(6, .int x882.1), (0, .ref l0), (1, .ref l1), (2, .ref l2), (3, .ref l3), (4, .ref l4), (5, .int l5)]) hx hb dL_law_3089 hl (by decide) rfl (fun ls hl => ?_)
  refine lv_aload_n hx hb dL_law_3091 rfl (lv_at hl 3 rfl) ?_
  refine lv_aload_n hx hb dL_law_3092 rfl (lv_at hl 1 rfl) ?_
  refine lv_iload hx hb dL_law_3093 (lv_at hl 6 rfl) ?_
  refine lv_iconst (v := 1) hx hb dL_law_3095 (by decide) ?_
  refine lv_iadd hx hb dL_law_3096 ?_
  obtain ⟨x884, h885, hf⟩ := ob_some hf
  refine gg_aldI hC hw h885 dL_law_3097 ?_
  obtain ⟨_, h888, hf⟩ := ob_some hf
  obtain ⟨x886, h887, hf⟩ := ob_some hf
  refine gg_cVI (As := [.int x884]) hC hw (X13_runScript_M l E D A h887) h888 rfl g_ml_L_358 hd_X13_runScript (Nat.le_of_ble_eq_true rfl) (Nat.le_of_ble_eq_true rfl) hl.1 rfl (Nat.le_of_ble_eq_true rfl) dL_law_3098 (fun H locs cells slots hw => ?_)
  refine lv_istore (lv' := [(7, .int x886.1), (6, .int x882.1), (0, .ref l0), (1, .ref l1), (2, .ref l2), (3, .ref l3), (4, .ref l4), (5, .int l5)]) hx hb dL_law_3101 hl (by decide) rfl (fun ls hl => ?_)
  refine lv_aload_n hx hb dL_law_3103 rfl (lv_at hl 4 rfl) ?_
  obtain ⟨_, h891, hf⟩ := ob_some hf
  obtain ⟨x889, h890, hf⟩ := ob_some hf
  refine gg_cVI (As := []) hC hw (X13_thrown_M l E D A h890) h891 rfl g_ml_L_174 hd_X13_thrown (Nat.le_of_ble_eq_true rfl) (Nat.le_of_ble_eq_true rfl) hl.1 rfl (Nat.le_of_ble_eq_true rfl) dL_law_3104 (fun H locs cells slots hw => ?_)
  refine lv_iload hx hb dL_law_3107 (lv_at hl 1 rfl) ?_
  refine lv_icmp_eq (tgt := 3114) hx hb dL_law_3109 (by decide) (fun c896 => ?_) (fun c896 => ?_)
  · replace hf := (if_pos c896).symm.trans hf
    refine lv_iload hx hb dL_law_3114 (lv_at hl 1 rfl) ?_
    refine lv_if_ne (tgt := 3131) hx hb dL_law_3116 (by decide) (fun c895 => ?_) (fun c895 => ?_)
    · replace hf := (if_neg c895).symm.trans hf
      refine lv_goto (tgt := 3358) hx hb dL_law_3131 (by decide) ?_
      exact L_law_3358_W hC hQ hst h_28 hf hw (lv_sub hl [2, 3, 4, 5, 6, 7] rfl)
    · replace hf := (if_pos c895).symm.trans hf
      refine lv_aload_n hx hb dL_law_3119 rfl (lv_at hl 5 rfl) ?_
      refine lv_iconst (v := 0) hx hb dL_law_3120 (by decide) ?_
      obtain ⟨x892, h893, hf⟩ := ob_some hf
      refine gg_aldJ hC hw h893 dL_law_3121 ?_
      refine lv_iload hx hb dL_law_3122 (lv_at hl 0 rfl) ?_
      refine lv_i2l (v := (x886.1).toInt64) hx hb dL_law_3124 rfl ?_
      refine W.lcmp hx hb dL_law_3125 ?_
      refine lv_if_eq (tgt := 3131) hx hb dL_law_3126 (by decide) (fun c894 => ?_) (fun c894 => ?_)
      · replace hf := (if_pos c894).symm.trans hf
        refine lv_goto (tgt := 3358) hx hb dL_law_3131 (by decide) ?_
        exact L_law_3358_W hC hQ hst h_28 hf hw (lv_sub hl [2, 3, 4, 5, 6, 7] rfl)
      · replace hf := (if_neg c894).symm.trans hf
        refine lv_iconst (v := 0) hx hb dL_law_3129 (by decide) ?_
        cases hf
        exact hQ _ _ _ _ _ _ dL_law_3130 gz0 hw
  · replace hf := (if_neg c896).symm.trans hf
    refine lv_iconst (v := 0) hx hb dL_law_3112 (by decide) ?_
    cases hf
    exact hQ _ _ _ _ _ _ dL_law_3113 gz0 hw

def L_law_3134 (E : gE) (r_28 : Nat → Nat → Nat → Nat → Nat → Int32 → gS → Option (Int32 × gS)) (l0 : Nat) (l1 : Nat) (l2 : Nat) (l3 : Nat) (l4 : Nat) (l5 : Int32) (σ : gS) : Option (Int32 × gS) :=
  ob (graI E 0 σ l0 (l5 + (1 : Int32))) fun x897 =>
  ob (L_writeRow_f E l1 x897 l3 σ) fun x899 =>
  ob (graI E 0 x899.2 l0 (l5 + (1 : Int32))) fun x901 =>
  ob (gcl x899.2 l2 11) fun _ =>
  ob (X13_writeRow_f E l2 x901 x899.2) fun x903 =>
  ob (gcl x903.2 l2 11) fun _ =>
  ob (X13_thrown_f E x903.2 l2) fun x906 =>
  if x906 = x899.1 then
    if x899.1 = 0 then
      ob (graJ E x903.2 l3 (0 : Int32)) fun x909 =>
      if (lg_cmp x909 ((x903.1).toInt64)) = 0 then
        L_law_3358 E r_28 l0 l1 l2 l3 l4 l5 x903.2
      else
        some ((0 : Int32), x903.2)
    else
      L_law_3358 E r_28 l0 l1 l2 l3 l4 l5 x903.2
  else
    some ((0 : Int32), x903.2)
set_option maxHeartbeats 4000000 in
set_option maxRecDepth 100000 in
theorem L_law_3134_W {σ : gS} {l0 : Nat} {l1 : Nat} {l2 : Nat} {l3 : Nat} {l4 : Nat} {l5 : Int32} {res : (Int32 × gS)} {ls : Array Slot} (hC : gC E D A p R s m args meth c cL_law 10 RL nm 11 259) (hQ : gQI E D A p l e R s m args below meth c Q cL_law FieldType.boolean res) (hst : l.stackTraces = false) {r_28 : Nat → Nat → Nat → Nat → Nat → Int32 → gS → Option (Int32 × gS)} (h_28 : ∀ {l0 : Nat} {l1 : Nat} {l2 : Nat} {l3 : Nat} {l4 : Nat} {l5 : Int32} {σ : gS} {H : Heap} {locs : List Loc} {cells slots : Nat} {ls : Array Slot}, r_28 l0 l1 l2 l3 l4 l5 σ = some res → gW E D A s σ H locs → lv_has ls 10 [(0, .ref l0), (1, .ref l1), (2, .ref l2), (3, .ref l3), (4, .ref l4), (5, .int l5)] → W p l e R s m args below meth c H locs cells slots Q (F0 m 28 ls [])) (hf : L_law_3134 E r_28 l0 l1 l2 l3 l4 l5 σ = some res) (hw : gW E D A s σ H locs) (hl : lv_has ls 10 [(0, .ref l0), (1, .ref l1), (2, .ref l2), (3, .ref l3), (4, .ref l4), (5, .int l5)]) : W p l e R s m args below meth c H locs cells slots Q (F0 m 3134 ls []) := by
  have hC0 := hC
  obtain ⟨hx, hb, hml, hown, hts, -⟩ := hC0
  unfold L_law_3134 at hf
  refine lv_aload_n hx hb dL_law_3134 rfl (lv_at hl 1 rfl) ?_
  refine lv_aload_n hx hb dL_law_3135 rfl (lv_at hl 0 rfl) ?_
  refine lv_iload hx hb dL_law_3136 (lv_at hl 5 rfl) ?_
  refine lv_iconst (v := 1) hx hb dL_law_3138 (by decide) ?_
  refine lv_iadd hx hb dL_law_3139 ?_
  obtain ⟨x897, h898, hf⟩ := ob_some hf
  refine gg_aldI hC hw h898 dL_law_3140 ?_
  refine lv_aload_n hx hb dL_law_3141 rfl (lv_at hl 3 rfl) ?_
  obtain ⟨x899, h900, hf⟩ := ob_some hf
  refine gg_yHI (As := [.ref l1, .int x897, .ref l3]) hC hw (L_writeRow_M l hst E D A h900) g_ml_L_359 hd_L_writeRow.2 (Nat.le_of_ble_eq_true rfl) (Nat.le_of_ble_eq_true rfl) hl.1 rfl (Nat.le_of_ble_eq_true rfl) dL_law_3142 (fun _ _ he => nomatch (congrArg Prod.fst he)) (fun r9 σ9 he H locs cells slots hw => ?_)
  cases he
  refine lv_istore (lv' := [(6, .int x899.1), (0, .ref l0), (1, .ref l1), (2, .ref l2), (3, .ref l3), (4, .ref l4), (5, .int l5)]) hx hb dL_law_3145 hl (by decide) rfl (fun ls hl => ?_)
  refine lv_aload_n hx hb dL_law_3147 rfl (lv_at hl 3 rfl) ?_
  refine lv_aload_n hx hb dL_law_3148 rfl (lv_at hl 1 rfl) ?_
  refine lv_iload hx hb dL_law_3149 (lv_at hl 6 rfl) ?_
  refine lv_iconst (v := 1) hx hb dL_law_3151 (by decide) ?_
  refine lv_iadd hx hb dL_law_3152 ?_
  obtain ⟨x901, h902, hf⟩ := ob_some hf
  refine gg_aldI hC hw h902 dL_law_3153 ?_
  obtain ⟨_, h905, hf⟩ := ob_some hf
  obtain ⟨x903, h904, hf⟩ := ob_some hf
  refine gg_cVI (As := [.int x901]) hC hw (X13_writeRow_M l E D A h904) h905 rfl g_ml_L_361 hd_X13_writeRow (Nat.le_of_ble_eq_true rfl) (Nat.le_of_ble_eq_true rfl) hl.1 rfl (Nat.le_of_ble_eq_true rfl) dL_law_3154 (fun H locs cells slots hw => ?_)
  refine lv_istore (lv' := [(7, .int x903.1), (6, .int x899.1), (0, .ref l0), (1, .ref l1), (2, .ref l2), (3, .ref l3), (4, .ref l4), (5, .int l5)]) hx hb dL_law_3157 hl (by decide) rfl (fun ls hl => ?_)
  refine lv_aload_n hx hb dL_law_3159 rfl (lv_at hl 4 rfl) ?_
  obtain ⟨_, h908, hf⟩ := ob_some hf
  obtain ⟨x906, h907, hf⟩ := ob_some hf
  refine gg_cVI (As := []) hC hw (X13_thrown_M l E D A h907) h908 rfl g_ml_L_174 hd_X13_thrown (Nat.le_of_ble_eq_true rfl) (Nat.le_of_ble_eq_true rfl) hl.1 rfl (Nat.le_of_ble_eq_true rfl) dL_law_3160 (fun H locs cells slots hw => ?_)
  refine lv_iload hx hb dL_law_3163 (lv_at hl 1 rfl) ?_
  refine lv_icmp_eq (tgt := 3170) hx hb dL_law_3165 (by decide) (fun c913 => ?_) (fun c913 => ?_)
  · replace hf := (if_pos c913).symm.trans hf
    refine lv_iload hx hb dL_law_3170 (lv_at hl 1 rfl) ?_
    refine lv_if_ne (tgt := 3187) hx hb dL_law_3172 (by decide) (fun c912 => ?_) (fun c912 => ?_)
    · replace hf := (if_neg c912).symm.trans hf
      refine lv_goto (tgt := 3358) hx hb dL_law_3187 (by decide) ?_
      exact L_law_3358_W hC hQ hst h_28 hf hw (lv_sub hl [2, 3, 4, 5, 6, 7] rfl)
    · replace hf := (if_pos c912).symm.trans hf
      refine lv_aload_n hx hb dL_law_3175 rfl (lv_at hl 5 rfl) ?_
      refine lv_iconst (v := 0) hx hb dL_law_3176 (by decide) ?_
      obtain ⟨x909, h910, hf⟩ := ob_some hf
      refine gg_aldJ hC hw h910 dL_law_3177 ?_
      refine lv_iload hx hb dL_law_3178 (lv_at hl 0 rfl) ?_
      refine lv_i2l (v := (x903.1).toInt64) hx hb dL_law_3180 rfl ?_
      refine W.lcmp hx hb dL_law_3181 ?_
      refine lv_if_eq (tgt := 3187) hx hb dL_law_3182 (by decide) (fun c911 => ?_) (fun c911 => ?_)
      · replace hf := (if_pos c911).symm.trans hf
        refine lv_goto (tgt := 3358) hx hb dL_law_3187 (by decide) ?_
        exact L_law_3358_W hC hQ hst h_28 hf hw (lv_sub hl [2, 3, 4, 5, 6, 7] rfl)
      · replace hf := (if_neg c911).symm.trans hf
        refine lv_iconst (v := 0) hx hb dL_law_3185 (by decide) ?_
        cases hf
        exact hQ _ _ _ _ _ _ dL_law_3186 gz0 hw
  · replace hf := (if_neg c913).symm.trans hf
    refine lv_iconst (v := 0) hx hb dL_law_3168 (by decide) ?_
    cases hf
    exact hQ _ _ _ _ _ _ dL_law_3169 gz0 hw

def L_law_3190 (E : gE) (r_28 : Nat → Nat → Nat → Nat → Nat → Int32 → gS → Option (Int32 × gS)) (l0 : Nat) (l1 : Nat) (l2 : Nat) (l3 : Nat) (l4 : Nat) (l5 : Int32) (σ : gS) : Option (Int32 × gS) :=
  ob (graI E 0 σ l0 (l5 + (1 : Int32))) fun x914 =>
  ob (L_outputByte_f E l1 x914 l3 σ) fun x916 =>
  ob (graI E 0 x916.2 l0 (l5 + (1 : Int32))) fun x918 =>
  ob (gcl x916.2 l2 11) fun _ =>
  ob (X13_outputByte_f E l2 x918 x916.2) fun x920 =>
  ob (gcl x920.2 l2 11) fun _ =>
  ob (X13_thrown_f E x920.2 l2) fun x923 =>
  if x923 = x916.1 then
    if x916.1 = 0 then
      ob (graJ E x920.2 l3 (0 : Int32)) fun x926 =>
      if (lg_cmp x926 ((x920.1).toInt64)) = 0 then
        L_law_3358 E r_28 l0 l1 l2 l3 l4 l5 x920.2
      else
        some ((0 : Int32), x920.2)
    else
      L_law_3358 E r_28 l0 l1 l2 l3 l4 l5 x920.2
  else
    some ((0 : Int32), x920.2)
set_option maxHeartbeats 4000000 in
set_option maxRecDepth 100000 in
theorem L_law_3190_W {σ : gS} {l0 : Nat} {l1 : Nat} {l2 : Nat} {l3 : Nat} {l4 : Nat} {l5 : Int32} {res : (Int32 × gS)} {ls : Array Slot} (hC : gC E D A p R s m args meth c cL_law 10 RL nm 11 259) (hQ : gQI E D A p l e R s m args below meth c Q cL_law FieldType.boolean res) (hst : l.stackTraces = false) {r_28 : Nat → Nat → Nat → Nat → Nat → Int32 → gS → Option (Int32 × gS)} (h_28 : ∀ {l0 : Nat} {l1 : Nat} {l2 : Nat} {l3 : Nat} {l4 : Nat} {l5 : Int32} {σ : gS} {H : Heap} {locs : List Loc} {cells slots : Nat} {ls : Array Slot}, r_28 l0 l1 l2 l3 l4 l5 σ = some res → gW E D A s σ H locs → lv_has ls 10 [(0, .ref l0), (1, .ref l1), (2, .ref l2), (3, .ref l3), (4, .ref l4), (5, .int l5)] → W p l e R s m args below meth c H locs cells slots Q (F0 m 28 ls [])) (hf : L_law_3190 E r_28 l0 l1 l2 l3 l4 l5 σ = some res) (hw : gW E D A s σ H locs) (hl : lv_has ls 10 [(0, .ref l0), (1, .ref l1), (2, .ref l2), (3, .ref l3), (4, .ref l4), (5, .int l5)]) : W p l e R s m args below meth c H locs cells slots Q (F0 m 3190 ls []) := by
  have hC0 := hC
  obtain ⟨hx, hb, hml, hown, hts, -⟩ := hC0
  unfold L_law_3190 at hf
  refine lv_aload_n hx hb dL_law_3190 rfl (lv_at hl 1 rfl) ?_
  refine lv_aload_n hx hb dL_law_3191 rfl (lv_at hl 0 rfl) ?_
  refine lv_iload hx hb dL_law_3192 (lv_at hl 5 rfl) ?_
  refine lv_iconst (v := 1) hx hb dL_law_3194 (by decide) ?_
  refine lv_iadd hx hb dL_law_3195 ?_
  obtain ⟨x914, h915, hf⟩ := ob_some hf
  refine gg_aldI hC hw h915 dL_law_3196 ?_
  refine lv_aload_n hx hb dL_law_3197 rfl (lv_at hl 3 rfl) ?_
  obtain ⟨x916, h917, hf⟩ := ob_some hf
  refine gg_yHI (As := [.ref l1, .int x914, .ref l3]) hC hw (L_outputByte_M l hst E D A h917) g_ml_L_362 hd_L_outputByte.2 (Nat.le_of_ble_eq_true rfl) (Nat.le_of_ble_eq_true rfl) hl.1 rfl (Nat.le_of_ble_eq_true rfl) dL_law_3198 (fun _ _ he => nomatch (congrArg Prod.fst he)) (fun r9 σ9 he H locs cells slots hw => ?_)
  cases he
  refine lv_istore (lv' := [(6, .int x916.1), (0, .ref l0), (1, .ref l1), (2, .ref l2), (3, .ref l3), (4, .ref l4), (5, .int l5)]) hx hb dL_law_3201 hl (by decide) rfl (fun ls hl => ?_)
  refine lv_aload_n hx hb dL_law_3203 rfl (lv_at hl 3 rfl) ?_
  refine lv_aload_n hx hb dL_law_3204 rfl (lv_at hl 1 rfl) ?_
  refine lv_iload hx hb dL_law_3205 (lv_at hl 6 rfl) ?_
  refine lv_iconst (v := 1) hx hb dL_law_3207 (by decide) ?_
  refine lv_iadd hx hb dL_law_3208 ?_
  obtain ⟨x918, h919, hf⟩ := ob_some hf
  refine gg_aldI hC hw h919 dL_law_3209 ?_
  obtain ⟨_, h922, hf⟩ := ob_some hf
  obtain ⟨x920, h921, hf⟩ := ob_some hf
  refine gg_cVI (As := [.int x918]) hC hw (X13_outputByte_M l E D A h921) h922 rfl g_ml_L_364 hd_X13_outputByte (Nat.le_of_ble_eq_true rfl) (Nat.le_of_ble_eq_true rfl) hl.1 rfl (Nat.le_of_ble_eq_true rfl) dL_law_3210 (fun H locs cells slots hw => ?_)
  refine lv_istore (lv' := [(7, .int x920.1), (6, .int x916.1), (0, .ref l0), (1, .ref l1), (2, .ref l2), (3, .ref l3), (4, .ref l4), (5, .int l5)]) hx hb dL_law_3213 hl (by decide) rfl (fun ls hl => ?_)
  refine lv_aload_n hx hb dL_law_3215 rfl (lv_at hl 4 rfl) ?_
  obtain ⟨_, h925, hf⟩ := ob_some hf
  obtain ⟨x923, h924, hf⟩ := ob_some hf
  refine gg_cVI (As := []) hC hw (X13_thrown_M l E D A h924) h925 rfl g_ml_L_174 hd_X13_thrown (Nat.le_of_ble_eq_true rfl) (Nat.le_of_ble_eq_true rfl) hl.1 rfl (Nat.le_of_ble_eq_true rfl) dL_law_3216 (fun H locs cells slots hw => ?_)
  refine lv_iload hx hb dL_law_3219 (lv_at hl 1 rfl) ?_
  refine lv_icmp_eq (tgt := 3226) hx hb dL_law_3221 (by decide) (fun c930 => ?_) (fun c930 => ?_)
  · replace hf := (if_pos c930).symm.trans hf
    refine lv_iload hx hb dL_law_3226 (lv_at hl 1 rfl) ?_
    refine lv_if_ne (tgt := 3243) hx hb dL_law_3228 (by decide) (fun c929 => ?_) (fun c929 => ?_)
    · replace hf := (if_neg c929).symm.trans hf
      refine lv_goto (tgt := 3358) hx hb dL_law_3243 (by decide) ?_
      exact L_law_3358_W hC hQ hst h_28 hf hw (lv_sub hl [2, 3, 4, 5, 6, 7] rfl)
    · replace hf := (if_pos c929).symm.trans hf
      refine lv_aload_n hx hb dL_law_3231 rfl (lv_at hl 5 rfl) ?_
      refine lv_iconst (v := 0) hx hb dL_law_3232 (by decide) ?_
      obtain ⟨x926, h927, hf⟩ := ob_some hf
      refine gg_aldJ hC hw h927 dL_law_3233 ?_
      refine lv_iload hx hb dL_law_3234 (lv_at hl 0 rfl) ?_
      refine lv_i2l (v := (x920.1).toInt64) hx hb dL_law_3236 rfl ?_
      refine W.lcmp hx hb dL_law_3237 ?_
      refine lv_if_eq (tgt := 3243) hx hb dL_law_3238 (by decide) (fun c928 => ?_) (fun c928 => ?_)
      · replace hf := (if_pos c928).symm.trans hf
        refine lv_goto (tgt := 3358) hx hb dL_law_3243 (by decide) ?_
        exact L_law_3358_W hC hQ hst h_28 hf hw (lv_sub hl [2, 3, 4, 5, 6, 7] rfl)
      · replace hf := (if_neg c928).symm.trans hf
        refine lv_iconst (v := 0) hx hb dL_law_3241 (by decide) ?_
        cases hf
        exact hQ _ _ _ _ _ _ dL_law_3242 gz0 hw
  · replace hf := (if_neg c930).symm.trans hf
    refine lv_iconst (v := 0) hx hb dL_law_3224 (by decide) ?_
    cases hf
    exact hQ _ _ _ _ _ _ dL_law_3225 gz0 hw

def L_law_3246 (E : gE) (r_28 : Nat → Nat → Nat → Nat → Nat → Int32 → gS → Option (Int32 × gS)) (l0 : Nat) (l1 : Nat) (l2 : Nat) (l3 : Nat) (l4 : Nat) (l5 : Int32) (σ : gS) : Option (Int32 × gS) :=
  ob (gcl σ l1 10) fun _ =>
  ob (X12_undoableCount_f E σ l1) fun x931 =>
  ob (gcl σ l2 11) fun _ =>
  ob (X13_undoableCount_f E l2 σ) fun x934 =>
  if x931 = x934.1 then
    L_law_3358 E r_28 l0 l1 l2 l3 l4 l5 x934.2
  else
    some ((0 : Int32), x934.2)
set_option maxHeartbeats 4000000 in
set_option maxRecDepth 100000 in
theorem L_law_3246_W {σ : gS} {l0 : Nat} {l1 : Nat} {l2 : Nat} {l3 : Nat} {l4 : Nat} {l5 : Int32} {res : (Int32 × gS)} {ls : Array Slot} (hC : gC E D A p R s m args meth c cL_law 10 RL nm 11 259) (hQ : gQI E D A p l e R s m args below meth c Q cL_law FieldType.boolean res) (hst : l.stackTraces = false) {r_28 : Nat → Nat → Nat → Nat → Nat → Int32 → gS → Option (Int32 × gS)} (h_28 : ∀ {l0 : Nat} {l1 : Nat} {l2 : Nat} {l3 : Nat} {l4 : Nat} {l5 : Int32} {σ : gS} {H : Heap} {locs : List Loc} {cells slots : Nat} {ls : Array Slot}, r_28 l0 l1 l2 l3 l4 l5 σ = some res → gW E D A s σ H locs → lv_has ls 10 [(0, .ref l0), (1, .ref l1), (2, .ref l2), (3, .ref l3), (4, .ref l4), (5, .int l5)] → W p l e R s m args below meth c H locs cells slots Q (F0 m 28 ls [])) (hf : L_law_3246 E r_28 l0 l1 l2 l3 l4 l5 σ = some res) (hw : gW E D A s σ H locs) (hl : lv_has ls 10 [(0, .ref l0), (1, .ref l1), (2, .ref l2), (3, .ref l3), (4, .ref l4), (5, .int l5)]) : W p l e R s m args below meth c H locs cells slots Q (F0 m 3246 ls []) := by
  have hC0 := hC
  obtain ⟨hx, hb, hml, hown, hts, -⟩ := hC0
  unfold L_law_3246 at hf
  refine lv_aload_n hx hb dL_law_3246 rfl (lv_at hl 1 rfl) ?_
  obtain ⟨_, h933, hf⟩ := ob_some hf
  obtain ⟨x931, h932, hf⟩ := ob_some hf
  refine gg_cVI (As := []) hC hw (X12_undoableCount_M l E D A h932) h933 rfl g_ml_L_365 hd_X12_undoableCount (Nat.le_of_ble_eq_true rfl) (Nat.le_of_ble_eq_true rfl) hl.1 rfl (Nat.le_of_ble_eq_true rfl) dL_law_3247 (fun H locs cells slots hw => ?_)
  refine lv_aload_n hx hb dL_law_3250 rfl (lv_at hl 2 rfl) ?_
  obtain ⟨_, h936, hf⟩ := ob_some hf
  obtain ⟨x934, h935, hf⟩ := ob_some hf
  refine gg_cVI (As := []) hC hw (X13_undoableCount_M l E D A h935) h936 rfl g_ml_L_368 hd_X13_undoableCount (Nat.le_of_ble_eq_true rfl) (Nat.le_of_ble_eq_true rfl) hl.1 rfl (Nat.le_of_ble_eq_true rfl) dL_law_3251 (fun H locs cells slots hw => ?_)
  refine lv_icmp_eq (tgt := 3358) hx hb dL_law_3254 (by decide) (fun c937 => ?_) (fun c937 => ?_)
  · replace hf := (if_pos c937).symm.trans hf
    exact L_law_3358_W hC hQ hst h_28 hf hw (lv_sub hl [0, 1, 2, 3, 4, 5] rfl)
  · replace hf := (if_neg c937).symm.trans hf
    refine lv_iconst (v := 0) hx hb dL_law_3257 (by decide) ?_
    cases hf
    exact hQ _ _ _ _ _ _ dL_law_3258 gz0 hw

end ML1
