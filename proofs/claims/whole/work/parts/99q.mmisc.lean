/-! pure: the reference's other answers, undoing, the snapshot -/
section MM
variable {E : gE} {w : gWd} {m : Nat} {th : Int32} {Q : gQ} {fi : Nat → Int32} {G : Nat → Nat → Int32}
theorem RY.o6 (h : RY fi G th Q) {G' : Nat → Nat → Int32} (o : ∀ j, j ≠ 6 → G' j = G j) : RY fi G' th Q := by
  obtain ⟨a1, a2, a3, a4, a5, a6, a7, a8, a9, a10, a11, a12⟩ := h
  refine ⟨a1, a2, a3, a4, a5, a6, a7, by rw [o 1 (by decide)]; exact a8, fun z => by rw [o 4 (by decide)]; exact a9 z, fun i hi => by rw [o 5 (by decide)]; exact a10 i hi, fun i hi => by rw [o 9 (by decide)]; exact a11 i hi, fun i hi => by rw [o 10 (by decide)]; exact a12 i hi⟩
theorem M_runsIfSorted (hN : 100000 ≤ gN E) (h : RX E w m th Q) (hG : GS (qS Q)) {c : Nat} (hc : c < (qS Q).1) : XM E w m 0 Q (nI (grby (qS Q) c)) (X13_runsIfSorted_f E m (nI c) w.1) := by
  obtain ⟨g, q⟩ := h.q hG
  obtain ⟨w1, e1, F1, fi, G, h1, hY⟩ := h.lkY
  obtain ⟨w2, G2, e2, F2, h2, o2⟩ := h1.runsBy hN (Or.inl rfl) hY.2.2.2.2.2.2.2.1 hG hc
  refine ⟨w2, ?_, F1.trans F2, fi, G2, h2, hY.o6 o2⟩
  unfold X13_runsIfSorted_f X13_runsIfSorted
  rw [ob_e q.cl, ob_e (q.col (nI c)), if_pos (cOK_n q.C hc), ob_e q.cl, ob_e e1, if_pos rfl, ob_e h1.cl, ob_e e2]
theorem M_runsIfSortedF (h : RX E w m th Q) (hG : GS (qS Q)) {a : Int32} (ha : ¬ cOK (qS Q) a) : XM E w m 1 Q 0 (X13_runsIfSorted_f E m a w.1) := by
  obtain ⟨g, q⟩ := h.q hG
  obtain ⟨w1, e1, F1, h1⟩ := h.lkN
  refine ⟨w1, ?_, F1, h1⟩
  unfold X13_runsIfSorted_f X13_runsIfSorted
  rw [ob_e q.cl, ob_e (q.col a), if_neg ha, ob_e q.cl, ob_e e1, if_neg i10]
theorem M_bestSortColumn (hN : 100000 ≤ gN E) (h : RX E w m th Q) (hG : GS (qS Q)) : XM E w m 0 Q (nI (gbsc (qS Q) (qS Q).1)) (X13_bestSortColumn_f E m w.1) := by
  obtain ⟨w1, e1, F1, fi, G, h1, hY⟩ := h.t 0
  obtain ⟨w2, G2, e2, F2, h2, o2⟩ := h1.bestC hN (Or.inl rfl) hY.2.2.2.2.2.2.2.1 hG
  refine ⟨w2, ?_, F1.trans F2, fi, G2, h2, hY.o6 o2⟩
  unfold X13_bestSortColumn_f X13_bestSortColumn
  rw [ob_e e1]
  exact e2
theorem M_bitWidthWith (hN : 100000 ≤ gN E) (h : RX E w m th Q) (hG : GS (qS Q)) {c : Nat} {v : Int32} (hc : c < (qS Q).1) (hv : vIn v) : XM E w m 0 Q (nI (gwid (dsz (tD (qS Q) c) + (if dmem (tD (qS Q) c) v = true then 0 else 1)))) (X13_bitWidthWith_f E m (nI c) v w.1) := by
  obtain ⟨g, q⟩ := h.q hG
  obtain ⟨w1, e1, F1, h1⟩ := h.lk2 1 1
  have ht : th2 1 1 = 0 := by decide
  rw [ht] at e1 h1
  obtain ⟨g1, q1⟩ := h1.q hG
  have hd := dsz_le (tD (qS Q) c)
  refine ⟨w1, ?_, F1, h1⟩
  unfold X13_bitWidthWith_f X13_bitWidthWith X13_bitWidthWith_37
  rw [ob_e q.cl, ob_e (q.col _), if_pos (cOK_n q.C hc), ob_e (val_y hv), ob_e q.cl, ob_e e1, if_pos rfl, if_pos rfl, ob_e q1.cl, ob_e (q1.size hN hc), ob_e q1.cl, ob_e (q1.has hc v)]
  cases hb : dmem (tD (qS Q) c) v with
  | true => rw [if_pos rfl, if_neg i10, if_pos rfl, i_p0, ob_e (wide_f hN (by omega)), Nat.add_zero (dsz (tD (qS Q) c))]
  | false => rw [if_neg (by decide : ¬ false = true), if_pos rfl, if_neg (by decide : ¬ false = true), nI_1, ob_e (wide_f hN (by omega))]
theorem M_bitWidthWithF (h : RX E w m th Q) (hG : GS (qS Q)) {a v : Int32} (ha : ¬ cOK (qS Q) a) : XM E w m 1 Q 0 (X13_bitWidthWith_f E m a v w.1) := by
  obtain ⟨g, q⟩ := h.q hG
  obtain ⟨w1, e1, F1, h1⟩ := h.lk2 0 (if -9999 ≤ v.toInt ∧ v.toInt ≤ 9999 then 1 else 0)
  have ht : th2 0 (if -9999 ≤ v.toInt ∧ v.toInt ≤ 9999 then 1 else 0) = 1 := if_pos rfl
  rw [ht, if_neg i10] at e1
  rw [ht] at h1
  refine ⟨w1, ?_, F1, h1⟩
  unfold X13_bitWidthWith_f X13_bitWidthWith
  rw [ob_e q.cl, ob_e (q.col _), if_neg ha, ob_e (val_f v), ob_e q.cl, ob_e e1, if_neg i10]
theorem M_bitWidthWithG (h : RX E w m th Q) (hG : GS (qS Q)) {c : Nat} {v : Int32} (hc : c < (qS Q).1) (hv : ¬ vIn v) : XM E w m 2 Q 0 (X13_bitWidthWith_f E m (nI c) v w.1) := by
  obtain ⟨g, q⟩ := h.q hG
  obtain ⟨w1, e1, F1, h1⟩ := h.lk2 1 0
  have ht : th2 1 0 = 2 := by decide
  rw [ht, if_neg (by decide)] at e1
  rw [ht] at h1
  refine ⟨w1, ?_, F1, h1⟩
  unfold X13_bitWidthWith_f X13_bitWidthWith
  rw [ob_e q.cl, ob_e (q.col _), if_pos (cOK_n q.C hc), ob_e (val_n hv), ob_e q.cl, ob_e e1, if_neg i10]
theorem M_smallestSelected (hN : 100000 ≤ gN E) (h : RX E w m th Q) (hG : GS (qS Q)) {c p : Nat} (hc : c < (qS Q).1) (h0 : ¬ fb_ct (ssel (qS Q)) (tR (qS Q)) = 0) (hp : p < 19999) (p1 : gsel (qS Q) c p = true) (p2 : fb_ct (gsel (qS Q) c) p = 0) : XM E w m 0 Q (xp p) (X13_smallestSelected_f E m (nI c) w.1) := by
  obtain ⟨g, q⟩ := h.q hG
  obtain ⟨w1, e1, F1, h1⟩ := h.lk2 1 1
  have ht : th2 1 1 = 0 := by decide
  rw [ht] at e1 h1
  obtain ⟨g1, q1⟩ := h1.q hG
  have hR := q.R
  have hle := fb_ct_le (ssel (qS Q)) (tR (qS Q))
  refine ⟨w1, ?_, F1, h1⟩
  unfold X13_smallestSelected_f X13_smallestSelected X13_smallestSelected_18
  rw [ob_e q.cl, ob_e (q.col _), if_pos (cOK_n q.C hc), ob_e q.cl, ob_e (q.nsel hN), if_neg (nI_nle (by omega) (by omega)), ob_e q.cl, ob_e e1, if_pos rfl, if_pos rfl, ob_e q1.cl, ob_e (q1.least hN hc hp p1 p2)]
theorem M_greatestSelected (hN : 100000 ≤ gN E) (h : RX E w m th Q) (hG : GS (qS Q)) {c p : Nat} (hc : c < (qS Q).1) (h0 : ¬ fb_ct (ssel (qS Q)) (tR (qS Q)) = 0) (hp : p < 19999) (p1 : gsel (qS Q) c p = true) (p2 : fb_ct (gsel (qS Q) c) p = dsz (gsel (qS Q) c) - 1) : XM E w m 0 Q (xp p) (X13_greatestSelected_f E m (nI c) w.1) := by
  obtain ⟨g, q⟩ := h.q hG
  obtain ⟨w1, e1, F1, h1⟩ := h.lk2 1 1
  have ht : th2 1 1 = 0 := by decide
  rw [ht] at e1 h1
  obtain ⟨g1, q1⟩ := h1.q hG
  have hR := q.R
  have hle := fb_ct_le (ssel (qS Q)) (tR (qS Q))
  refine ⟨w1, ?_, F1, h1⟩
  unfold X13_greatestSelected_f X13_greatestSelected X13_greatestSelected_18
  rw [ob_e q.cl, ob_e (q.col _), if_pos (cOK_n q.C hc), ob_e q.cl, ob_e (q.nsel hN), if_neg (nI_nle (by omega) (by omega)), ob_e q.cl, ob_e e1, if_pos rfl, if_pos rfl, ob_e q1.cl, ob_e (q1.most hN hc hp p1 p2)]
theorem M_smallestSelectedF (hN : 100000 ≤ gN E) (h : RX E w m th Q) (hG : GS (qS Q)) {a : Int32} (ha : ¬ cOK (qS Q) a) : XM E w m 1 Q 0 (X13_smallestSelected_f E m a w.1) := by
  obtain ⟨g, q⟩ := h.q hG
  have hs : ∀ b : Int32, ∃ w1, X13_lacksBoth_f E m 0 b w.1 = some (1, w1.1) ∧ FS E J30 w w1 ∧ RX E w1 m 1 Q := fun b => by
    obtain ⟨w1, e1, F1, h1⟩ := h.lk2 0 b
    have ht : th2 0 b = 1 := if_pos rfl
    rw [ht, if_neg i10] at e1
    rw [ht] at h1
    exact ⟨w1, e1, F1, h1⟩
  unfold X13_smallestSelected_f X13_smallestSelected X13_smallestSelected_18
  rw [ob_e q.cl, ob_e (q.col _), if_neg ha, ob_e q.cl, ob_e (q.nsel hN)]
  by_cases z : nI (fb_ct (ssel (qS Q)) (tR (qS Q))) ≤ 0
  · obtain ⟨w1, e1, F1, h1⟩ := hs 0
    rw [if_pos z, ob_e q.cl, ob_e e1, if_neg i10]
    exact ⟨w1, rfl, F1, h1⟩
  · obtain ⟨w1, e1, F1, h1⟩ := hs 1
    rw [if_neg z, ob_e q.cl, ob_e e1, if_neg i10]
    exact ⟨w1, rfl, F1, h1⟩
theorem M_greatestSelectedF (hN : 100000 ≤ gN E) (h : RX E w m th Q) (hG : GS (qS Q)) {a : Int32} (ha : ¬ cOK (qS Q) a) : XM E w m 1 Q 0 (X13_greatestSelected_f E m a w.1) := by
  obtain ⟨g, q⟩ := h.q hG
  have hs : ∀ b : Int32, ∃ w1, X13_lacksBoth_f E m 0 b w.1 = some (1, w1.1) ∧ FS E J30 w w1 ∧ RX E w1 m 1 Q := fun b => by
    obtain ⟨w1, e1, F1, h1⟩ := h.lk2 0 b
    have ht : th2 0 b = 1 := if_pos rfl
    rw [ht, if_neg i10] at e1
    rw [ht] at h1
    exact ⟨w1, e1, F1, h1⟩
  unfold X13_greatestSelected_f X13_greatestSelected X13_greatestSelected_18
  rw [ob_e q.cl, ob_e (q.col _), if_neg ha, ob_e q.cl, ob_e (q.nsel hN)]
  by_cases z : nI (fb_ct (ssel (qS Q)) (tR (qS Q))) ≤ 0
  · obtain ⟨w1, e1, F1, h1⟩ := hs 0
    rw [if_pos z, ob_e q.cl, ob_e e1, if_neg i10]
    exact ⟨w1, rfl, F1, h1⟩
  · obtain ⟨w1, e1, F1, h1⟩ := hs 1
    rw [if_neg z, ob_e q.cl, ob_e e1, if_neg i10]
    exact ⟨w1, rfl, F1, h1⟩
theorem M_smallestSelectedE (hN : 100000 ≤ gN E) (h : RX E w m th Q) (hG : GS (qS Q)) {c : Nat} (hc : c < (qS Q).1) (h0 : fb_ct (ssel (qS Q)) (tR (qS Q)) = 0) : XM E w m 2 Q 0 (X13_smallestSelected_f E m (nI c) w.1) := by
  obtain ⟨g, q⟩ := h.q hG
  obtain ⟨w1, e1, F1, h1⟩ := h.lk2 1 0
  have ht : th2 1 0 = 2 := by decide
  rw [ht, if_neg (by decide)] at e1
  rw [ht] at h1
  refine ⟨w1, ?_, F1, h1⟩
  unfold X13_smallestSelected_f X13_smallestSelected X13_smallestSelected_18
  rw [ob_e q.cl, ob_e (q.col _), if_pos (cOK_n q.C hc), ob_e q.cl, ob_e (q.nsel hN), h0, if_pos (by decide), ob_e q.cl, ob_e e1, if_neg i10]
theorem M_greatestSelectedE (hN : 100000 ≤ gN E) (h : RX E w m th Q) (hG : GS (qS Q)) {c : Nat} (hc : c < (qS Q).1) (h0 : fb_ct (ssel (qS Q)) (tR (qS Q)) = 0) : XM E w m 2 Q 0 (X13_greatestSelected_f E m (nI c) w.1) := by
  obtain ⟨g, q⟩ := h.q hG
  obtain ⟨w1, e1, F1, h1⟩ := h.lk2 1 0
  have ht : th2 1 0 = 2 := by decide
  rw [ht, if_neg (by decide)] at e1
  rw [ht] at h1
  refine ⟨w1, ?_, F1, h1⟩
  unfold X13_greatestSelected_f X13_greatestSelected X13_greatestSelected_18
  rw [ob_e q.cl, ob_e (q.col _), if_pos (cOK_n q.C hc), ob_e q.cl, ob_e (q.nsel hN), h0, if_pos (by decide), ob_e q.cl, ob_e e1, if_neg i10]
theorem M_packedWord (hN : 100000 ≤ gN E) (h : RX E w m th Q) (hG : GS (qS Q)) {c k : Nat} (hc : c < (qS Q).1) (hk : k < (tR (qS Q) * gwid (dsz (tD (qS Q) c)) + 63) / 64) {W : Int64} (hW : ∀ b, b < 64 → bL W b = pb (gwid (dsz (tD (qS Q) c))) (gcd (tD (qS Q) c) (tV (qS Q) c) (tR (qS Q))) (tR (qS Q)) (64 * k + b)) : XM E w m 0 Q W (X13_packedWord_f E m (nI c) (nI k) w.1) := by
  obtain ⟨g, q⟩ := h.q hG
  obtain ⟨w1, e1, F1, h1⟩ := h.lkY
  obtain ⟨g1, q1⟩ := h1.q hG
  have h15 := (wid15 (tD (qS Q) c)).1
  have hm : tR (qS Q) * gwid (dsz (tD (qS Q) c)) ≤ 60 * 15 := Nat.mul_le_mul q.R h15
  obtain ⟨W', e2, hW'⟩ := q1.pack hN hc (q := k) (by omega)
  have e : W' = W := bL_ext fun b hb => (hW' b hb).trans (hW b hb).symm
  rw [e] at e2
  refine ⟨w1, ?_, F1, h1⟩
  unfold X13_packedWord_f X13_packedWord X13_packedWord_28
  rw [ob_e q.cl, ob_e (q.col _), if_pos (cOK_n q.C hc), if_neg i10, ob_e q.cl, ob_e (q.words hN hc), ob_e (in_n _ (by omega)), nI_toInt (show k < 2 ^ 31 by omega), if_pos (show 0 ≤ (k : Int) ∧ (k : Int) < (((tR (qS Q) * gwid (dsz (tD (qS Q) c)) + 63) / 64 : Nat) : Int) by omega), if_neg i10, ob_e q.cl, ob_e e1, if_pos rfl, ob_e q1.cl, ob_e e2]
theorem M_packedWordF (hN : 100000 ≤ gN E) (h : RX E w m th Q) (hG : GS (qS Q)) {a b : Int32} (ha : ¬ (cOK (qS Q) a ∧ 0 ≤ b.toInt ∧ b.toInt < ((tR (qS Q) * gwid (dsz (tD (qS Q) a.toInt.toNat)) + 63) / 64 : Nat))) : XM E w m 1 Q 0 (X13_packedWord_f E m a b w.1) := by
  obtain ⟨g, q⟩ := h.q hG
  obtain ⟨w1, e1, F1, h1⟩ := h.lkN
  refine ⟨w1, ?_, F1, h1⟩
  unfold X13_packedWord_f X13_packedWord X13_packedWord_27 X13_packedWord_28
  by_cases h0 : cOK (qS Q) a
  · obtain ⟨c, hc, rfl, h31⟩ := ixI h0
    have h15 := (wid15 (tD (qS Q) c)).1
    have hm : tR (qS Q) * gwid (dsz (tD (qS Q) c)) ≤ 60 * 15 := Nat.mul_le_mul q.R h15
    have et : (nI c).toInt.toNat = c := by rw [nI_toInt h31]; rfl
    rw [et] at ha
    rw [ob_e q.cl, ob_e (q.col _), if_pos h0, if_neg i10, ob_e q.cl, ob_e (q.words hN hc), ob_e (in_n _ (by omega)), if_neg (fun z => ha ⟨h0, z⟩), if_pos rfl, ob_e q.cl, ob_e e1, if_neg i10]
  · rw [ob_e q.cl, ob_e (q.col _), if_neg h0, if_pos rfl, ob_e q.cl, ob_e e1, if_neg i10]
theorem M_outputByte (h : RX E w m th Q) (h36 : qL Q ≤ 36) {i : Nat} (hi : i < qL Q) : XM E w m 0 Q (qO Q i) (X13_outputByte_f E m (nI i) w.1) := by
  have h15 : gfI w.1 m 11 15 = some (nI (qL Q)) := by
    obtain ⟨fi, G, a1, h2⟩ := h
    rw [← h2.2.2.2.2.1]
    exact gfI_o (x := fi 15) a1.1.2.2 rfl
  obtain ⟨w1, e1, F1, h1⟩ := h.lkY
  refine ⟨w1, ?_, F1, h1⟩
  obtain ⟨fi, G, a1, h2⟩ := h1
  have rd := a1.ld 9 (i := i) (by omega) (by omega) (Nat.lt_of_lt_of_le (show i < 60 by omega) (by decide))
  rw [h2.2.2.2.2.2.2.2.2.2.2.1 i hi] at rd
  unfold X13_outputByte_f X13_outputByte
  rw [ob_e h15, ob_e (in_n _ (by omega)), nI_toInt (by omega), if_pos (by omega), ob_e h.cl, ob_e e1, if_pos rfl, ob_e a1.f14, ob_e rd]
theorem M_outputByteF (h : RX E w m th Q) (h36 : qL Q ≤ 36) {a : Int32} (ha : ¬ (0 ≤ a.toInt ∧ a.toInt < qL Q)) : XM E w m 1 Q 0 (X13_outputByte_f E m a w.1) := by
  have h15 : gfI w.1 m 11 15 = some (nI (qL Q)) := by
    obtain ⟨fi, G, a1, h2⟩ := h
    rw [← h2.2.2.2.2.1]
    exact gfI_o (x := fi 15) a1.1.2.2 rfl
  obtain ⟨w1, e1, F1, h1⟩ := h.lkN
  refine ⟨w1, ?_, F1, h1⟩
  unfold X13_outputByte_f X13_outputByte
  rw [ob_e h15, ob_e (in_n _ (by omega)), if_neg ha, ob_e h.cl, ob_e e1, if_neg i10]
theorem cpy0 {f g : Nat → Int32} {sp j : Nat} (hj : j < 4137) : va_cpy f g sp 0 4137 j = f (sp + j) := by
  have e := cpy_in f g (sp := sp) (dp := 0) hj
  rw [Nat.zero_add] at e
  exact e
theorem M_undo (h : RX E w m th Q) (hQ : GQ Q) (hz : 0 < qZ Q) : XM E w m 0 (cpT (qR Q ((qX Q + 7) % 8)) (qS Q), qU Q, qH Q, ((qX Q + 7) % 8, qZ Q - 1, qR Q), Q.2.2.2.2) (nI (qZ Q - 1)) (X13_undo_f E m w.1) := by
  obtain ⟨c1, c2, c3, c4, c5, c6, c7, c8, c9⟩ := hQ
  have r9 : ∀ w1 : gWd, ∀ t, RX E w1 m t Q → gfI w1.1 m 11 9 = some (nI (qZ Q)) := fun w1 t h => by
    obtain ⟨fi, G, a1, h2⟩ := h
    rw [← h2.1]
    exact gfI_o (x := fi 9) a1.1.2.2 rfl
  have e9 := r9 w th h
  obtain ⟨w1, e1, F1, h1⟩ := h.lkY
  have e9' := r9 w1 0 h1
  obtain ⟨fi, G, b1, a1, a2, a3, a4, a5, a6, a7, a8, a9, a10, a11, a12⟩ := h1
  obtain ⟨w2, e2, F2, b2⟩ := b1.put 9 (nI (qZ Q - 1)) rfl (by decide)
  obtain ⟨w3, e3, F3, b3⟩ := b2.cpy (a := 5) (b := 1) (i := qZ Q - 1) (j := 0) (by omega) (by omega) (by omega) (by omega) (by rw [mz5]; omega) (by decide)
  have e3 : X13_copy_f E (m + 5) (nI (qZ Q - 1)) (m + 1) (0 : Int32) w2.1 = some w3.1 := e3
  have s9 : gfI w2.1 m 11 9 = some (nI (qZ Q - 1)) := gfI_o (x := upd fi 9 (nI (qZ Q - 1)) 9) b2.1.2.2 rfl
  have s9' : gfI w3.1 m 11 9 = some (nI (qZ Q - 1)) := gfI_o (x := upd fi 9 (nI (qZ Q - 1)) 9) b3.1.2.2 rfl
  have hix : (qX Q + 8 - qZ Q + (qZ Q - 1)) % 8 = (qX Q + 7) % 8 := by omega
  have hs := a10 (qZ Q - 1) (by omega)
  have hg := c3 (qZ Q - 1) (by omega)
  rw [hix] at hs hg
  refine ⟨w3, ?_, (F1.trans F2).trans F3, _, _, b3, rfl, a2, a3, a4, a5, a6, a7, ?_, fun z => ?_, fun i hi => ?_, fun i hi => ?_, fun i hi => ?_⟩
  · unfold X13_undo_f X13_undo X13_undo_13
    rw [ob_e e9, if_neg (nI_nle (by omega) (by omega)), ob_e h.cl, ob_e e1, if_pos rfl, ob_e e9', nI_sub1 (by omega), ob_e e2, ob_e b2.f4, ob_e s9, ob_e b2.f0, ob_e e3, ob_e s9']
  · rw [updG_s]
    refine (hs.cong hg fun j hj => ?_).cp hg _
    rw [show 4137 * 0 = 0 from rfl, cpy0 hj]
  · rw [updG_o _ _ (by decide)]
    exact a9 z
  · have hi : i < qZ Q - 1 := hi
    rw [updG_o _ _ (by decide)]
    show MT _ (qR Q (((qX Q + 7) % 8 + 8 - (qZ Q - 1) + i) % 8))
    rw [show ((qX Q + 7) % 8 + 8 - (qZ Q - 1) + i) % 8 = (qX Q + 8 - qZ Q + i) % 8 by omega]
    exact a10 i (by omega)
  · rw [updG_o _ _ (by decide)]
    exact a11 i hi
  · rw [updG_o _ _ (by decide)]
    exact a12 i hi
theorem M_undoF (h : RX E w m th Q) (hz : qZ Q = 0) : XM E w m 1 Q 0 (X13_undo_f E m w.1) := by
  have e9 : gfI w.1 m 11 9 = some 0 := by
    obtain ⟨fi, G, a1, h2⟩ := h
    have e : fi 9 = 0 := by rw [h2.1, hz]; rfl
    rw [← e]
    exact gfI_o (x := fi 9) a1.1.2.2 rfl
  obtain ⟨w1, e1, F1, h1⟩ := h.lkN
  refine ⟨w1, ?_, F1, h1⟩
  unfold X13_undo_f X13_undo X13_undo_13
  rw [ob_e e9, if_pos (by decide), ob_e h.cl, ob_e e1, if_neg i10]
theorem M_saveSnapshot (h : RX E w m th Q) (hQ : GQ Q) : ∃ w', X13_saveSnapshot_f E m w.1 = some w'.1 ∧ FS E J30 w w' ∧ RX E w' m 0 (qS Q, cpT (qS Q) (qU Q), true, Q.2.2.2) := by
  obtain ⟨w1, e1, F1, fi, G, b1, a1, a2, a3, a4, a5, a6, a7, a8, a9, a10, a11, a12⟩ := h.t 0
  obtain ⟨w2, e2, F2, b2⟩ := b1.cpy (a := 1) (b := 4) (i := 0) (j := 0) (by omega) (by omega) (by omega) (by omega) (by decide) (by decide)
  have e2 : X13_copy_f E (m + 1) (0 : Int32) (m + 4) (0 : Int32) w1.1 = some w2.1 := e2
  obtain ⟨w3, e3, F3, b3⟩ := b2.put 13 1 rfl (by decide)
  refine ⟨w3, ?_, (F1.trans F2).trans F3, _, _, b3, a1, a2, a3, rfl, a5, a6, a7, ?_, fun z => ?_, fun i hi => ?_, fun i hi => ?_, fun i hi => ?_⟩
  · unfold X13_saveSnapshot_f X13_saveSnapshot
    rw [ob_e e1, ob_e b1.f0, ob_e b1.f3, ob_e e2, ob_e gz1', ob_e e3]
  · rw [updG_o _ _ (by decide)]
    exact a8
  · rw [updG_s]
    refine (a8.cong hQ.1 fun j hj => ?_).cp hQ.1 _
    rw [show 4137 * 0 = 0 from rfl, cpy0 hj, Nat.zero_add]
  · rw [updG_o _ _ (by decide)]
    exact a10 i hi
  · rw [updG_o _ _ (by decide)]
    exact a11 i hi
  · rw [updG_o _ _ (by decide)]
    exact a12 i hi
theorem M_restoreSnapshot (h : RX E w m th Q) (hQ : GQ Q) (hh : qH Q = true) : XM E w m 0 (cpT (qU Q) (qS Q), qU Q, qH Q, (qX Q, 0, qR Q), Q.2.2.2.2) (nI (tR (qU Q))) (X13_restoreSnapshot_f E m w.1) := by
  have hU := hQ.2.1 hh
  have e13 : gfI w.1 m 11 13 = some 1 := by
    obtain ⟨fi, G, a1, h2⟩ := h
    have e : fi 13 = 1 := by rw [h2.2.2.2.1, hh]; rfl
    rw [← e]
    exact gfI_o (x := fi 13) a1.1.2.2 rfl
  obtain ⟨w1, e1, F1, fi, G, b1, a1, a2, a3, a4, a5, a6, a7, a8, a9, a10, a11, a12⟩ := h.lkY
  obtain ⟨w2, e2, F2, b2⟩ := b1.cpy (a := 4) (b := 1) (i := 0) (j := 0) (by omega) (by omega) (by omega) (by omega) (by decide) (by decide)
  have e2 : X13_copy_f E (m + 4) (0 : Int32) (m + 1) (0 : Int32) w1.1 = some w2.1 := e2
  obtain ⟨w3, e3, F3, b3⟩ := b2.put 9 0 rfl (by decide)
  have hT : MT (updG G 1 (va_cpy (G 4) (G 1) (4137 * 0) (4137 * 0) 4137) 1) (cpT (qU Q) (qS Q)) := by
    rw [updG_s]
    refine ((a9 hh).cong hU fun j hj => ?_).cp hU _
    rw [show 4137 * 0 = 0 from rfl, cpy0 hj, Nat.zero_add]
  have q3 := b3.q (Or.inl rfl) hT (hU.cp _).1
  have n1 := q3.n1
  rw [(hU.cp (qS Q)).2] at n1
  refine ⟨w3, ?_, (F1.trans F2).trans F3, _, _, b3, rfl, a2, a3, a4, a5, a6, a7, hT, fun z => ?_, fun i hi => ?_, fun i hi => ?_, fun i hi => ?_⟩
  · unfold X13_restoreSnapshot_f X13_restoreSnapshot
    rw [ob_e e13, ob_e h.cl, ob_e e1, if_pos rfl, ob_e b1.f3, ob_e b1.f0, ob_e e2, ob_e e3, ob_e q3.r, ob_e n1]
  · rw [updG_o _ _ (by decide)]
    exact a9 z
  · have hi : i < 0 := hi
    omega
  · rw [updG_o _ _ (by decide)]
    exact a11 i hi
  · rw [updG_o _ _ (by decide)]
    exact a12 i hi
theorem M_restoreSnapshotF (h : RX E w m th Q) (hh : qH Q = false) : XM E w m 1 Q 0 (X13_restoreSnapshot_f E m w.1) := by
  have e13 : gfI w.1 m 11 13 = some 0 := by
    obtain ⟨fi, G, a1, h2⟩ := h
    have e : fi 13 = 0 := by rw [h2.2.2.2.1, hh]; rfl
    rw [← e]
    exact gfI_o (x := fi 13) a1.1.2.2 rfl
  obtain ⟨w1, e1, F1, h1⟩ := h.lkN
  refine ⟨w1, ?_, F1, h1⟩
  unfold X13_restoreSnapshot_f X13_restoreSnapshot
  rw [ob_e e13, ob_e h.cl, ob_e e1, if_neg i10]
end MM
