/-! pure: the reference's recorded changes -/
theorem MT.cp {g : Nat → Int32} {U : gT} (h : MT g U) (hG : GS U) (S : gT) : MT g (cpT U S) := by
  have hk : ∀ c, c < U.1 → (cpT U S).2.1 c = U.2.1 c := fun c hc => if_pos hc
  refine h.congS rfl (hG.cp S).2 rfl (fun c r hc hr => ?_) (fun c hc => ?_)
  · rw [tV, hk c hc]
  · rw [tD, hk c hc]
theorem val_y {E : gE} {σ : gS} {v : Int32} (hv : vIn v) : X13_isValue_f E σ v = some 1 := by
  have h : -9999 ≤ v.toInt ∧ v.toInt ≤ 9999 := hv
  rw [val_f, if_pos h]
theorem val_n {E : gE} {σ : gS} {v : Int32} (hv : ¬ vIn v) : X13_isValue_f E σ v = some 0 := by
  have h : ¬ (-9999 ≤ v.toInt ∧ v.toInt ≤ 9999) := hv
  rw [val_f, if_neg h]
section MM
variable {E : gE} {w : gWd} {m : Nat} {th : Int32} {Q : gQ} {fi : Nat → Int32} {G : Nat → Nat → Int32}
theorem RX.keep (h : RX E w m th Q) (hG : GS (qS Q)) : ∃ w' fi G, X13_keep_f E m w.1 = some w'.1 ∧ FS E J30 w w' ∧ MX E w' m 1 fi G (qS Q) ∧ RY fi G th Q ∧ ∀ j, j < 4137 → G 3 j = G 1 j := by
  obtain ⟨fi, G, h1, h2⟩ := h
  obtain ⟨w1, e1, F1, h3⟩ := h1.keep
  obtain ⟨a1, a2, a3, a4, a5, a6, a7, a8, a9, a10, a11, a12⟩ := h2
  refine ⟨w1, fi, _, e1, F1, ⟨h3, Or.inl rfl, ?_, hG⟩, ⟨a1, a2, a3, a4, a5, a6, a7, ?_, fun z => ?_, fun i hi => ?_, fun i hi => ?_, fun i hi => ?_⟩, fun j hj => ?_⟩
  · rw [updG_o _ _ (by decide)]; exact a8
  · rw [updG_o _ _ (by decide)]; exact a8
  · rw [updG_o _ _ (by decide)]; exact a9 z
  · rw [updG_o _ _ (by decide)]; exact a10 i hi
  · rw [updG_o _ _ (by decide)]; exact a11 i hi
  · rw [updG_o _ _ (by decide)]; exact a12 i hi
  · rw [updG_s, updG_o _ _ (by decide)]
    have e := cpy_in (G 1) (G 3) (sp := 0) (dp := 0) (n := 4137) (j := j) hj
    rw [Nat.zero_add] at e
    exact e
/-- a refused change -/
theorem ends_n (h : MX E w m 1 fi G (qS Q)) (hY : RY fi G th Q) {e : Int32} (he : ¬ e = 0) : XM E w m e Q 0 (X13_ends_f E m e w.1) := by
  obtain ⟨w1, e1, F1, h1⟩ := h.1.put 10 e rfl (by decide)
  obtain ⟨a1, a2, a3⟩ := hY
  refine ⟨w1, ?_, F1, _, G, h1, a1, rfl, a3⟩
  unfold X13_ends_f X13_ends
  rw [ob_e e1, if_neg he]
/-- a change is recorded -/
theorem ends_y (hN : 100000 ≤ gN E) (hQ : GQ Q) (hY : RY fi G th Q) (hg3 : ∀ j, j < 4137 → G 3 j = G 1 j) {w : gWd} {x : Int32} {G2 : Nat → Nat → Int32} {S' : gT} (h : MX E w m 1 (upd fi 12 x) G2 S') (ho : MO 1 G G2) : XM E w m 0 (qC Q S') x (X13_ends_f E m 0 w.1) := by
  obtain ⟨c1, c2, c3, c4, c5, c6, c7, c8, c9⟩ := hQ
  obtain ⟨a1, a2, a3, a4, a5, a6, a7, a8, a9, a10, a11, a12⟩ := hY
  obtain ⟨w1, e1, F1, h1⟩ := h.1.put 10 0 rfl (by decide)
  obtain ⟨w2, G3, e2, F2, h2, o2, s2, t2⟩ := h1.record hN (z := qZ Q) a1 c7
  have o3 : ∀ j, j ≠ 1 → j ≠ 5 → j ≠ 6 → j ≠ 8 → G3 j = G j := fun j x1 x5 x6 x8 => (o2 j x5).trans (ho j x1 x6 x8)
  refine ⟨w2, ?_, F1.trans F2, _, G3, h2, rfl, rfl, a3, a4, a5, a6, a7, ?_, fun z => ?_, fun i hi => ?_, fun i hi => ?_, fun i hi => ?_⟩
  · have r12 : gfI w2.1 m 11 12 = some x := gfI_o (x := upd (upd (upd fi 12 x) 10 0) 9 (nI (min (qZ Q + 1) 8)) 12) h2.1.2.2 rfl
    unfold X13_ends_f X13_ends
    rw [ob_e e1, if_pos rfl, ob_e h1.cl, ob_e e2, ob_e r12]
  · rw [o2 1 (by decide)]
    exact h.2.2.1
  · rw [o3 4 (by decide) (by decide) (by decide) (by decide)]
    exact a9 z
  · have hi : i < min (qZ Q + 1) 8 := hi
    show MT _ (if ((qX Q + 1) % 8 + 8 - min (qZ Q + 1) 8 + i) % 8 = qX Q then cpT (qS Q) (qR Q (((qX Q + 1) % 8 + 8 - min (qZ Q + 1) 8 + i) % 8)) else qR Q (((qX Q + 1) % 8 + 8 - min (qZ Q + 1) 8 + i) % 8))
    have hG3 : G2 3 = G 3 := ho 3 (by decide) (by decide) (by decide)
    have hG5 : G2 5 = G 5 := ho 5 (by decide) (by decide) (by decide)
    by_cases h8 : qZ Q = 8
    · obtain ⟨t3, t4⟩ := t2 h8
      by_cases hl : i = 7
      · subst hl
        rw [if_pos (by omega)]
        refine ((a8.cong c1 fun j hj => ?_) : MT _ (qS Q)).cp c1 _
        rw [t4 j hj, hG3, hg3 j hj]
      · rw [if_neg (by omega), show ((qX Q + 1) % 8 + 8 - min (qZ Q + 1) 8 + i) % 8 = (qX Q + 8 - qZ Q + (i + 1)) % 8 by omega]
        refine (a10 (i + 1) (by omega)).cong (c3 (i + 1) (by omega)) fun j hj => ?_
        show G3 5 (4137 * i + j) = _
        rw [t3 i j (by omega) hj, hG5]
    · obtain ⟨t3, t4⟩ := s2 (by omega)
      by_cases hl : i = qZ Q
      · rw [if_pos (by omega)]
        refine ((a8.cong c1 fun j hj => ?_) : MT _ (qS Q)).cp c1 _
        rw [hl, t4 j hj, hG3, hg3 j hj]
      · rw [if_neg (by omega), show ((qX Q + 1) % 8 + 8 - min (qZ Q + 1) 8 + i) % 8 = (qX Q + 8 - qZ Q + i) % 8 by omega]
        refine (a10 i (by omega)).cong (c3 i (by omega)) fun j hj => ?_
        show G3 5 (4137 * i + j) = _
        rw [t3 i j (by omega) hj, hG5]
  · rw [o3 9 (by decide) (by decide) (by decide) (by decide)]
    exact a11 i hi
  · rw [o3 10 (by decide) (by decide) (by decide) (by decide)]
    exact a12 i hi
theorem M_removeRow (hN : 100000 ≤ gN E) (h : RX E w m th Q) (hQ : GQ Q) {r : Nat} (hr : r < tR (qS Q)) : XM E w m 0 (qC Q (rowT (qS Q) r)) (nI (tR (qS Q) - 1)) (X13_removeRow_f E m (nI r) w.1) := by
  have hG := hQ.1
  obtain ⟨g, q⟩ := h.q hG
  obtain ⟨w1, e1, F1, h1⟩ := h.lkY
  obtain ⟨w2, fi, G, e2, F2, h2, hY, g3⟩ := h1.keep hG
  obtain ⟨w3, G3, e3, F3, h3, o3⟩ := h2.take hN hr
  have q3 := h3.q
  have n1 := q3.n1
  rw [(hG.row hr).2] at n1
  obtain ⟨w4, e4, F4, h4⟩ := h3.1.put 12 (nI (tR (qS Q) - 1)) rfl (by decide)
  obtain ⟨w5, e5, F5, h5⟩ := ends_y hN hQ hY g3 (x := nI (tR (qS Q) - 1)) ⟨h4, h3.2⟩ o3
  refine ⟨w5, ?_, (((F1.trans F2).trans F3).trans F4).trans F5, h5⟩
  unfold X13_removeRow_f X13_removeRow
  rw [ob_e q.cl, ob_e (q.row (nI r)), if_pos (rOK_n q.R hr), ob_e q.cl, ob_e e1, if_pos rfl, ob_e h1.cl, ob_e e2, ob_e h2.1.cl, ob_e e3, ob_e q3.r, ob_e n1, ob_e e4, ob_e h4.cl, ob_e e5]
theorem M_removeRowF (h : RX E w m th Q) (hG : GS (qS Q)) {a : Int32} (ha : ¬ rOK (qS Q) a) : XM E w m 1 Q 0 (X13_removeRow_f E m a w.1) := by
  obtain ⟨g, q⟩ := h.q hG
  obtain ⟨w1, e1, F1, h1⟩ := h.lkN
  refine ⟨w1, ?_, F1, h1⟩
  unfold X13_removeRow_f X13_removeRow
  rw [ob_e q.cl, ob_e (q.row a), if_neg ha, ob_e q.cl, ob_e e1, if_neg i10]
theorem M_setValue (hN : 100000 ≤ gN E) (h : RX E w m th Q) (hQ : GQ Q) {c r : Nat} {v : Int32} (hc : c < (qS Q).1) (hr : r < tR (qS Q)) (hv : vIn v) : XM E w m 0 (qC Q (putT1 (qS Q) c r v)) (tV (qS Q) c r) (X13_setValue_f E m (nI c) (nI r) v w.1) := by
  have hG := hQ.1
  obtain ⟨g, q⟩ := h.q hG
  obtain ⟨w1, e1, F1, h1⟩ := h.lk2 1 1
  have ht : th2 1 1 = 0 := by decide
  rw [ht] at e1 h1
  obtain ⟨w2, fi, G, e2, F2, h2, hY, g3⟩ := h1.keep hG
  obtain ⟨w3, G3, e3, F3, h3, o3⟩ := h2.set hc hr hv
  obtain ⟨w5, e5, F5, h5⟩ := ends_y hN hQ hY g3 h3 o3
  refine ⟨w5, ?_, ((F1.trans F2).trans F3).trans F5, h5⟩
  unfold X13_setValue_f X13_setValue
  rw [ob_e q.cl, ob_e (q.cell _ _), if_pos ⟨cOK_n q.C hc, rOK_n q.R hr⟩, ob_e (val_y hv), ob_e q.cl, ob_e e1, if_pos rfl, if_pos rfl, ob_e h1.cl, ob_e e2, ob_e h2.1.cl, ob_e e3, ob_e h3.1.cl, ob_e e5]
theorem M_setValueF (h : RX E w m th Q) (hG : GS (qS Q)) {a b v : Int32} (ha : ¬ (cOK (qS Q) a ∧ rOK (qS Q) b)) : XM E w m 1 Q 0 (X13_setValue_f E m a b v w.1) := by
  obtain ⟨g, q⟩ := h.q hG
  obtain ⟨w1, e1, F1, h1⟩ := h.lk2 0 (if -9999 ≤ v.toInt ∧ v.toInt ≤ 9999 then 1 else 0)
  have ht : th2 0 (if -9999 ≤ v.toInt ∧ v.toInt ≤ 9999 then 1 else 0) = 1 := if_pos rfl
  rw [ht, if_neg i10] at e1
  rw [ht] at h1
  refine ⟨w1, ?_, F1, h1⟩
  unfold X13_setValue_f X13_setValue
  rw [ob_e q.cl, ob_e (q.cell _ _), if_neg ha, ob_e (val_f v), ob_e q.cl, ob_e e1, if_neg i10]
theorem M_setValueG (h : RX E w m th Q) (hG : GS (qS Q)) {c r : Nat} {v : Int32} (hc : c < (qS Q).1) (hr : r < tR (qS Q)) (hv : ¬ vIn v) : XM E w m 2 Q 0 (X13_setValue_f E m (nI c) (nI r) v w.1) := by
  obtain ⟨g, q⟩ := h.q hG
  obtain ⟨w1, e1, F1, h1⟩ := h.lk2 1 0
  have ht : th2 1 0 = 2 := by decide
  rw [ht, if_neg (by decide)] at e1
  rw [ht] at h1
  refine ⟨w1, ?_, F1, h1⟩
  unfold X13_setValue_f X13_setValue
  rw [ob_e q.cl, ob_e (q.cell _ _), if_pos ⟨cOK_n q.C hc, rOK_n q.R hr⟩, ob_e (val_n hv), ob_e q.cl, ob_e e1, if_neg i10]
theorem M_sort (hN : 100000 ≤ gN E) (h : RX E w m th Q) (hQ : GQ Q) {c : Nat} {d : Int32} (hc : c < (qS Q).1) : XM E w m 0 (qC Q (srtT (qS Q) c (decide (¬ d = 0)))) (nI (gruns (tV (srtT (qS Q) c (decide (¬ d = 0))) c) (fun k => k) (tR (qS Q)))) (X13_sort_f E m (nI c) d w.1) := by
  have hG := hQ.1
  obtain ⟨g, q⟩ := h.q hG
  obtain ⟨w1, e1, F1, h1⟩ := h.lkY
  obtain ⟨w2, fi, G, e2, F2, h2, hY, g3⟩ := h1.keep hG
  obtain ⟨w3, G3, e3, F3, h3, o3⟩ := h2.sort hN hc (decide (¬ d = 0))
  obtain ⟨w5, e5, F5, h5⟩ := ends_y hN hQ hY g3 h3 o3
  refine ⟨w5, ?_, ((F1.trans F2).trans F3).trans F5, h5⟩
  unfold X13_sort_f X13_sort X13_sort_30
  rw [ob_e q.cl, ob_e (q.col (nI c)), if_pos (cOK_n q.C hc), ob_e q.cl, ob_e e1, if_pos rfl, ob_e h1.cl, ob_e e2]
  by_cases hd : d = 0
  · rw [if_neg (by simp [hd])] at e3
    rw [if_pos hd, ob_e h2.1.cl, ob_e e3, ob_e h3.1.cl, ob_e e5]
  · rw [if_pos (by simp [hd])] at e3
    rw [if_neg hd, ob_e h2.1.cl, ob_e e3, ob_e h3.1.cl, ob_e e5]
theorem M_sortF (h : RX E w m th Q) (hG : GS (qS Q)) {a d : Int32} (ha : ¬ cOK (qS Q) a) : XM E w m 1 Q 0 (X13_sort_f E m a d w.1) := by
  obtain ⟨g, q⟩ := h.q hG
  obtain ⟨w1, e1, F1, h1⟩ := h.lkN
  refine ⟨w1, ?_, F1, h1⟩
  unfold X13_sort_f X13_sort
  rw [ob_e q.cl, ob_e (q.col a), if_neg ha, ob_e q.cl, ob_e e1, if_neg i10]
theorem M_addCondition (hN : 100000 ≤ gN E) (h : RX E w m th Q) (hQ : GQ Q) {c : Nat} {v d : Int32} (hc : c < (qS Q).1) (hv : vIn v) (hd : dOK d) (hk : tK (qS Q) < 8) : XM E w m 0 (qC Q (addT (qS Q) c v d)) (nI (fb_ct (ssel (addT (qS Q) c v d)) (tR (qS Q)))) (X13_addCondition_f E m (nI c) v d w.1) := by
  have hG := hQ.1
  obtain ⟨g, q⟩ := h.q hG
  obtain ⟨w1, e1, F1, h1⟩ := h.lk2 1 1
  have ht : th2 1 1 = 0 := by decide
  rw [ht] at e1 h1
  obtain ⟨w2, fi, G, e2, F2, h2, hY, g3⟩ := h1.keep hG
  obtain ⟨w3, G3, e3, F3, h3, o3⟩ := h2.cond hN hc hv hd hk
  obtain ⟨w5, e5, F5, h5⟩ := ends_y hN hQ hY g3 h3 o3
  refine ⟨w5, ?_, ((F1.trans F2).trans F3).trans F5, h5⟩
  unfold X13_addCondition_f X13_addCondition
  rw [ob_e q.cl, ob_e (q.col _), if_pos (cOK_n q.C hc), ob_e (val_y hv), ob_e q.cl, ob_e e1, if_pos rfl, if_pos rfl, ob_e h1.cl, ob_e e2, ob_e h2.1.cl, ob_e e3, ob_e h3.1.cl, ob_e e5]
  rfl
theorem M_addConditionF (h : RX E w m th Q) (hG : GS (qS Q)) {a v d : Int32} (ha : ¬ cOK (qS Q) a) : XM E w m 1 Q 0 (X13_addCondition_f E m a v d w.1) := by
  obtain ⟨g, q⟩ := h.q hG
  obtain ⟨w1, e1, F1, h1⟩ := h.lk2 0 (if -9999 ≤ v.toInt ∧ v.toInt ≤ 9999 then 1 else 0)
  have ht : th2 0 (if -9999 ≤ v.toInt ∧ v.toInt ≤ 9999 then 1 else 0) = 1 := if_pos rfl
  rw [ht, if_neg i10] at e1
  rw [ht] at h1
  refine ⟨w1, ?_, F1, h1⟩
  unfold X13_addCondition_f X13_addCondition
  rw [ob_e q.cl, ob_e (q.col _), if_neg ha, ob_e (val_f v), ob_e q.cl, ob_e e1, if_neg i10]
theorem M_addConditionG (h : RX E w m th Q) (hG : GS (qS Q)) {c : Nat} {v d : Int32} (hc : c < (qS Q).1) (hv : ¬ vIn v) : XM E w m 2 Q 0 (X13_addCondition_f E m (nI c) v d w.1) := by
  obtain ⟨g, q⟩ := h.q hG
  obtain ⟨w1, e1, F1, h1⟩ := h.lk2 1 0
  have ht : th2 1 0 = 2 := by decide
  rw [ht, if_neg (by decide)] at e1
  rw [ht] at h1
  refine ⟨w1, ?_, F1, h1⟩
  unfold X13_addCondition_f X13_addCondition
  rw [ob_e q.cl, ob_e (q.col _), if_pos (cOK_n q.C hc), ob_e (val_n hv), ob_e q.cl, ob_e e1, if_neg i10]
theorem M_addConditionH (h : RX E w m th Q) (hG : GS (qS Q)) {c : Nat} {v d : Int32} (hc : c < (qS Q).1) (hv : vIn v) (hk : ¬ tK (qS Q) < 8) : XM E w m 3 Q 0 (X13_addCondition_f E m (nI c) v d w.1) := by
  obtain ⟨g, q⟩ := h.q hG
  obtain ⟨w1, e1, F1, h1⟩ := h.lk2 1 1
  have ht : th2 1 1 = 0 := by decide
  rw [ht] at e1 h1
  obtain ⟨w2, fi, G, e2, F2, h2, hY, g3⟩ := h1.keep hG
  obtain ⟨w5, e5, F5, h5⟩ := ends_n h2 hY (e := 3) (by decide)
  refine ⟨w5, ?_, (F1.trans F2).trans F5, h5⟩
  unfold X13_addCondition_f X13_addCondition
  rw [ob_e q.cl, ob_e (q.col _), if_pos (cOK_n q.C hc), ob_e (val_y hv), ob_e q.cl, ob_e e1, if_pos rfl, if_pos rfl, ob_e h1.cl, ob_e e2, ob_e h2.1.cl, ob_e (h2.condF hk _ _ _), ob_e h2.1.cl, ob_e e5]
theorem M_removeCondition (hN : 100000 ≤ gN E) (h : RX E w m th Q) (hQ : GQ Q) {i : Nat} (hi : i < tK (qS Q)) : XM E w m 0 (qC Q (remT (qS Q) i)) (nI (fb_ct (ssel (remT (qS Q) i)) (tR (qS Q)))) (X13_removeCondition_f E m (nI i) w.1) := by
  obtain ⟨w2, fi, G, e2, F2, h2, hY, g3⟩ := h.keep hQ.1
  obtain ⟨w3, G3, e3, F3, h3, o3⟩ := h2.drop hN hi
  obtain ⟨w5, e5, F5, h5⟩ := ends_y hN hQ hY g3 h3 o3
  refine ⟨w5, ?_, (F2.trans F3).trans F5, h5⟩
  unfold X13_removeCondition_f X13_removeCondition
  rw [ob_e h.cl, ob_e e2, ob_e h2.1.cl, ob_e e3, ob_e h3.1.cl, ob_e e5]
  rfl
theorem M_removeConditionF (h : RX E w m th Q) (hG : GS (qS Q)) {a : Int32} (ha : ¬ kOK (qS Q) a) : XM E w m 1 Q 0 (X13_removeCondition_f E m a w.1) := by
  obtain ⟨w2, fi, G, e2, F2, h2, hY, g3⟩ := h.keep hG
  obtain ⟨w5, e5, F5, h5⟩ := ends_n h2 hY (e := 1) (by decide)
  refine ⟨w5, ?_, F2.trans F5, h5⟩
  unfold X13_removeCondition_f X13_removeCondition
  rw [ob_e h.cl, ob_e e2, ob_e h2.1.cl, ob_e (h2.dropF ha), ob_e h2.1.cl, ob_e e5]
theorem M_deleteSelected (hN : 100000 ≤ gN E) (h : RX E w m th Q) (hQ : GQ Q) : XM E w m 0 (qC Q (delT (qS Q))) (nI (tR (qS Q) - fb_ct (fun q => !ssel (qS Q) q) (tR (qS Q)))) (X13_deleteSelected_f E m w.1) := by
  obtain ⟨w2, fi, G, e2, F2, h2, hY, g3⟩ := h.keep hQ.1
  obtain ⟨w3, G3, e3, F3, h3, o3⟩ := h2.del hN
  rw [(hQ.1.del).2] at h3
  obtain ⟨w5, e5, F5, h5⟩ := ends_y hN hQ hY g3 h3 o3
  refine ⟨w5, ?_, (F2.trans F3).trans F5, h5⟩
  unfold X13_deleteSelected_f X13_deleteSelected
  rw [ob_e h.cl, ob_e e2, ob_e h2.1.cl, ob_e e3, ob_e h3.1.cl, ob_e e5]
theorem M_compact (hN : 100000 ≤ gN E) (h : RX E w m th Q) (hQ : GQ Q) {c : Nat} (hc : c < (qS Q).1) : XM E w m 0 (qC Q (cmpT (qS Q) c)) (nI (dsz (tD (qS Q) c)) - nI (dsz (dcol (tV (qS Q) c) (tR (qS Q))))) (X13_compact_f E m (nI c) w.1) := by
  have hG := hQ.1
  obtain ⟨g, q⟩ := h.q hG
  obtain ⟨w1, e1, F1, h1⟩ := h.lkY
  obtain ⟨w2, fi, G, e2, F2, h2, hY, g3⟩ := h1.keep hG
  obtain ⟨w3, G3, e3, F3, h3, o3⟩ := h2.cmp hN hc
  obtain ⟨w5, e5, F5, h5⟩ := ends_y hN hQ hY g3 h3 o3
  refine ⟨w5, ?_, ((F1.trans F2).trans F3).trans F5, h5⟩
  unfold X13_compact_f X13_compact
  rw [ob_e q.cl, ob_e (q.col (nI c)), if_pos (cOK_n q.C hc), ob_e q.cl, ob_e e1, if_pos rfl, ob_e h1.cl, ob_e e2, ob_e h2.1.cl, ob_e e3, ob_e h3.1.cl, ob_e e5]
theorem M_compactF (h : RX E w m th Q) (hG : GS (qS Q)) {a : Int32} (ha : ¬ cOK (qS Q) a) : XM E w m 1 Q 0 (X13_compact_f E m a w.1) := by
  obtain ⟨g, q⟩ := h.q hG
  obtain ⟨w1, e1, F1, h1⟩ := h.lkN
  refine ⟨w1, ?_, F1, h1⟩
  unfold X13_compact_f X13_compact
  rw [ob_e q.cl, ob_e (q.col a), if_neg ha, ob_e q.cl, ob_e e1, if_neg i10]
end MM
