/-! pure: the reference's room stands for a state; its methods that only answer -/
def RY (fi : Nat → Int32) (G : Nat → Nat → Int32) (th : Int32) (Q : gQ) : Prop :=
  fi 9 = nI (qZ Q) ∧ fi 10 = th ∧ fi 11 = qE Q ∧ fi 13 = (if qH Q = true then 1 else 0) ∧ fi 15 = nI (qL Q) ∧ fi 17 = nI (qN Q) ∧ fi 24 = qF Q ∧ MT (G 1) (qS Q) ∧ (qH Q = true → MT (G 4) (qU Q)) ∧ (∀ i, i < qZ Q → MT (fun j => G 5 (4137 * i + j)) (qR Q ((qX Q + 8 - qZ Q + i) % 8))) ∧ (∀ i, i < qL Q → G 9 i = qO Q i) ∧ ∀ i, i < qN Q → G 10 i = nI (qB Q i)
def RX (E : gE) (w : gWd) (m : Nat) (th : Int32) (Q : gQ) : Prop := ∃ fi G, MS E w m (m + 1) fi G ∧ RY fi G th Q
def XM {α : Type} (E : gE) (w : gWd) (m : Nat) (th : Int32) (Q : gQ) (v : α) (res : Option (α × gS)) : Prop := ∃ w', res = some (v, w'.1) ∧ FS E J30 w w' ∧ RX E w' m th Q
theorem cOK_n {S : gT} (hC : S.1 ≤ 6) {c : Nat} (hc : c < S.1) : cOK S (nI c) := by
  rw [cOK, nI_toInt (by omega)]
  omega
theorem rOK_n {S : gT} (hR : tR S ≤ 60) {c : Nat} (hc : c < tR S) : rOK S (nI c) := by
  rw [rOK, nI_toInt (by omega)]
  omega
theorem kOK_n {S : gT} (hK : tK S ≤ 8) {c : Nat} (hc : c < tK S) : kOK S (nI c) := by
  rw [kOK, nI_toInt (by omega)]
  omega
section MM
variable {E : gE} {w : gWd} {m : Nat} {th : Int32} {Q : gQ}
theorem RX.fr (h : RX E w m th Q) {w' : gWd} {J : Nat × Nat × Nat → Prop} (hF : FS E J w w') (hJ : ∀ κ, ¬ J (κ, 30, 0)) : RX E w' m th Q := by
  obtain ⟨fi, G, h1, h2⟩ := h
  exact ⟨fi, G, h1.fr hF hJ, h2⟩
theorem RX.cl (h : RX E w m th Q) : gcl w.1 m 11 = some () := by
  obtain ⟨fi, G, h1, h2⟩ := h
  exact h1.cl
theorem RX.q (h : RX E w m th Q) (hG : GS (qS Q)) : ∃ g, mQ E w.1 m (m + 1) g (qS Q) := by
  obtain ⟨fi, G, h1, h2⟩ := h
  exact ⟨G 1, h1.q (Or.inl rfl) h2.2.2.2.2.2.2.2.1 hG⟩
theorem RX.thr (h : RX E w m th Q) : X13_thrown_f E w.1 m = some th := by
  obtain ⟨fi, G, h1, h2⟩ := h
  unfold X13_thrown_f X13_thrown
  rw [ob_e (gfI_o (x := fi 10) h1.1.2.2 rfl), h2.2.1]
theorem RX.t (h : RX E w m th Q) (x : Int32) : ∃ w', gpf E w.1 m 11 10 (.int x) = some w'.1 ∧ FS E J30 w w' ∧ RX E w' m x Q := by
  obtain ⟨fi, G, h1, h2⟩ := h
  obtain ⟨w1, e1, F1, h1⟩ := h1.put 10 x rfl (by decide)
  exact ⟨w1, e1, F1, _, G, h1, h2.1, rfl, h2.2.2⟩
theorem RX.lkY (h : RX E w m th Q) : ∃ w', X13_lacks_f E m 1 w.1 = some (0, w'.1) ∧ FS E J30 w w' ∧ RX E w' m 0 Q := by
  obtain ⟨fi, G, h1, h2⟩ := h
  obtain ⟨w1, e1, F1, h1⟩ := h1.lacks 1
  rw [if_neg i10] at e1 h1
  exact ⟨w1, e1, F1, _, G, h1, h2.1, rfl, h2.2.2⟩
theorem RX.lkN (h : RX E w m th Q) : ∃ w', X13_lacks_f E m 0 w.1 = some (1, w'.1) ∧ FS E J30 w w' ∧ RX E w' m 1 Q := by
  obtain ⟨fi, G, h1, h2⟩ := h
  obtain ⟨w1, e1, F1, h1⟩ := h1.lacks 0
  rw [if_pos rfl] at e1 h1
  exact ⟨w1, e1, F1, _, G, h1, h2.1, rfl, h2.2.2⟩
theorem RX.lk2 (h : RX E w m th Q) (a b : Int32) : ∃ w', X13_lacksBoth_f E m a b w.1 = some (if th2 a b = 0 then 0 else 1, w'.1) ∧ FS E J30 w w' ∧ RX E w' m (th2 a b) Q := by
  obtain ⟨fi, G, h1, h2⟩ := h
  obtain ⟨w1, e1, F1, h1⟩ := h1.lacks2 a b
  exact ⟨w1, e1, F1, _, G, h1, h2.1, rfl, h2.2.2⟩
theorem M_dictionarySize (hN : 100000 ≤ gN E) (h : RX E w m th Q) (hG : GS (qS Q)) {c : Nat} (hc : c < (qS Q).1) : XM E w m 0 Q (nI (dsz (tD (qS Q) c))) (X13_dictionarySize_f E m (nI c) w.1) := by
  obtain ⟨g, q⟩ := h.q hG
  obtain ⟨w1, e1, F1, h1⟩ := h.lkY
  obtain ⟨g1, q1⟩ := h1.q hG
  refine ⟨w1, ?_, F1, h1⟩
  unfold X13_dictionarySize_f X13_dictionarySize
  rw [ob_e q.cl, ob_e (q.col (nI c)), if_pos (cOK_n q.C hc), ob_e q.cl, ob_e e1, if_pos rfl]
  rw [ob_e q1.cl, ob_e (q1.size hN hc)]
theorem M_dictionarySizeF (h : RX E w m th Q) (hG : GS (qS Q)) {a : Int32} (ha : ¬ cOK (qS Q) a) : XM E w m 1 Q 0 (X13_dictionarySize_f E m a w.1) := by
  obtain ⟨g, q⟩ := h.q hG
  obtain ⟨w1, e1, F1, h1⟩ := h.lkN
  refine ⟨w1, ?_, F1, h1⟩
  unfold X13_dictionarySize_f X13_dictionarySize
  rw [ob_e q.cl, ob_e (q.col a), if_neg ha, ob_e q.cl, ob_e e1, if_neg i10]
theorem M_commonestCode (hN : 100000 ≤ gN E) (h : RX E w m th Q) (hG : GS (qS Q)) {c : Nat} (hc : c < (qS Q).1) : XM E w m 0 Q (if tR (qS Q) = 0 then -1 else nI (fb_ct (tD (qS Q) c) (px (tV (qS Q) c (gbest (tV (qS Q) c) (tR (qS Q)) (tR (qS Q))))))) (X13_commonestCode_f E m (nI c) w.1) := by
  obtain ⟨g, q⟩ := h.q hG
  obtain ⟨w1, e1, F1, h1⟩ := h.lkY
  obtain ⟨g1, q1⟩ := h1.q hG
  refine ⟨w1, ?_, F1, h1⟩
  unfold X13_commonestCode_f X13_commonestCode
  rw [ob_e q.cl, ob_e (q.col (nI c)), if_pos (cOK_n q.C hc), ob_e q.cl, ob_e e1, if_pos rfl]
  exact q1.best hN hc
theorem M_commonestCodeF (h : RX E w m th Q) (hG : GS (qS Q)) {a : Int32} (ha : ¬ cOK (qS Q) a) : XM E w m 1 Q 0 (X13_commonestCode_f E m a w.1) := by
  obtain ⟨g, q⟩ := h.q hG
  obtain ⟨w1, e1, F1, h1⟩ := h.lkN
  refine ⟨w1, ?_, F1, h1⟩
  unfold X13_commonestCode_f X13_commonestCode
  rw [ob_e q.cl, ob_e (q.col a), if_neg ha, ob_e q.cl, ob_e e1, if_neg i10]
theorem M_bitWidth (hN : 100000 ≤ gN E) (h : RX E w m th Q) (hG : GS (qS Q)) {c : Nat} (hc : c < (qS Q).1) : XM E w m 0 Q (nI (gwid (dsz (tD (qS Q) c)))) (X13_bitWidth_f E m (nI c) w.1) := by
  obtain ⟨g, q⟩ := h.q hG
  obtain ⟨w1, e1, F1, h1⟩ := h.lkY
  obtain ⟨g1, q1⟩ := h1.q hG
  refine ⟨w1, ?_, F1, h1⟩
  unfold X13_bitWidth_f X13_bitWidth
  rw [ob_e q.cl, ob_e (q.col (nI c)), if_pos (cOK_n q.C hc), ob_e q.cl, ob_e e1, if_pos rfl]
  rw [ob_e q1.cl, ob_e (q1.width hN hc)]
theorem M_bitWidthF (h : RX E w m th Q) (hG : GS (qS Q)) {a : Int32} (ha : ¬ cOK (qS Q) a) : XM E w m 1 Q 0 (X13_bitWidth_f E m a w.1) := by
  obtain ⟨g, q⟩ := h.q hG
  obtain ⟨w1, e1, F1, h1⟩ := h.lkN
  refine ⟨w1, ?_, F1, h1⟩
  unfold X13_bitWidth_f X13_bitWidth
  rw [ob_e q.cl, ob_e (q.col a), if_neg ha, ob_e q.cl, ob_e e1, if_neg i10]
theorem M_wordCount (hN : 100000 ≤ gN E) (h : RX E w m th Q) (hG : GS (qS Q)) {c : Nat} (hc : c < (qS Q).1) : XM E w m 0 Q (nI ((tR (qS Q) * gwid (dsz (tD (qS Q) c)) + 63) / 64)) (X13_wordCount_f E m (nI c) w.1) := by
  obtain ⟨g, q⟩ := h.q hG
  obtain ⟨w1, e1, F1, h1⟩ := h.lkY
  obtain ⟨g1, q1⟩ := h1.q hG
  refine ⟨w1, ?_, F1, h1⟩
  unfold X13_wordCount_f X13_wordCount
  rw [ob_e q.cl, ob_e (q.col (nI c)), if_pos (cOK_n q.C hc), ob_e q.cl, ob_e e1, if_pos rfl]
  rw [ob_e q1.cl, ob_e (q1.words hN hc)]
theorem M_wordCountF (h : RX E w m th Q) (hG : GS (qS Q)) {a : Int32} (ha : ¬ cOK (qS Q) a) : XM E w m 1 Q 0 (X13_wordCount_f E m a w.1) := by
  obtain ⟨g, q⟩ := h.q hG
  obtain ⟨w1, e1, F1, h1⟩ := h.lkN
  refine ⟨w1, ?_, F1, h1⟩
  unfold X13_wordCount_f X13_wordCount
  rw [ob_e q.cl, ob_e (q.col a), if_neg ha, ob_e q.cl, ob_e e1, if_neg i10]
theorem M_runCount (hN : 100000 ≤ gN E) (h : RX E w m th Q) (hG : GS (qS Q)) {c : Nat} (hc : c < (qS Q).1) : XM E w m 0 Q (nI (gruns (tV (qS Q) c) (fun k => k) (tR (qS Q)))) (X13_runCount_f E m (nI c) w.1) := by
  obtain ⟨g, q⟩ := h.q hG
  obtain ⟨w1, e1, F1, h1⟩ := h.lkY
  obtain ⟨g1, q1⟩ := h1.q hG
  refine ⟨w1, ?_, F1, h1⟩
  unfold X13_runCount_f X13_runCount
  rw [ob_e q.cl, ob_e (q.col (nI c)), if_pos (cOK_n q.C hc), ob_e q.cl, ob_e e1, if_pos rfl]
  rw [ob_e q1.cl, ob_e (q1.runs hN hc)]
theorem M_runCountF (h : RX E w m th Q) (hG : GS (qS Q)) {a : Int32} (ha : ¬ cOK (qS Q) a) : XM E w m 1 Q 0 (X13_runCount_f E m a w.1) := by
  obtain ⟨g, q⟩ := h.q hG
  obtain ⟨w1, e1, F1, h1⟩ := h.lkN
  refine ⟨w1, ?_, F1, h1⟩
  unfold X13_runCount_f X13_runCount
  rw [ob_e q.cl, ob_e (q.col a), if_neg ha, ob_e q.cl, ob_e e1, if_neg i10]
theorem M_longestRun (hN : 100000 ≤ gN E) (h : RX E w m th Q) (hG : GS (qS Q)) {c : Nat} (hc : c < (qS Q).1) : XM E w m 0 Q (nI (grun (tV (qS Q) c) (tR (qS Q))).1) (X13_longestRun_f E m (nI c) w.1) := by
  obtain ⟨g, q⟩ := h.q hG
  obtain ⟨w1, e1, F1, h1⟩ := h.lkY
  obtain ⟨g1, q1⟩ := h1.q hG
  refine ⟨w1, ?_, F1, h1⟩
  unfold X13_longestRun_f X13_longestRun
  rw [ob_e q.cl, ob_e (q.col (nI c)), if_pos (cOK_n q.C hc), ob_e q.cl, ob_e e1, if_pos rfl]
  exact q1.longest hN hc
theorem M_longestRunF (h : RX E w m th Q) (hG : GS (qS Q)) {a : Int32} (ha : ¬ cOK (qS Q) a) : XM E w m 1 Q 0 (X13_longestRun_f E m a w.1) := by
  obtain ⟨g, q⟩ := h.q hG
  obtain ⟨w1, e1, F1, h1⟩ := h.lkN
  refine ⟨w1, ?_, F1, h1⟩
  unfold X13_longestRun_f X13_longestRun
  rw [ob_e q.cl, ob_e (q.col a), if_neg ha, ob_e q.cl, ob_e e1, if_neg i10]
theorem M_sumSelected (hN : 100000 ≤ gN E) (h : RX E w m th Q) (hG : GS (qS Q)) {c : Nat} (hc : c < (qS Q).1) : XM E w m 0 Q (gsumL (qS Q) c (tR (qS Q))) (X13_sumSelected_f E m (nI c) w.1) := by
  obtain ⟨g, q⟩ := h.q hG
  obtain ⟨w1, e1, F1, h1⟩ := h.lkY
  obtain ⟨g1, q1⟩ := h1.q hG
  refine ⟨w1, ?_, F1, h1⟩
  unfold X13_sumSelected_f X13_sumSelected
  rw [ob_e q.cl, ob_e (q.col (nI c)), if_pos (cOK_n q.C hc), ob_e q.cl, ob_e e1, if_pos rfl]
  rw [ob_e q1.cl, ob_e (q1.sum hN hc)]
theorem M_sumSelectedF (h : RX E w m th Q) (hG : GS (qS Q)) {a : Int32} (ha : ¬ cOK (qS Q) a) : XM E w m 1 Q 0 (X13_sumSelected_f E m a w.1) := by
  obtain ⟨g, q⟩ := h.q hG
  obtain ⟨w1, e1, F1, h1⟩ := h.lkN
  refine ⟨w1, ?_, F1, h1⟩
  unfold X13_sumSelected_f X13_sumSelected
  rw [ob_e q.cl, ob_e (q.col a), if_neg ha, ob_e q.cl, ob_e e1, if_neg i10]
theorem M_distinctSelected (hN : 100000 ≤ gN E) (h : RX E w m th Q) (hG : GS (qS Q)) {c : Nat} (hc : c < (qS Q).1) : XM E w m 0 Q (nI (dsz (gsel (qS Q) c))) (X13_distinctSelected_f E m (nI c) w.1) := by
  obtain ⟨g, q⟩ := h.q hG
  obtain ⟨w1, e1, F1, h1⟩ := h.lkY
  obtain ⟨g1, q1⟩ := h1.q hG
  refine ⟨w1, ?_, F1, h1⟩
  unfold X13_distinctSelected_f X13_distinctSelected
  rw [ob_e q.cl, ob_e (q.col (nI c)), if_pos (cOK_n q.C hc), ob_e q.cl, ob_e e1, if_pos rfl]
  exact q1.dist hN hc
theorem M_distinctSelectedF (h : RX E w m th Q) (hG : GS (qS Q)) {a : Int32} (ha : ¬ cOK (qS Q) a) : XM E w m 1 Q 0 (X13_distinctSelected_f E m a w.1) := by
  obtain ⟨g, q⟩ := h.q hG
  obtain ⟨w1, e1, F1, h1⟩ := h.lkN
  refine ⟨w1, ?_, F1, h1⟩
  unfold X13_distinctSelected_f X13_distinctSelected
  rw [ob_e q.cl, ob_e (q.col a), if_neg ha, ob_e q.cl, ob_e e1, if_neg i10]
theorem M_staleCount (hN : 100000 ≤ gN E) (h : RX E w m th Q) (hG : GS (qS Q)) {c : Nat} (hc : c < (qS Q).1) : XM E w m 0 Q (nI (dsz (tD (qS Q) c)) - nI (dsz (dcol (tV (qS Q) c) (tR (qS Q))))) (X13_staleCount_f E m (nI c) w.1) := by
  obtain ⟨g, q⟩ := h.q hG
  obtain ⟨w1, e1, F1, h1⟩ := h.lkY
  obtain ⟨g1, q1⟩ := h1.q hG
  refine ⟨w1, ?_, F1, h1⟩
  unfold X13_staleCount_f X13_staleCount
  rw [ob_e q.cl, ob_e (q.col (nI c)), if_pos (cOK_n q.C hc), ob_e q.cl, ob_e e1, if_pos rfl]
  rw [ob_e q1.cl, ob_e (q1.size hN hc), ob_e q1.cl, ob_e (q1.used hN hc)]
theorem M_staleCountF (h : RX E w m th Q) (hG : GS (qS Q)) {a : Int32} (ha : ¬ cOK (qS Q) a) : XM E w m 1 Q 0 (X13_staleCount_f E m a w.1) := by
  obtain ⟨g, q⟩ := h.q hG
  obtain ⟨w1, e1, F1, h1⟩ := h.lkN
  refine ⟨w1, ?_, F1, h1⟩
  unfold X13_staleCount_f X13_staleCount
  rw [ob_e q.cl, ob_e (q.col a), if_neg ha, ob_e q.cl, ob_e e1, if_neg i10]
theorem M_bitWidthCompacted (hN : 100000 ≤ gN E) (h : RX E w m th Q) (hG : GS (qS Q)) {c : Nat} (hc : c < (qS Q).1) : XM E w m 0 Q (nI (gwid (dsz (dcol (tV (qS Q) c) (tR (qS Q)))))) (X13_bitWidthCompacted_f E m (nI c) w.1) := by
  obtain ⟨g, q⟩ := h.q hG
  obtain ⟨w1, e1, F1, h1⟩ := h.lkY
  obtain ⟨g1, q1⟩ := h1.q hG
  refine ⟨w1, ?_, F1, h1⟩
  unfold X13_bitWidthCompacted_f X13_bitWidthCompacted
  rw [ob_e q.cl, ob_e (q.col (nI c)), if_pos (cOK_n q.C hc), ob_e q.cl, ob_e e1, if_pos rfl]
  have := dsz_le (dcol (tV (qS Q) c) (tR (qS Q)))
  rw [ob_e q1.cl, ob_e (q1.used hN hc), ob_e (wide_f hN (by omega))]
theorem M_bitWidthCompactedF (h : RX E w m th Q) (hG : GS (qS Q)) {a : Int32} (ha : ¬ cOK (qS Q) a) : XM E w m 1 Q 0 (X13_bitWidthCompacted_f E m a w.1) := by
  obtain ⟨g, q⟩ := h.q hG
  obtain ⟨w1, e1, F1, h1⟩ := h.lkN
  refine ⟨w1, ?_, F1, h1⟩
  unfold X13_bitWidthCompacted_f X13_bitWidthCompacted
  rw [ob_e q.cl, ob_e (q.col a), if_neg ha, ob_e q.cl, ob_e e1, if_neg i10]
theorem M_meanSelected (hN : 100000 ≤ gN E) (h : RX E w m th Q) (hG : GS (qS Q)) {c : Nat} (hc : c < (qS Q).1) : XM E w m 0 Q (gmean (qS Q) c) (X13_meanSelected_f E m (nI c) w.1) := by
  obtain ⟨g, q⟩ := h.q hG
  obtain ⟨w1, e1, F1, h1⟩ := h.lkY
  obtain ⟨g1, q1⟩ := h1.q hG
  refine ⟨w1, ?_, F1, h1⟩
  unfold X13_meanSelected_f X13_meanSelected
  rw [ob_e q.cl, ob_e (q.col (nI c)), if_pos (cOK_n q.C hc), ob_e q.cl, ob_e e1, if_pos rfl]
  have hs := gsumL_le hG hc (tR (qS Q)) (Nat.le_refl _)
  have hR := q.R
  have hle := fb_ct_le (ssel (qS Q)) (tR (qS Q))
  unfold gmean
  rw [ob_e q1.cl, ob_e (q1.nsel hN)]
  by_cases h0 : fb_ct (ssel (qS Q)) (tR (qS Q)) = 0
  · rw [if_pos (by rw [h0]; decide), if_pos h0]
  · rw [if_neg (nI_ne0 (by omega) (by omega)), if_neg h0, ob_e q1.cl, ob_e (q1.sum hN hc), gddiv_li (by omega) (nI_ne0 (by omega) (by omega))]
    rfl
theorem M_meanSelectedF (h : RX E w m th Q) (hG : GS (qS Q)) {a : Int32} (ha : ¬ cOK (qS Q) a) : XM E w m 1 Q 0 (X13_meanSelected_f E m a w.1) := by
  obtain ⟨g, q⟩ := h.q hG
  obtain ⟨w1, e1, F1, h1⟩ := h.lkN
  refine ⟨w1, ?_, F1, h1⟩
  unfold X13_meanSelected_f X13_meanSelected
  rw [ob_e q.cl, ob_e (q.col a), if_neg ha, ob_e q.cl, ob_e e1, if_neg i10]
theorem M_rejectedBy (hN : 100000 ≤ gN E) (h : RX E w m th Q) (hG : GS (qS Q)) {r : Nat} (hr : r < tR (qS Q)) : XM E w m 0 Q (if srej (qS Q) r < tK (qS Q) then nI (srej (qS Q) r) else -1) (X13_rejectedBy_f E m (nI r) w.1) := by
  obtain ⟨g, q⟩ := h.q hG
  obtain ⟨w1, e1, F1, h1⟩ := h.lkY
  obtain ⟨g1, q1⟩ := h1.q hG
  refine ⟨w1, ?_, F1, h1⟩
  unfold X13_rejectedBy_f X13_rejectedBy
  rw [ob_e q.cl, ob_e (q.row (nI r)), if_pos (rOK_n q.R hr), ob_e q.cl, ob_e e1, if_pos rfl]
  rw [ob_e q1.cl, ob_e (q1.rej hN hr)]
theorem M_rejectedByF (h : RX E w m th Q) (hG : GS (qS Q)) {a : Int32} (ha : ¬ rOK (qS Q) a) : XM E w m 1 Q 0 (X13_rejectedBy_f E m a w.1) := by
  obtain ⟨g, q⟩ := h.q hG
  obtain ⟨w1, e1, F1, h1⟩ := h.lkN
  refine ⟨w1, ?_, F1, h1⟩
  unfold X13_rejectedBy_f X13_rejectedBy
  rw [ob_e q.cl, ob_e (q.row a), if_neg ha, ob_e q.cl, ob_e e1, if_neg i10]
theorem M_isSelected (hN : 100000 ≤ gN E) (h : RX E w m th Q) (hG : GS (qS Q)) {r : Nat} (hr : r < tR (qS Q)) : XM E w m 0 Q (if ssel (qS Q) r = true then 1 else 0) (X13_isSelected_f E m (nI r) w.1) := by
  obtain ⟨g, q⟩ := h.q hG
  obtain ⟨w1, e1, F1, h1⟩ := h.lkY
  obtain ⟨g1, q1⟩ := h1.q hG
  refine ⟨w1, ?_, F1, h1⟩
  unfold X13_isSelected_f X13_isSelected
  rw [ob_e q.cl, ob_e (q.row (nI r)), if_pos (rOK_n q.R hr), ob_e q.cl, ob_e e1, if_pos rfl]
  rw [ob_e q1.cl, ob_e (q1.sel hN hr)]
  unfold X13_isSelected_24
  cases ssel (qS Q) r with
  | true => rfl
  | false => rfl
theorem M_isSelectedF (h : RX E w m th Q) (hG : GS (qS Q)) {a : Int32} (ha : ¬ rOK (qS Q) a) : XM E w m 1 Q 0 (X13_isSelected_f E m a w.1) := by
  obtain ⟨g, q⟩ := h.q hG
  obtain ⟨w1, e1, F1, h1⟩ := h.lkN
  refine ⟨w1, ?_, F1, h1⟩
  unfold X13_isSelected_f X13_isSelected
  rw [ob_e q.cl, ob_e (q.row a), if_neg ha, ob_e q.cl, ob_e e1, if_neg i10]
  rfl
theorem M_lowerCode (hN : 100000 ≤ gN E) (h : RX E w m th Q) (hG : GS (qS Q)) {i : Nat} (hi : i < tK (qS Q)) : XM E w m 0 Q (nI (slo (qS Q) i)) (X13_lowerCode_f E m (nI i) w.1) := by
  obtain ⟨g, q⟩ := h.q hG
  obtain ⟨w1, e1, F1, h1⟩ := h.lkY
  obtain ⟨g1, q1⟩ := h1.q hG
  refine ⟨w1, ?_, F1, h1⟩
  unfold X13_lowerCode_f X13_lowerCode
  rw [ob_e q.cl, ob_e (q.con (nI i)), if_pos (kOK_n q.K hi), ob_e q.cl, ob_e e1, if_pos rfl]
  rw [ob_e q1.cl, ob_e (q1.lower hN hi)]
theorem M_lowerCodeF (h : RX E w m th Q) (hG : GS (qS Q)) {a : Int32} (ha : ¬ kOK (qS Q) a) : XM E w m 1 Q 0 (X13_lowerCode_f E m a w.1) := by
  obtain ⟨g, q⟩ := h.q hG
  obtain ⟨w1, e1, F1, h1⟩ := h.lkN
  refine ⟨w1, ?_, F1, h1⟩
  unfold X13_lowerCode_f X13_lowerCode
  rw [ob_e q.cl, ob_e (q.con a), if_neg ha, ob_e q.cl, ob_e e1, if_neg i10]
theorem M_upperCode (hN : 100000 ≤ gN E) (h : RX E w m th Q) (hG : GS (qS Q)) {i : Nat} (hi : i < tK (qS Q)) : XM E w m 0 Q (nI (shi (qS Q) i)) (X13_upperCode_f E m (nI i) w.1) := by
  obtain ⟨g, q⟩ := h.q hG
  obtain ⟨w1, e1, F1, h1⟩ := h.lkY
  obtain ⟨g1, q1⟩ := h1.q hG
  refine ⟨w1, ?_, F1, h1⟩
  unfold X13_upperCode_f X13_upperCode
  rw [ob_e q.cl, ob_e (q.con (nI i)), if_pos (kOK_n q.K hi), ob_e q.cl, ob_e e1, if_pos rfl]
  rw [ob_e q1.cl, ob_e (q1.upper hN hi)]
theorem M_upperCodeF (h : RX E w m th Q) (hG : GS (qS Q)) {a : Int32} (ha : ¬ kOK (qS Q) a) : XM E w m 1 Q 0 (X13_upperCode_f E m a w.1) := by
  obtain ⟨g, q⟩ := h.q hG
  obtain ⟨w1, e1, F1, h1⟩ := h.lkN
  refine ⟨w1, ?_, F1, h1⟩
  unfold X13_upperCode_f X13_upperCode
  rw [ob_e q.cl, ob_e (q.con a), if_neg ha, ob_e q.cl, ob_e e1, if_neg i10]
theorem M_matches (hN : 100000 ≤ gN E) (h : RX E w m th Q) (hG : GS (qS Q)) {i : Nat} (hi : i < tK (qS Q)) : XM E w m 0 Q (nI (fb_ct (fun r => sful (qS Q) r i) (tR (qS Q)))) (X13_matches_f E m (nI i) w.1) := by
  obtain ⟨g, q⟩ := h.q hG
  obtain ⟨w1, e1, F1, h1⟩ := h.lkY
  obtain ⟨g1, q1⟩ := h1.q hG
  refine ⟨w1, ?_, F1, h1⟩
  unfold X13_matches_f X13_matches
  rw [ob_e q.cl, ob_e (q.con (nI i)), if_pos (kOK_n q.K hi), ob_e q.cl, ob_e e1, if_pos rfl]
  rw [ob_e q1.cl, ob_e (q1.nmat hN hi)]
theorem M_matchesF (h : RX E w m th Q) (hG : GS (qS Q)) {a : Int32} (ha : ¬ kOK (qS Q) a) : XM E w m 1 Q 0 (X13_matches_f E m a w.1) := by
  obtain ⟨g, q⟩ := h.q hG
  obtain ⟨w1, e1, F1, h1⟩ := h.lkN
  refine ⟨w1, ?_, F1, h1⟩
  unfold X13_matches_f X13_matches
  rw [ob_e q.cl, ob_e (q.con a), if_neg ha, ob_e q.cl, ob_e e1, if_neg i10]
theorem M_conditionColumn (hN : 100000 ≤ gN E) (h : RX E w m th Q) (hG : GS (qS Q)) {i : Nat} (hi : i < tK (qS Q)) : XM E w m 0 Q (nI (tFc (qS Q) i)) (X13_conditionColumn_f E m (nI i) w.1) := by
  obtain ⟨g, q⟩ := h.q hG
  obtain ⟨w1, e1, F1, h1⟩ := h.lkY
  obtain ⟨g1, q1⟩ := h1.q hG
  refine ⟨w1, ?_, F1, h1⟩
  have e2 : X13_told_f E m (nI i) 0 w.1 = some (nI (tFc (qS Q) i), w1.1) := by
    unfold X13_told_f X13_told
    rw [ob_e q.cl, ob_e (q.con (nI i)), if_pos (kOK_n q.K hi), ob_e q.cl, ob_e e1, if_pos rfl, ob_e q1.cl, ob_e (q1.of0 hi)]
  unfold X13_conditionColumn_f X13_conditionColumn
  rw [ob_e q.cl, ob_e e2]
theorem M_conditionColumnF (h : RX E w m th Q) (hG : GS (qS Q)) {a : Int32} (ha : ¬ kOK (qS Q) a) : XM E w m 1 Q 0 (X13_conditionColumn_f E m a w.1) := by
  obtain ⟨g, q⟩ := h.q hG
  obtain ⟨w1, e1, F1, h1⟩ := h.lkN
  refine ⟨w1, ?_, F1, h1⟩
  have e2 : X13_told_f E m a 0 w.1 = some (0, w1.1) := by
    unfold X13_told_f X13_told
    rw [ob_e q.cl, ob_e (q.con a), if_neg ha, ob_e q.cl, ob_e e1, if_neg i10]
  unfold X13_conditionColumn_f X13_conditionColumn
  rw [ob_e q.cl, ob_e e2]
theorem M_conditionValue (hN : 100000 ≤ gN E) (h : RX E w m th Q) (hG : GS (qS Q)) {i : Nat} (hi : i < tK (qS Q)) : XM E w m 0 Q (tFv (qS Q) i) (X13_conditionValue_f E m (nI i) w.1) := by
  obtain ⟨g, q⟩ := h.q hG
  obtain ⟨w1, e1, F1, h1⟩ := h.lkY
  obtain ⟨g1, q1⟩ := h1.q hG
  refine ⟨w1, ?_, F1, h1⟩
  have e2 : X13_told_f E m (nI i) 1 w.1 = some (tFv (qS Q) i, w1.1) := by
    unfold X13_told_f X13_told
    rw [ob_e q.cl, ob_e (q.con (nI i)), if_pos (kOK_n q.K hi), ob_e q.cl, ob_e e1, if_pos rfl, ob_e q1.cl, ob_e (q1.of1 hi)]
  unfold X13_conditionValue_f X13_conditionValue
  rw [ob_e q.cl, ob_e e2]
theorem M_conditionValueF (h : RX E w m th Q) (hG : GS (qS Q)) {a : Int32} (ha : ¬ kOK (qS Q) a) : XM E w m 1 Q 0 (X13_conditionValue_f E m a w.1) := by
  obtain ⟨g, q⟩ := h.q hG
  obtain ⟨w1, e1, F1, h1⟩ := h.lkN
  refine ⟨w1, ?_, F1, h1⟩
  have e2 : X13_told_f E m a 1 w.1 = some (0, w1.1) := by
    unfold X13_told_f X13_told
    rw [ob_e q.cl, ob_e (q.con a), if_neg ha, ob_e q.cl, ob_e e1, if_neg i10]
  unfold X13_conditionValue_f X13_conditionValue
  rw [ob_e q.cl, ob_e e2]
theorem M_conditionDirection (hN : 100000 ≤ gN E) (h : RX E w m th Q) (hG : GS (qS Q)) {i : Nat} (hi : i < tK (qS Q)) : XM E w m 0 Q (tFd (qS Q) i) (X13_conditionDirection_f E m (nI i) w.1) := by
  obtain ⟨g, q⟩ := h.q hG
  obtain ⟨w1, e1, F1, h1⟩ := h.lkY
  obtain ⟨g1, q1⟩ := h1.q hG
  refine ⟨w1, ?_, F1, h1⟩
  have e2 : X13_told_f E m (nI i) 2 w.1 = some (tFd (qS Q) i, w1.1) := by
    unfold X13_told_f X13_told
    rw [ob_e q.cl, ob_e (q.con (nI i)), if_pos (kOK_n q.K hi), ob_e q.cl, ob_e e1, if_pos rfl, ob_e q1.cl, ob_e (q1.of2 hi)]
  unfold X13_conditionDirection_f X13_conditionDirection
  rw [ob_e q.cl, ob_e e2]
theorem M_conditionDirectionF (h : RX E w m th Q) (hG : GS (qS Q)) {a : Int32} (ha : ¬ kOK (qS Q) a) : XM E w m 1 Q 0 (X13_conditionDirection_f E m a w.1) := by
  obtain ⟨g, q⟩ := h.q hG
  obtain ⟨w1, e1, F1, h1⟩ := h.lkN
  refine ⟨w1, ?_, F1, h1⟩
  have e2 : X13_told_f E m a 2 w.1 = some (0, w1.1) := by
    unfold X13_told_f X13_told
    rw [ob_e q.cl, ob_e (q.con a), if_neg ha, ob_e q.cl, ob_e e1, if_neg i10]
  unfold X13_conditionDirection_f X13_conditionDirection
  rw [ob_e q.cl, ob_e e2]
theorem M_value (hN : 100000 ≤ gN E) (h : RX E w m th Q) (hG : GS (qS Q)) {c r : Nat} (hc : c < (qS Q).1) (hr : r < tR (qS Q)) : XM E w m 0 Q (tV (qS Q) c r) (X13_value_f E m (nI c) (nI r) w.1) := by
  obtain ⟨g, q⟩ := h.q hG
  obtain ⟨w1, e1, F1, h1⟩ := h.lkY
  obtain ⟨g1, q1⟩ := h1.q hG
  refine ⟨w1, ?_, F1, h1⟩
  unfold X13_value_f X13_value
  rw [ob_e q.cl, ob_e (q.cell (nI c) (nI r)), if_pos ⟨cOK_n q.C hc, rOK_n q.R hr⟩, ob_e q.cl, ob_e e1, if_pos rfl]
  rw [ob_e q1.cl, ob_e (q1.at hc hr)]
theorem M_valueF (h : RX E w m th Q) (hG : GS (qS Q)) {a b : Int32} (ha : ¬ (cOK (qS Q) a ∧ rOK (qS Q) b)) : XM E w m 1 Q 0 (X13_value_f E m a b w.1) := by
  obtain ⟨g, q⟩ := h.q hG
  obtain ⟨w1, e1, F1, h1⟩ := h.lkN
  refine ⟨w1, ?_, F1, h1⟩
  unfold X13_value_f X13_value
  rw [ob_e q.cl, ob_e (q.cell a b), if_neg ha, ob_e q.cl, ob_e e1, if_neg i10]
theorem M_code (hN : 100000 ≤ gN E) (h : RX E w m th Q) (hG : GS (qS Q)) {c r : Nat} (hc : c < (qS Q).1) (hr : r < tR (qS Q)) : XM E w m 0 Q (nI (fb_ct (tD (qS Q) c) (px (tV (qS Q) c r)))) (X13_code_f E m (nI c) (nI r) w.1) := by
  obtain ⟨g, q⟩ := h.q hG
  obtain ⟨w1, e1, F1, h1⟩ := h.lkY
  obtain ⟨g1, q1⟩ := h1.q hG
  refine ⟨w1, ?_, F1, h1⟩
  unfold X13_code_f X13_code
  rw [ob_e q.cl, ob_e (q.cell (nI c) (nI r)), if_pos ⟨cOK_n q.C hc, rOK_n q.R hr⟩, ob_e q.cl, ob_e e1, if_pos rfl]
  rw [ob_e q1.cl, ob_e (q1.code hN hc hr)]
theorem M_codeF (h : RX E w m th Q) (hG : GS (qS Q)) {a b : Int32} (ha : ¬ (cOK (qS Q) a ∧ rOK (qS Q) b)) : XM E w m 1 Q 0 (X13_code_f E m a b w.1) := by
  obtain ⟨g, q⟩ := h.q hG
  obtain ⟨w1, e1, F1, h1⟩ := h.lkN
  refine ⟨w1, ?_, F1, h1⟩
  unfold X13_code_f X13_code
  rw [ob_e q.cl, ob_e (q.cell a b), if_neg ha, ob_e q.cl, ob_e e1, if_neg i10]
theorem M_isSorted (hN : 100000 ≤ gN E) (h : RX E w m th Q) (hG : GS (qS Q)) {c : Nat} (hc : c < (qS Q).1) : ∃ b : Int32, (b = 1 ∧ gasc (tV (qS Q) c) (tR (qS Q)) ∨ b = 0 ∧ ¬ gasc (tV (qS Q) c) (tR (qS Q))) ∧ XM E w m 0 Q b (X13_isSorted_f E m (nI c) w.1) := by
  obtain ⟨g, q⟩ := h.q hG
  obtain ⟨w1, e1, F1, h1⟩ := h.lkY
  obtain ⟨g1, q1⟩ := h1.q hG
  obtain ⟨b, e2, hb⟩ := q1.sorted hN hc
  refine ⟨b, hb, w1, ?_, F1, h1⟩
  unfold X13_isSorted_f X13_isSorted
  rw [ob_e q.cl, ob_e (q.col (nI c)), if_pos (cOK_n q.C hc), ob_e q.cl, ob_e e1, if_pos rfl]
  exact e2
theorem M_isSortedF (h : RX E w m th Q) (hG : GS (qS Q)) {a : Int32} (ha : ¬ cOK (qS Q) a) : XM E w m 1 Q 0 (X13_isSorted_f E m a w.1) := by
  obtain ⟨g, q⟩ := h.q hG
  obtain ⟨w1, e1, F1, h1⟩ := h.lkN
  refine ⟨w1, ?_, F1, h1⟩
  unfold X13_isSorted_f X13_isSorted
  rw [ob_e q.cl, ob_e (q.col a), if_neg ha, ob_e q.cl, ob_e e1, if_neg i10]
theorem M_findCode (hN : 100000 ≤ gN E) (h : RX E w m th Q) (hG : GS (qS Q)) {c : Nat} (hc : c < (qS Q).1) (v : Int32) : XM E w m 0 Q (if dmem (tD (qS Q) c) v = true then nI (fb_ct (tD (qS Q) c) (px v)) else -1) (X13_findCode_f E m (nI c) v w.1) := by
  obtain ⟨g, q⟩ := h.q hG
  obtain ⟨w1, e1, F1, h1⟩ := h.lkY
  obtain ⟨g1, q1⟩ := h1.q hG
  refine ⟨w1, ?_, F1, h1⟩
  unfold X13_findCode_f X13_findCode
  rw [ob_e q.cl, ob_e (q.col (nI c)), if_pos (cOK_n q.C hc), ob_e q.cl, ob_e e1, if_pos rfl, ob_e q1.cl, ob_e (q1.has hc v)]
  cases hb : dmem (tD (qS Q) c) v with
  | true =>
    have hv : vIn v := by
      unfold dmem at hb
      have z : -9999 ≤ v.toInt ∧ v.toInt ≤ 9999 := of_decide_eq_true (Bool.and_eq_true_iff.mp hb).1
      exact z
    rw [if_pos rfl, if_neg i10, ob_e q1.cl, ob_e (q1.less hN hc hv), if_pos rfl]
  | false => rw [if_neg (by decide : ¬ false = true), if_pos rfl, if_neg (by decide : ¬ false = true)]
theorem M_findCodeF (h : RX E w m th Q) (hG : GS (qS Q)) {a : Int32} (v : Int32) (ha : ¬ cOK (qS Q) a) : XM E w m 1 Q 0 (X13_findCode_f E m a v w.1) := by
  obtain ⟨g, q⟩ := h.q hG
  obtain ⟨w1, e1, F1, h1⟩ := h.lkN
  refine ⟨w1, ?_, F1, h1⟩
  unfold X13_findCode_f X13_findCode
  rw [ob_e q.cl, ob_e (q.col a), if_neg ha, ob_e q.cl, ob_e e1, if_neg i10]
theorem dc_n {S : gT} {c i : Nat} (hi : i < dsz (tD S c)) : dcOK S c (nI i) := by
  have := dsz_le (tD S c)
  rw [dcOK, nI_toInt (by omega)]
  omega
theorem isCodeN {σ : gS} {g : Nat → Int32} {S : gT} (hN : 100000 ≤ gN E) (q : mQ E σ m (m + 1) g S) {a b : Int32} (ha : ¬ (cOK S a ∧ dcOK S a.toInt.toNat b)) : X13_isCode_f E σ m a b = some 0 := by
  by_cases h1 : cOK S a
  · obtain ⟨c, hc, rfl, h31⟩ := ixI h1
    rw [q.isCode hN hc, if_neg]
    intro z
    refine ha ⟨h1, ?_⟩
    rw [show (nI c).toInt.toNat = c from by rw [nI_toInt h31]; rfl]
    exact z
  · exact q.isCodeF h1 b
theorem M_dictionaryValue (hN : 100000 ≤ gN E) (h : RX E w m th Q) (hG : GS (qS Q)) {c i p : Nat} (hc : c < (qS Q).1) (hi : i < dsz (tD (qS Q) c)) (hp : p < 19999) (hf : tD (qS Q) c p = true) (hpi : fb_ct (tD (qS Q) c) p = i) : XM E w m 0 Q (xp p) (X13_dictionaryValue_f E m (nI c) (nI i) w.1) := by
  obtain ⟨g, q⟩ := h.q hG
  obtain ⟨w1, e1, F1, h1⟩ := h.lkY
  obtain ⟨g1, q1⟩ := h1.q hG
  refine ⟨w1, ?_, F1, h1⟩
  unfold X13_dictionaryValue_f X13_dictionaryValue
  rw [ob_e q.cl, ob_e (q.isCode hN hc (nI i)), if_pos (dc_n hi), ob_e q.cl, ob_e e1, if_pos rfl, ob_e q1.cl, ob_e (q1.valOf hN hc hp hf hpi)]
theorem M_dictionaryValueF (hN : 100000 ≤ gN E) (h : RX E w m th Q) (hG : GS (qS Q)) {a b : Int32} (ha : ¬ (cOK (qS Q) a ∧ dcOK (qS Q) a.toInt.toNat b)) : XM E w m 1 Q 0 (X13_dictionaryValue_f E m a b w.1) := by
  obtain ⟨g, q⟩ := h.q hG
  obtain ⟨w1, e1, F1, h1⟩ := h.lkN
  refine ⟨w1, ?_, F1, h1⟩
  unfold X13_dictionaryValue_f X13_dictionaryValue
  rw [ob_e q.cl, ob_e (isCodeN hN q ha), ob_e q.cl, ob_e e1, if_neg i10]
theorem M_frequency (hN : 100000 ≤ gN E) (h : RX E w m th Q) (hG : GS (qS Q)) {c i p : Nat} (hc : c < (qS Q).1) (hi : i < dsz (tD (qS Q) c)) (hp : p < 19999) (hf : tD (qS Q) c p = true) (hpi : fb_ct (tD (qS Q) c) p = i) : XM E w m 0 Q (nI (fb_ct (fun r => decide (tV (qS Q) c r = xp p)) (tR (qS Q)))) (X13_frequency_f E m (nI c) (nI i) w.1) := by
  obtain ⟨g, q⟩ := h.q hG
  obtain ⟨w1, e1, F1, h1⟩ := h.lkY
  obtain ⟨g1, q1⟩ := h1.q hG
  refine ⟨w1, ?_, F1, h1⟩
  unfold X13_frequency_f X13_frequency
  rw [ob_e q.cl, ob_e (q.isCode hN hc (nI i)), if_pos (dc_n hi), ob_e q.cl, ob_e e1, if_pos rfl, ob_e q1.cl, ob_e (q1.valOf hN hc hp hf hpi), ob_e q1.cl, ob_e (q1.occ hN hc _)]
  rfl
theorem M_frequencyF (hN : 100000 ≤ gN E) (h : RX E w m th Q) (hG : GS (qS Q)) {a b : Int32} (ha : ¬ (cOK (qS Q) a ∧ dcOK (qS Q) a.toInt.toNat b)) : XM E w m 1 Q 0 (X13_frequency_f E m a b w.1) := by
  obtain ⟨g, q⟩ := h.q hG
  obtain ⟨w1, e1, F1, h1⟩ := h.lkN
  refine ⟨w1, ?_, F1, h1⟩
  unfold X13_frequency_f X13_frequency
  rw [ob_e q.cl, ob_e (isCodeN hN q ha), ob_e q.cl, ob_e e1, if_neg i10]
theorem M_columnCount (hN : 100000 ≤ gN E) (h : RX E w m th Q) (hG : GS (qS Q)) : XM E w m 0 Q (nI (qS Q).1) (X13_columnCount_f E m w.1) := by
  obtain ⟨w1, e1, F1, h1⟩ := h.t 0
  obtain ⟨g1, q1⟩ := h1.q hG
  refine ⟨w1, ?_, F1, h1⟩
  unfold X13_columnCount_f X13_columnCount
  rw [ob_e e1]
  rw [ob_e q1.r, ob_e q1.n0]
theorem M_rowCount (hN : 100000 ≤ gN E) (h : RX E w m th Q) (hG : GS (qS Q)) : XM E w m 0 Q (nI (tR (qS Q))) (X13_rowCount_f E m w.1) := by
  obtain ⟨w1, e1, F1, h1⟩ := h.t 0
  obtain ⟨g1, q1⟩ := h1.q hG
  refine ⟨w1, ?_, F1, h1⟩
  unfold X13_rowCount_f X13_rowCount
  rw [ob_e e1]
  rw [ob_e q1.r, ob_e q1.n1]
theorem M_conditionCount (hN : 100000 ≤ gN E) (h : RX E w m th Q) (hG : GS (qS Q)) : XM E w m 0 Q (nI (tK (qS Q))) (X13_conditionCount_f E m w.1) := by
  obtain ⟨w1, e1, F1, h1⟩ := h.t 0
  obtain ⟨g1, q1⟩ := h1.q hG
  refine ⟨w1, ?_, F1, h1⟩
  unfold X13_conditionCount_f X13_conditionCount
  rw [ob_e e1]
  rw [ob_e q1.r, ob_e q1.n2]
theorem M_packedBits (hN : 100000 ≤ gN E) (h : RX E w m th Q) (hG : GS (qS Q)) : XM E w m 0 Q (nI (gbits (qS Q))) (X13_packedBits_f E m w.1) := by
  obtain ⟨w1, e1, F1, h1⟩ := h.t 0
  obtain ⟨g1, q1⟩ := h1.q hG
  refine ⟨w1, ?_, F1, h1⟩
  unfold X13_packedBits_f X13_packedBits
  rw [ob_e e1]
  rw [ob_e q1.cl, ob_e (q1.bits hN)]
theorem M_compressionRatio (hN : 100000 ≤ gN E) (h : RX E w m th Q) (hG : GS (qS Q)) : XM E w m 0 Q (grat (qS Q)) (X13_compressionRatio_f E m w.1) := by
  obtain ⟨w1, e1, F1, h1⟩ := h.t 0
  obtain ⟨g1, q1⟩ := h1.q hG
  refine ⟨w1, ?_, F1, h1⟩
  unfold X13_compressionRatio_f X13_compressionRatio
  rw [ob_e e1]
  rw [ob_e q1.cl, ob_e (q1.bits hN)]
  exact q1.ratio hN
theorem M_strictestCondition (hN : 100000 ≤ gN E) (h : RX E w m th Q) (hG : GS (qS Q)) : XM E w m 0 Q (if tK (qS Q) = 0 then -1 else nI (gstr (qS Q) (tK (qS Q)))) (X13_strictestCondition_f E m w.1) := by
  obtain ⟨w1, e1, F1, h1⟩ := h.t 0
  obtain ⟨g1, q1⟩ := h1.q hG
  refine ⟨w1, ?_, F1, h1⟩
  unfold X13_strictestCondition_f X13_strictestCondition
  rw [ob_e e1]
  exact q1.strict hN
theorem M_selectedCount (hN : 100000 ≤ gN E) (h : RX E w m th Q) (hG : GS (qS Q)) : XM E w m 0 Q (nI (fb_ct (ssel (qS Q)) (tR (qS Q)))) (X13_selectedCount_f E m w.1) := by
  obtain ⟨w1, e1, F1, h1⟩ := h.t 0
  obtain ⟨g1, q1⟩ := h1.q hG
  refine ⟨w1, ?_, F1, h1⟩
  unfold X13_selectedCount_f X13_selectedCount
  rw [ob_e e1]
  rw [ob_e q1.cl, ob_e (q1.nsel hN)]
theorem M_selectedRow (hN : 100000 ≤ gN E) (h : RX E w m th Q) (hG : GS (qS Q)) (p : Int32) : XM E w m 0 Q (gplc (qS Q) p) (X13_selectedRow_f E m p w.1) := by
  obtain ⟨w1, e1, F1, h1⟩ := h.t 0
  obtain ⟨g1, q1⟩ := h1.q hG
  refine ⟨w1, ?_, F1, h1⟩
  unfold X13_selectedRow_f X13_selectedRow
  rw [ob_e e1]
  exact q1.srow hN p
theorem M_selectivity (hN : 100000 ≤ gN E) (h : RX E w m th Q) (hG : GS (qS Q)) : XM E w m 0 Q (gsely (qS Q)) (X13_selectivity_f E m w.1) := by
  obtain ⟨w1, e1, F1, h1⟩ := h.t 0
  obtain ⟨g1, q1⟩ := h1.q hG
  refine ⟨w1, ?_, F1, h1⟩
  unfold X13_selectivity_f X13_selectivity
  rw [ob_e e1]
  have hR := q1.R
  have hle := fb_ct_le (ssel (qS Q)) (tR (qS Q))
  unfold gsely
  rw [ob_e q1.r, ob_e q1.n1]
  by_cases h0 : tR (qS Q) = 0
  · rw [if_pos (by rw [h0]; decide), if_pos h0]
  · rw [if_neg (nI_ne0 (by omega) (by omega)), if_neg h0, ob_e q1.cl, ob_e (q1.nsel hN), ob_e q1.r, ob_e q1.n1, gfdiv_ii (by omega) (by omega) h0]
    rfl
theorem M_gap (hN : 100000 ≤ gN E) (h : RX E w m th Q) (hG : GS (qS Q)) : XM E w m 0 Q (0) (X13_gap_f E m w.1) := by
  obtain ⟨w1, e1, F1, h1⟩ := h.t 0
  obtain ⟨g1, q1⟩ := h1.q hG
  refine ⟨w1, ?_, F1, h1⟩
  unfold X13_gap_f X13_gap
  rw [ob_e e1]
  exact q1.gap hN
theorem M_undoableCount (h : RX E w m th Q) : XM E w m 0 Q (nI (qZ Q)) (X13_undoableCount_f E m w.1) := by
  obtain ⟨w1, e1, F1, h1⟩ := h.t 0
  have hx : gfI w1.1 m 11 9 = some (nI (qZ Q)) := by
    obtain ⟨fi, G, a1, h2⟩ := h1
    rw [← h2.1]
    exact gfI_o (x := fi 9) a1.1.2.2 rfl
  refine ⟨w1, ?_, F1, h1⟩
  unfold X13_undoableCount_f X13_undoableCount
  rw [ob_e e1, ob_e hx]
theorem M_errorCode (h : RX E w m th Q) : XM E w m 0 Q (qE Q) (X13_errorCode_f E m w.1) := by
  obtain ⟨w1, e1, F1, h1⟩ := h.t 0
  have hx : gfI w1.1 m 11 11 = some (qE Q) := by
    obtain ⟨fi, G, a1, h2⟩ := h1
    rw [← h2.2.2.1]
    exact gfI_o (x := fi 11) a1.1.2.2 rfl
  refine ⟨w1, ?_, F1, h1⟩
  unfold X13_errorCode_f X13_errorCode
  rw [ob_e e1, ob_e hx]
theorem M_errorOffset (h : RX E w m th Q) : XM E w m 0 Q (qF Q) (X13_errorOffset_f E m w.1) := by
  obtain ⟨w1, e1, F1, h1⟩ := h.t 0
  have hx : gfI w1.1 m 11 24 = some (qF Q) := by
    obtain ⟨fi, G, a1, h2⟩ := h1
    rw [← h2.2.2.2.2.2.2.1]
    exact gfI_o (x := fi 24) a1.1.2.2 rfl
  refine ⟨w1, ?_, F1, h1⟩
  unfold X13_errorOffset_f X13_errorOffset
  rw [ob_e e1, ob_e hx]
end MM
