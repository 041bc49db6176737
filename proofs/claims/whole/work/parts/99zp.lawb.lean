/-! pure: class and reference answer alike, call by call -/
theorem pLine_36 {S : gT} (hG : GS S) (r : Nat) (g : Nat → Int32) : (pLine S r (0, g)).1 ≤ 36 := by
  have h1 := pRw_n S r (0, g) S.1
  have h2 := hG.1
  have h3 := hG.2.1
  have h0 : ((0, g) : Nat × (Nat → Int32)).1 = 0 := rfl
  rw [h0, if_neg (by omega)] at h1
  unfold pLine
  split
  · show (pRw S r S.1 (0, g)).1 + 1 ≤ 36
    omega
  · omega
theorem ixL {a : Int32} {n : Nat} (h : lOK n a) : ∃ L, L ≤ n ∧ a = nI L := by
  have h : 0 ≤ a.toInt ∧ a.toInt ≤ n := h
  have hr := fb_rng a
  refine ⟨a.toInt.toNat, by omega, ?_⟩
  apply Int32.toInt_inj.mp
  rw [nI_toInt (by omega)]
  omega
theorem rnS_q {Q : gQ} (hG : GQ Q) {L s' : Nat} {q : Nat × (Nat → gCmd)} (hp : pScr (qB Q) L (qS Q).1 20 (tS (qB Q) L 0) = .inr (q, s')) : GQ ((rnS q.2 q.1 0 (qS Q)).2, (qC (qErr (qI Q 0 (qB Q)) (0, -1)) (qS Q)).2) := by
  obtain ⟨v1, v2⟩ := pScr_v hG.1.1 20 _ hp
  exact (hG.err (0, -1)).chg (rnS_ok v2 q.1 0 (qS Q) (Nat.zero_add _) hG.1 rfl)
section AG
variable {E : gE} {w : gWd} {l1 l2 : Nat} {ad : Nat → Nat} {Q : gQ}
theorem KX_addLess {v : (Nat ⊕ Int32) × gS} {a b : Int32} (h : gcl w.1 l1 10 = some ()) (e : X12_addCondition_f E l1 a b (-1) w.1 = some v) : X12_addLess_f E l1 a b w.1 = some v := by
  unfold X12_addLess_f X12_addLess
  rw [ob_e h, ob_e e]
  obtain ⟨s, σ⟩ := v
  cases s with
  | inl k => rfl
  | inr k => rfl
theorem KX_addEqual {v : (Nat ⊕ Int32) × gS} {a b : Int32} (h : gcl w.1 l1 10 = some ()) (e : X12_addCondition_f E l1 a b 0 w.1 = some v) : X12_addEqual_f E l1 a b w.1 = some v := by
  unfold X12_addEqual_f X12_addEqual
  rw [ob_e h, ob_e e]
  obtain ⟨s, σ⟩ := v
  cases s with
  | inl k => rfl
  | inr k => rfl
theorem KX_addGreater {v : (Nat ⊕ Int32) × gS} {a b : Int32} (h : gcl w.1 l1 10 = some ()) (e : X12_addCondition_f E l1 a b 1 w.1 = some v) : X12_addGreater_f E l1 a b w.1 = some v := by
  unfold X12_addGreater_f X12_addGreater
  rw [ob_e h, ob_e e]
  obtain ⟨s, σ⟩ := v
  cases s with
  | inl k => rfl
  | inr k => rfl
theorem A_dictionarySize (hO : gOK E) (hN : 100000 ≤ gN E) (hK : RK E w l1 ad Q) (hG : GQ Q) (hR : RM E w 1) (hu : ∀ i, qB Q i < 256) (a : Int32) : AGR E w l1 l2 ad Q (fun k9 σ9 => if k9 = 0 then some ((1 : Int32), σ9) else none) (X12_dictionarySize_f E l1 a w.1) (fun σ => X13_dictionarySize_f E l2 a σ) := by
  by_cases h : cOK (qS Q) a
  · obtain ⟨c, hc, rfl, -⟩ := ixI h
    exact Or.inl ⟨_, Q, hG, K_dictionarySize hN hK hG hc, fun w2 th h2 => M_dictionarySize hN h2 hG.1 hc⟩
  · exact Or.inr ⟨0, 1, _, by decide, fun _ => rfl, K_dictionarySizeF hK hG hR h, fun w2 th h2 => M_dictionarySizeF h2 hG.1 h⟩
theorem A_staleCount (hO : gOK E) (hN : 100000 ≤ gN E) (hK : RK E w l1 ad Q) (hG : GQ Q) (hR : RM E w 1) (hu : ∀ i, qB Q i < 256) (a : Int32) : AGR E w l1 l2 ad Q (fun k9 σ9 => if k9 = 0 then some ((1 : Int32), σ9) else none) (X12_staleCount_f E l1 a w.1) (fun σ => X13_staleCount_f E l2 a σ) := by
  by_cases h : cOK (qS Q) a
  · obtain ⟨c, hc, rfl, -⟩ := ixI h
    exact Or.inl ⟨_, Q, hG, K_staleCount hN hK hG hR hc, fun w2 th h2 => M_staleCount hN h2 hG.1 hc⟩
  · exact Or.inr ⟨0, 1, _, by decide, fun _ => rfl, K_staleCountF hK hG hR h, fun w2 th h2 => M_staleCountF h2 hG.1 h⟩
theorem A_commonestCode (hO : gOK E) (hN : 100000 ≤ gN E) (hK : RK E w l1 ad Q) (hG : GQ Q) (hR : RM E w 1) (hu : ∀ i, qB Q i < 256) (a : Int32) : AGR E w l1 l2 ad Q (fun k9 σ9 => if k9 = 0 then some ((1 : Int32), σ9) else none) (X12_commonestCode_f E l1 a w.1) (fun σ => X13_commonestCode_f E l2 a σ) := by
  by_cases h : cOK (qS Q) a
  · obtain ⟨c, hc, rfl, -⟩ := ixI h
    exact Or.inl ⟨_, Q, hG, K_commonestCode hN hK hG hc, fun w2 th h2 => M_commonestCode hN h2 hG.1 hc⟩
  · exact Or.inr ⟨0, 1, _, by decide, fun _ => rfl, K_commonestCodeF hK hG hR h, fun w2 th h2 => M_commonestCodeF h2 hG.1 h⟩
theorem A_bitWidth (hO : gOK E) (hN : 100000 ≤ gN E) (hK : RK E w l1 ad Q) (hG : GQ Q) (hR : RM E w 1) (hu : ∀ i, qB Q i < 256) (a : Int32) : AGR E w l1 l2 ad Q (fun k9 σ9 => if k9 = 0 then some ((1 : Int32), σ9) else none) (X12_bitWidth_f E l1 a w.1) (fun σ => X13_bitWidth_f E l2 a σ) := by
  by_cases h : cOK (qS Q) a
  · obtain ⟨c, hc, rfl, -⟩ := ixI h
    exact Or.inl ⟨_, Q, hG, K_bitWidth hN hK hG hc, fun w2 th h2 => M_bitWidth hN h2 hG.1 hc⟩
  · exact Or.inr ⟨0, 1, _, by decide, fun _ => rfl, K_bitWidthF hK hG hR h, fun w2 th h2 => M_bitWidthF h2 hG.1 h⟩
theorem A_wordCount (hO : gOK E) (hN : 100000 ≤ gN E) (hK : RK E w l1 ad Q) (hG : GQ Q) (hR : RM E w 1) (hu : ∀ i, qB Q i < 256) (a : Int32) : AGR E w l1 l2 ad Q (fun k9 σ9 => if k9 = 0 then some ((1 : Int32), σ9) else none) (X12_wordCount_f E l1 a w.1) (fun σ => X13_wordCount_f E l2 a σ) := by
  by_cases h : cOK (qS Q) a
  · obtain ⟨c, hc, rfl, -⟩ := ixI h
    exact Or.inl ⟨_, Q, hG, K_wordCount hN hK hG hc, fun w2 th h2 => M_wordCount hN h2 hG.1 hc⟩
  · exact Or.inr ⟨0, 1, _, by decide, fun _ => rfl, K_wordCountF hK hG hR h, fun w2 th h2 => M_wordCountF h2 hG.1 h⟩
theorem A_runCount (hO : gOK E) (hN : 100000 ≤ gN E) (hK : RK E w l1 ad Q) (hG : GQ Q) (hR : RM E w 1) (hu : ∀ i, qB Q i < 256) (a : Int32) : AGR E w l1 l2 ad Q (fun k9 σ9 => if k9 = 0 then some ((1 : Int32), σ9) else none) (X12_runCount_f E l1 a w.1) (fun σ => X13_runCount_f E l2 a σ) := by
  by_cases h : cOK (qS Q) a
  · obtain ⟨c, hc, rfl, -⟩ := ixI h
    exact Or.inl ⟨_, Q, hG, K_runCount hN hK hG hc, fun w2 th h2 => M_runCount hN h2 hG.1 hc⟩
  · exact Or.inr ⟨0, 1, _, by decide, fun _ => rfl, K_runCountF hK hG hR h, fun w2 th h2 => M_runCountF h2 hG.1 h⟩
theorem A_longestRun (hO : gOK E) (hN : 100000 ≤ gN E) (hK : RK E w l1 ad Q) (hG : GQ Q) (hR : RM E w 1) (hu : ∀ i, qB Q i < 256) (a : Int32) : AGR E w l1 l2 ad Q (fun k9 σ9 => if k9 = 0 then some ((1 : Int32), σ9) else none) (X12_longestRun_f E l1 a w.1) (fun σ => X13_longestRun_f E l2 a σ) := by
  by_cases h : cOK (qS Q) a
  · obtain ⟨c, hc, rfl, -⟩ := ixI h
    exact Or.inl ⟨_, Q, hG, K_longestRun hN hK hG hc, fun w2 th h2 => M_longestRun hN h2 hG.1 hc⟩
  · exact Or.inr ⟨0, 1, _, by decide, fun _ => rfl, K_longestRunF hK hG hR h, fun w2 th h2 => M_longestRunF h2 hG.1 h⟩
theorem A_bitWidthCompacted (hO : gOK E) (hN : 100000 ≤ gN E) (hK : RK E w l1 ad Q) (hG : GQ Q) (hR : RM E w 1) (hu : ∀ i, qB Q i < 256) (a : Int32) : AGR E w l1 l2 ad Q (fun k9 σ9 => if k9 = 0 then some ((1 : Int32), σ9) else none) (X12_bitWidthCompacted_f E l1 a w.1) (fun σ => X13_bitWidthCompacted_f E l2 a σ) := by
  by_cases h : cOK (qS Q) a
  · obtain ⟨c, hc, rfl, -⟩ := ixI h
    exact Or.inl ⟨_, Q, hG, K_bitWidthCompacted hN hK hG hR hc, fun w2 th h2 => M_bitWidthCompacted hN h2 hG.1 hc⟩
  · exact Or.inr ⟨0, 1, _, by decide, fun _ => rfl, K_bitWidthCompactedF hK hG hR h, fun w2 th h2 => M_bitWidthCompactedF h2 hG.1 h⟩
theorem A_runsIfSorted (hO : gOK E) (hN : 100000 ≤ gN E) (hK : RK E w l1 ad Q) (hG : GQ Q) (hR : RM E w 1) (hu : ∀ i, qB Q i < 256) (a : Int32) : AGR E w l1 l2 ad Q (fun k9 σ9 => if k9 = 0 then some ((1 : Int32), σ9) else none) (X12_runsIfSorted_f E l1 a w.1) (fun σ => X13_runsIfSorted_f E l2 a σ) := by
  by_cases h : cOK (qS Q) a
  · obtain ⟨c, hc, rfl, -⟩ := ixI h
    exact Or.inl ⟨_, Q, hG, K_runsIfSorted hN hK hG hc, fun w2 th h2 => M_runsIfSorted hN h2 hG.1 hc⟩
  · exact Or.inr ⟨0, 1, _, by decide, fun _ => rfl, K_runsIfSortedF hK hG hR h, fun w2 th h2 => M_runsIfSortedF h2 hG.1 h⟩
theorem A_distinctSelected (hO : gOK E) (hN : 100000 ≤ gN E) (hK : RK E w l1 ad Q) (hG : GQ Q) (hR : RM E w 1) (hu : ∀ i, qB Q i < 256) (a : Int32) : AGR E w l1 l2 ad Q (fun k9 σ9 => if k9 = 0 then some ((1 : Int32), σ9) else none) (X12_distinctSelected_f E l1 a w.1) (fun σ => X13_distinctSelected_f E l2 a σ) := by
  by_cases h : cOK (qS Q) a
  · obtain ⟨c, hc, rfl, -⟩ := ixI h
    exact Or.inl ⟨_, Q, hG, K_distinctSelected hN hK hG hR hc, fun w2 th h2 => M_distinctSelected hN h2 hG.1 hc⟩
  · exact Or.inr ⟨0, 1, _, by decide, fun _ => rfl, K_distinctSelectedF hK hG hR h, fun w2 th h2 => M_distinctSelectedF h2 hG.1 h⟩
theorem A_sumSelected (hO : gOK E) (hN : 100000 ≤ gN E) (hK : RK E w l1 ad Q) (hG : GQ Q) (hR : RM E w 1) (hu : ∀ i, qB Q i < 256) (a : Int32) : AGR E w l1 l2 ad Q (fun k9 σ9 => if k9 = 0 then some ((1 : Int32), σ9) else none) (X12_sumSelected_f E l1 a w.1) (fun σ => X13_sumSelected_f E l2 a σ) := by
  by_cases h : cOK (qS Q) a
  · obtain ⟨c, hc, rfl, -⟩ := ixI h
    exact Or.inl ⟨_, Q, hG, K_sumSelected hN hK hG hc, fun w2 th h2 => M_sumSelected hN h2 hG.1 hc⟩
  · exact Or.inr ⟨0, 1, _, by decide, fun _ => rfl, K_sumSelectedF hK hG hR h, fun w2 th h2 => M_sumSelectedF h2 hG.1 h⟩
theorem A_meanSelected (hO : gOK E) (hN : 100000 ≤ gN E) (hK : RK E w l1 ad Q) (hG : GQ Q) (hR : RM E w 1) (hu : ∀ i, qB Q i < 256) (a : Int32) : AGR E w l1 l2 ad Q (fun k9 σ9 => if k9 = 0 then some ((1 : Int32), σ9) else none) (X12_meanSelected_f E l1 a w.1) (fun σ => X13_meanSelected_f E l2 a σ) := by
  by_cases h : cOK (qS Q) a
  · obtain ⟨c, hc, rfl, -⟩ := ixI h
    exact Or.inl ⟨_, Q, hG, K_meanSelected hN hK hG hc, fun w2 th h2 => M_meanSelected hN h2 hG.1 hc⟩
  · exact Or.inr ⟨0, 1, _, by decide, fun _ => rfl, K_meanSelectedF hK hG hR h, fun w2 th h2 => M_meanSelectedF h2 hG.1 h⟩
theorem A_compact (hO : gOK E) (hN : 100000 ≤ gN E) (hK : RK E w l1 ad Q) (hG : GQ Q) (hR : RM E w 1) (hu : ∀ i, qB Q i < 256) (a : Int32) : AGR E w l1 l2 ad Q (fun k9 σ9 => if k9 = 0 then some ((1 : Int32), σ9) else none) (X12_compact_f E l1 a w.1) (fun σ => X13_compact_f E l2 a σ) := by
  by_cases h : cOK (qS Q) a
  · obtain ⟨c, hc, rfl, -⟩ := ixI h
    exact Or.inl ⟨_, _, hG.chg (hG.1.cmp hc).1, K_compact hN hK hG hR hc, fun w2 th h2 => M_compact hN h2 hG hc⟩
  · exact Or.inr ⟨0, 1, _, by decide, fun _ => rfl, K_compactF hK hG hR h, fun w2 th h2 => M_compactF h2 hG.1 h⟩
theorem A_isSorted (hO : gOK E) (hN : 100000 ≤ gN E) (hK : RK E w l1 ad Q) (hG : GQ Q) (hR : RM E w 1) (hu : ∀ i, qB Q i < 256) (a : Int32) : AGR E w l1 l2 ad Q (fun k9 σ9 => if k9 = 0 then some ((1 : Int32), σ9) else none) (X12_isSorted_f E l1 a w.1) (fun σ => X13_isSorted_f E l2 a σ) := by
  by_cases h : cOK (qS Q) a
  · obtain ⟨c, hc, rfl, -⟩ := ixI h
    obtain ⟨x, hb, hx⟩ := K_isSorted hN hK hG hc
    refine Or.inl ⟨x, Q, hG, hx, fun w2 th h2 => ?_⟩
    obtain ⟨x2, hb2, hx2⟩ := M_isSorted hN h2 hG.1 hc
    have e : x2 = x := by
      rcases hb with ⟨y1, y⟩ | ⟨y1, y⟩
      · rcases hb2 with ⟨z1, z⟩ | ⟨z1, z⟩
        · rw [y1, z1]
        · exact absurd y z
      · rcases hb2 with ⟨z1, z⟩ | ⟨z1, z⟩
        · exact absurd z y
        · rw [y1, z1]
    rw [← e]
    exact hx2
  · exact Or.inr ⟨0, 1, _, by decide, fun _ => rfl, K_isSortedF hK hG hR h, fun w2 th h2 => M_isSortedF h2 hG.1 h⟩
theorem A_findCode (hO : gOK E) (hN : 100000 ≤ gN E) (hK : RK E w l1 ad Q) (hG : GQ Q) (hR : RM E w 1) (hu : ∀ i, qB Q i < 256) (a v : Int32) : AGR E w l1 l2 ad Q (fun k9 σ9 => if k9 = 0 then some ((1 : Int32), σ9) else none) (X12_findCode_f E l1 a v w.1) (fun σ => X13_findCode_f E l2 a v σ) := by
  by_cases h : cOK (qS Q) a
  · obtain ⟨c, hc, rfl, -⟩ := ixI h
    exact Or.inl ⟨_, Q, hG, K_findCode hN hK hG hc v, fun w2 th h2 => M_findCode hN h2 hG.1 hc v⟩
  · exact Or.inr ⟨0, 1, _, by decide, fun _ => rfl, K_findCodeF hK hG hR v h, fun w2 th h2 => M_findCodeF h2 hG.1 v h⟩
theorem A_isSelected (hO : gOK E) (hN : 100000 ≤ gN E) (hK : RK E w l1 ad Q) (hG : GQ Q) (hR : RM E w 1) (hu : ∀ i, qB Q i < 256) (a : Int32) : AGR E w l1 l2 ad Q (fun k9 σ9 => if k9 = 0 then some ((1 : Int32), σ9) else none) (X12_isSelected_f E l1 a w.1) (fun σ => X13_isSelected_f E l2 a σ) := by
  by_cases h : rOK (qS Q) a
  · obtain ⟨r, hr, rfl, -⟩ := ixI h
    exact Or.inl ⟨_, Q, hG, K_isSelected hN hK hG hr, fun w2 th h2 => M_isSelected hN h2 hG.1 hr⟩
  · exact Or.inr ⟨0, 1, _, by decide, fun _ => rfl, K_isSelectedF hK hR h, fun w2 th h2 => M_isSelectedF h2 hG.1 h⟩
theorem A_rejectedBy (hO : gOK E) (hN : 100000 ≤ gN E) (hK : RK E w l1 ad Q) (hG : GQ Q) (hR : RM E w 1) (hu : ∀ i, qB Q i < 256) (a : Int32) : AGR E w l1 l2 ad Q (fun k9 σ9 => if k9 = 0 then some ((1 : Int32), σ9) else none) (X12_rejectedBy_f E l1 a w.1) (fun σ => X13_rejectedBy_f E l2 a σ) := by
  by_cases h : rOK (qS Q) a
  · obtain ⟨r, hr, rfl, -⟩ := ixI h
    exact Or.inl ⟨_, Q, hG, K_rejectedBy hN hK hG hr, fun w2 th h2 => M_rejectedBy hN h2 hG.1 hr⟩
  · exact Or.inr ⟨0, 1, _, by decide, fun _ => rfl, K_rejectedByF hK hR h, fun w2 th h2 => M_rejectedByF h2 hG.1 h⟩
theorem A_removeRow (hO : gOK E) (hN : 100000 ≤ gN E) (hK : RK E w l1 ad Q) (hG : GQ Q) (hR : RM E w 1) (hu : ∀ i, qB Q i < 256) (a : Int32) : AGR E w l1 l2 ad Q (fun k9 σ9 => if k9 = 0 then some ((1 : Int32), σ9) else none) (X12_removeRow_f E l1 a w.1) (fun σ => X13_removeRow_f E l2 a σ) := by
  by_cases h : rOK (qS Q) a
  · obtain ⟨r, hr, rfl, -⟩ := ixI h
    exact Or.inl ⟨_, _, hG.chg (hG.1.row hr).1, K_removeRow hN hK hG hR hr, fun w2 th h2 => M_removeRow hN h2 hG hr⟩
  · exact Or.inr ⟨0, 1, _, by decide, fun _ => rfl, K_removeRowF hK hR h, fun w2 th h2 => M_removeRowF h2 hG.1 h⟩
theorem A_writeRow (hO : gOK E) (hN : 100000 ≤ gN E) (hK : RK E w l1 ad Q) (hG : GQ Q) (hR : RM E w 1) (hu : ∀ i, qB Q i < 256) (a : Int32) : AGR E w l1 l2 ad Q (fun k9 σ9 => if k9 = 0 then some ((1 : Int32), σ9) else none) (X12_writeRow_f E l1 a w.1) (fun σ => X13_writeRow_f E l2 a σ) := by
  by_cases h : rOK (qS Q) a
  · obtain ⟨r, hr, rfl, -⟩ := ixI h
    exact Or.inl ⟨_, _, hG.out (pLine_36 hG.1 r _), K_writeRow hN hK hG hr, fun w2 th h2 => M_writeRow hN h2 hG.1 hr⟩
  · exact Or.inr ⟨0, 1, _, by decide, fun _ => rfl, K_writeRowF hK hR h, fun w2 th h2 => M_writeRowF h2 hG.1 h⟩
theorem A_conditionColumn (hO : gOK E) (hN : 100000 ≤ gN E) (hK : RK E w l1 ad Q) (hG : GQ Q) (hR : RM E w 1) (hu : ∀ i, qB Q i < 256) (a : Int32) : AGR E w l1 l2 ad Q (fun k9 σ9 => if k9 = 0 then some ((1 : Int32), σ9) else none) (X12_conditionColumn_f E l1 a w.1) (fun σ => X13_conditionColumn_f E l2 a σ) := by
  by_cases h : kOK (qS Q) a
  · obtain ⟨i, hi, rfl, -⟩ := ixI h
    exact Or.inl ⟨_, Q, hG, K_conditionColumn hN hK hG hi, fun w2 th h2 => M_conditionColumn hN h2 hG.1 hi⟩
  · exact Or.inr ⟨0, 1, _, by decide, fun _ => rfl, K_conditionColumnF hK hR h, fun w2 th h2 => M_conditionColumnF h2 hG.1 h⟩
theorem A_conditionValue (hO : gOK E) (hN : 100000 ≤ gN E) (hK : RK E w l1 ad Q) (hG : GQ Q) (hR : RM E w 1) (hu : ∀ i, qB Q i < 256) (a : Int32) : AGR E w l1 l2 ad Q (fun k9 σ9 => if k9 = 0 then some ((1 : Int32), σ9) else none) (X12_conditionValue_f E l1 a w.1) (fun σ => X13_conditionValue_f E l2 a σ) := by
  by_cases h : kOK (qS Q) a
  · obtain ⟨i, hi, rfl, -⟩ := ixI h
    exact Or.inl ⟨_, Q, hG, K_conditionValue hN hK hG hi, fun w2 th h2 => M_conditionValue hN h2 hG.1 hi⟩
  · exact Or.inr ⟨0, 1, _, by decide, fun _ => rfl, K_conditionValueF hK hR h, fun w2 th h2 => M_conditionValueF h2 hG.1 h⟩
theorem A_conditionDirection (hO : gOK E) (hN : 100000 ≤ gN E) (hK : RK E w l1 ad Q) (hG : GQ Q) (hR : RM E w 1) (hu : ∀ i, qB Q i < 256) (a : Int32) : AGR E w l1 l2 ad Q (fun k9 σ9 => if k9 = 0 then some ((1 : Int32), σ9) else none) (X12_conditionDirection_f E l1 a w.1) (fun σ => X13_conditionDirection_f E l2 a σ) := by
  by_cases h : kOK (qS Q) a
  · obtain ⟨i, hi, rfl, -⟩ := ixI h
    exact Or.inl ⟨_, Q, hG, K_conditionDirection hN hK hG hi, fun w2 th h2 => M_conditionDirection hN h2 hG.1 hi⟩
  · exact Or.inr ⟨0, 1, _, by decide, fun _ => rfl, K_conditionDirectionF hK hR h, fun w2 th h2 => M_conditionDirectionF h2 hG.1 h⟩
theorem A_lowerCode (hO : gOK E) (hN : 100000 ≤ gN E) (hK : RK E w l1 ad Q) (hG : GQ Q) (hR : RM E w 1) (hu : ∀ i, qB Q i < 256) (a : Int32) : AGR E w l1 l2 ad Q (fun k9 σ9 => if k9 = 0 then some ((1 : Int32), σ9) else none) (X12_lowerCode_f E l1 a w.1) (fun σ => X13_lowerCode_f E l2 a σ) := by
  by_cases h : kOK (qS Q) a
  · obtain ⟨i, hi, rfl, -⟩ := ixI h
    exact Or.inl ⟨_, Q, hG, K_lowerCode hN hK hG hi, fun w2 th h2 => M_lowerCode hN h2 hG.1 hi⟩
  · exact Or.inr ⟨0, 1, _, by decide, fun _ => rfl, K_lowerCodeF hK hR h, fun w2 th h2 => M_lowerCodeF h2 hG.1 h⟩
theorem A_upperCode (hO : gOK E) (hN : 100000 ≤ gN E) (hK : RK E w l1 ad Q) (hG : GQ Q) (hR : RM E w 1) (hu : ∀ i, qB Q i < 256) (a : Int32) : AGR E w l1 l2 ad Q (fun k9 σ9 => if k9 = 0 then some ((1 : Int32), σ9) else none) (X12_upperCode_f E l1 a w.1) (fun σ => X13_upperCode_f E l2 a σ) := by
  by_cases h : kOK (qS Q) a
  · obtain ⟨i, hi, rfl, -⟩ := ixI h
    exact Or.inl ⟨_, Q, hG, K_upperCode hN hK hG hi, fun w2 th h2 => M_upperCode hN h2 hG.1 hi⟩
  · exact Or.inr ⟨0, 1, _, by decide, fun _ => rfl, K_upperCodeF hK hR h, fun w2 th h2 => M_upperCodeF h2 hG.1 h⟩
theorem A_matches (hO : gOK E) (hN : 100000 ≤ gN E) (hK : RK E w l1 ad Q) (hG : GQ Q) (hR : RM E w 1) (hu : ∀ i, qB Q i < 256) (a : Int32) : AGR E w l1 l2 ad Q (fun k9 σ9 => if k9 = 0 then some ((1 : Int32), σ9) else none) (X12_matches_f E l1 a w.1) (fun σ => X13_matches_f E l2 a σ) := by
  by_cases h : kOK (qS Q) a
  · obtain ⟨i, hi, rfl, -⟩ := ixI h
    exact Or.inl ⟨_, Q, hG, K_matches hN hK hG hi, fun w2 th h2 => M_matches hN h2 hG.1 hi⟩
  · exact Or.inr ⟨0, 1, _, by decide, fun _ => rfl, K_matchesF hK hR h, fun w2 th h2 => M_matchesF h2 hG.1 h⟩
theorem A_removeCondition (hO : gOK E) (hN : 100000 ≤ gN E) (hK : RK E w l1 ad Q) (hG : GQ Q) (hR : RM E w 1) (hu : ∀ i, qB Q i < 256) (a : Int32) : AGR E w l1 l2 ad Q (fun k9 σ9 => if k9 = 0 then some ((1 : Int32), σ9) else none) (X12_removeCondition_f E l1 a w.1) (fun σ => X13_removeCondition_f E l2 a σ) := by
  by_cases h : kOK (qS Q) a
  · obtain ⟨i, hi, rfl, -⟩ := ixI h
    exact Or.inl ⟨_, _, hG.chg (hG.1.rem hi), K_removeCondition hN hK hG hR hi, fun w2 th h2 => M_removeCondition hN h2 hG hi⟩
  · exact Or.inr ⟨0, 1, _, by decide, fun _ => rfl, K_removeConditionF hK hR h, fun w2 th h2 => M_removeConditionF h2 hG.1 h⟩
theorem A_value (hO : gOK E) (hN : 100000 ≤ gN E) (hK : RK E w l1 ad Q) (hG : GQ Q) (hR : RM E w 1) (hu : ∀ i, qB Q i < 256) (a b : Int32) : AGR E w l1 l2 ad Q (fun k9 σ9 => if k9 = 0 then some ((1 : Int32), σ9) else none) (X12_value_f E l1 a b w.1) (fun σ => X13_value_f E l2 a b σ) := by
  by_cases h : cOK (qS Q) a ∧ rOK (qS Q) b
  · obtain ⟨c, hc, rfl, -⟩ := ixI h.1
    obtain ⟨r, hr, rfl, -⟩ := ixI h.2
    exact Or.inl ⟨_, Q, hG, K_value hN hK hG hc hr, fun w2 th h2 => M_value hN h2 hG.1 hc hr⟩
  · exact Or.inr ⟨0, 1, _, by decide, fun _ => rfl, K_valueF hK hG hR h, fun w2 th h2 => M_valueF h2 hG.1 h⟩
theorem A_code (hO : gOK E) (hN : 100000 ≤ gN E) (hK : RK E w l1 ad Q) (hG : GQ Q) (hR : RM E w 1) (hu : ∀ i, qB Q i < 256) (a b : Int32) : AGR E w l1 l2 ad Q (fun k9 σ9 => if k9 = 0 then some ((1 : Int32), σ9) else none) (X12_code_f E l1 a b w.1) (fun σ => X13_code_f E l2 a b σ) := by
  by_cases h : cOK (qS Q) a ∧ rOK (qS Q) b
  · obtain ⟨c, hc, rfl, -⟩ := ixI h.1
    obtain ⟨r, hr, rfl, -⟩ := ixI h.2
    exact Or.inl ⟨_, Q, hG, K_code hN hK hG hc hr, fun w2 th h2 => M_code hN h2 hG.1 hc hr⟩
  · exact Or.inr ⟨0, 1, _, by decide, fun _ => rfl, K_codeF hK hG hR h, fun w2 th h2 => M_codeF h2 hG.1 h⟩
theorem A_dictionaryValue (hO : gOK E) (hN : 100000 ≤ gN E) (hK : RK E w l1 ad Q) (hG : GQ Q) (hR : RM E w 1) (hu : ∀ i, qB Q i < 256) (a b : Int32) : AGR E w l1 l2 ad Q (fun k9 σ9 => if k9 = 0 then some ((1 : Int32), σ9) else none) (X12_dictionaryValue_f E l1 a b w.1) (fun σ => X13_dictionaryValue_f E l2 a b σ) := by
  by_cases h : cOK (qS Q) a ∧ dcOK (qS Q) a.toInt.toNat b
  · obtain ⟨h1, h3⟩ := h
    obtain ⟨c, hc, rfl, hb⟩ := ixI h1
    have he : (nI c).toInt.toNat = c := by rw [nI_toInt hb]; omega
    rw [he] at h3
    obtain ⟨i, hi, rfl, -⟩ := ixI h3
    obtain ⟨p, p1, p2, p3, hx⟩ := K_dictionaryValue hN hK hG hc hi
    exact Or.inl ⟨_, Q, hG, hx, fun w2 th h2 => M_dictionaryValue hN h2 hG.1 hc hi p1 p2 p3⟩
  · exact Or.inr ⟨0, 1, _, by decide, fun _ => rfl, K_dictionaryValueF hK hG hR h, fun w2 th h2 => M_dictionaryValueF hN h2 hG.1 h⟩
theorem A_frequency (hO : gOK E) (hN : 100000 ≤ gN E) (hK : RK E w l1 ad Q) (hG : GQ Q) (hR : RM E w 1) (hu : ∀ i, qB Q i < 256) (a b : Int32) : AGR E w l1 l2 ad Q (fun k9 σ9 => if k9 = 0 then some ((1 : Int32), σ9) else none) (X12_frequency_f E l1 a b w.1) (fun σ => X13_frequency_f E l2 a b σ) := by
  by_cases h : cOK (qS Q) a ∧ dcOK (qS Q) a.toInt.toNat b
  · obtain ⟨h1, h3⟩ := h
    obtain ⟨c, hc, rfl, hb⟩ := ixI h1
    have he : (nI c).toInt.toNat = c := by rw [nI_toInt hb]; omega
    rw [he] at h3
    obtain ⟨i, hi, rfl, -⟩ := ixI h3
    obtain ⟨p, p1, p2, p3, hx⟩ := K_frequency hN hK hG hc hi
    exact Or.inl ⟨_, Q, hG, hx, fun w2 th h2 => M_frequency hN h2 hG.1 hc hi p1 p2 p3⟩
  · exact Or.inr ⟨0, 1, _, by decide, fun _ => rfl, K_frequencyF hK hG hR h, fun w2 th h2 => M_frequencyF hN h2 hG.1 h⟩
theorem A_packedWord (hO : gOK E) (hN : 100000 ≤ gN E) (hK : RK E w l1 ad Q) (hG : GQ Q) (hR : RM E w 1) (hu : ∀ i, qB Q i < 256) (a b : Int32) : AGR E w l1 l2 ad Q (fun k9 σ9 => if k9 = 0 then some ((1 : Int32), σ9) else none) (X12_packedWord_f E l1 a b w.1) (fun σ => X13_packedWord_f E l2 a b σ) := by
  by_cases h : cOK (qS Q) a ∧ 0 ≤ b.toInt ∧ b.toInt < ((tR (qS Q) * gwid (dsz (tD (qS Q) a.toInt.toNat)) + 63) / 64 : Nat)
  · obtain ⟨h1, h3⟩ := h
    obtain ⟨c, hc, rfl, hb⟩ := ixI h1
    have he : (nI c).toInt.toNat = c := by rw [nI_toInt hb]; omega
    rw [he] at h3
    obtain ⟨q, hq, rfl, -⟩ := ixI h3
    obtain ⟨W, hW, hx⟩ := K_packedWord hN hK hG hc hq
    exact Or.inl ⟨_, Q, hG, hx, fun w2 th h2 => M_packedWord hN h2 hG.1 hc hq hW⟩
  · exact Or.inr ⟨0, 1, _, by decide, fun _ => rfl, K_packedWordF hN hK hG hR h, fun w2 th h2 => M_packedWordF hN h2 hG.1 h⟩
theorem A_smallestSelected (hO : gOK E) (hN : 100000 ≤ gN E) (hK : RK E w l1 ad Q) (hG : GQ Q) (hR : RM E w 1) (hu : ∀ i, qB Q i < 256) (a : Int32) : AGR E w l1 l2 ad Q (fun k9 σ9 => if k9 = 0 then some ((1 : Int32), σ9) else if k9 = 2 then some ((2 : Int32), σ9) else none) (X12_smallestSelected_f E l1 a w.1) (fun σ => X13_smallestSelected_f E l2 a σ) := by
  by_cases h : cOK (qS Q) a
  · obtain ⟨c, hc, rfl, -⟩ := ixI h
    by_cases h0 : fb_ct (ssel (qS Q)) (tR (qS Q)) = 0
    · exact Or.inr ⟨2, 2, _, by decide, fun _ => rfl, K_smallestSelectedE hN hK hG hR hc h0, fun w2 th h2 => M_smallestSelectedE hN h2 hG.1 hc h0⟩
    · obtain ⟨p, hp, p1, p2, hx⟩ := K_smallestSelected hN hK hG hR hc h0
      exact Or.inl ⟨_, Q, hG, hx, fun w2 th h2 => M_smallestSelected hN h2 hG.1 hc h0 hp p1 p2⟩
  · exact Or.inr ⟨0, 1, _, by decide, fun _ => rfl, K_smallestSelectedF hK hG hR h, fun w2 th h2 => M_smallestSelectedF hN h2 hG.1 h⟩
theorem A_greatestSelected (hO : gOK E) (hN : 100000 ≤ gN E) (hK : RK E w l1 ad Q) (hG : GQ Q) (hR : RM E w 1) (hu : ∀ i, qB Q i < 256) (a : Int32) : AGR E w l1 l2 ad Q (fun k9 σ9 => if k9 = 0 then some ((1 : Int32), σ9) else if k9 = 2 then some ((2 : Int32), σ9) else none) (X12_greatestSelected_f E l1 a w.1) (fun σ => X13_greatestSelected_f E l2 a σ) := by
  by_cases h : cOK (qS Q) a
  · obtain ⟨c, hc, rfl, -⟩ := ixI h
    by_cases h0 : fb_ct (ssel (qS Q)) (tR (qS Q)) = 0
    · exact Or.inr ⟨2, 2, _, by decide, fun _ => rfl, K_greatestSelectedE hN hK hG hR hc h0, fun w2 th h2 => M_greatestSelectedE hN h2 hG.1 hc h0⟩
    · obtain ⟨p, hp, p1, p2, hx⟩ := K_greatestSelected hN hK hG hR hc h0
      exact Or.inl ⟨_, Q, hG, hx, fun w2 th h2 => M_greatestSelected hN h2 hG.1 hc h0 hp p1 p2⟩
  · exact Or.inr ⟨0, 1, _, by decide, fun _ => rfl, K_greatestSelectedF hK hG hR h, fun w2 th h2 => M_greatestSelectedF hN h2 hG.1 h⟩
theorem A_bitWidthWith (hO : gOK E) (hN : 100000 ≤ gN E) (hK : RK E w l1 ad Q) (hG : GQ Q) (hR : RM E w 1) (hu : ∀ i, qB Q i < 256) (a v : Int32) : AGR E w l1 l2 ad Q (fun k9 σ9 => if k9 = 0 then some ((1 : Int32), σ9) else if k9 = 1 then some ((2 : Int32), σ9) else none) (X12_bitWidthWith_f E l1 a v w.1) (fun σ => X13_bitWidthWith_f E l2 a v σ) := by
  by_cases h : cOK (qS Q) a
  · obtain ⟨c, hc, rfl, -⟩ := ixI h
    by_cases hv : vIn v
    · exact Or.inl ⟨_, Q, hG, K_bitWidthWith hN hK hG hc hv, fun w2 th h2 => M_bitWidthWith hN h2 hG.1 hc hv⟩
    · exact Or.inr ⟨1, 2, _, by decide, fun _ => rfl, K_bitWidthWithG hK hG hR hc hv, fun w2 th h2 => M_bitWidthWithG h2 hG.1 hc hv⟩
  · exact Or.inr ⟨0, 1, _, by decide, fun _ => rfl, K_bitWidthWithF hK hG hR h, fun w2 th h2 => M_bitWidthWithF h2 hG.1 h⟩
theorem A_setValue (hO : gOK E) (hN : 100000 ≤ gN E) (hK : RK E w l1 ad Q) (hG : GQ Q) (hR : RM E w 1) (hu : ∀ i, qB Q i < 256) (a b v : Int32) : AGR E w l1 l2 ad Q (fun k9 σ9 => if k9 = 0 then some ((1 : Int32), σ9) else if k9 = 1 then some ((2 : Int32), σ9) else none) (X12_setValue_f E l1 a b v w.1) (fun σ => X13_setValue_f E l2 a b v σ) := by
  by_cases h : cOK (qS Q) a ∧ rOK (qS Q) b
  · obtain ⟨c, hc, rfl, -⟩ := ixI h.1
    obtain ⟨r, hr, rfl, -⟩ := ixI h.2
    by_cases hv : vIn v
    · exact Or.inl ⟨_, _, hG.chg (hG.1.put hc hr hv).1, K_setValue hN hK hG hR hc hr hv, fun w2 th h2 => M_setValue hN h2 hG hc hr hv⟩
    · exact Or.inr ⟨1, 2, _, by decide, fun _ => rfl, K_setValueG hK hG hR hc hr hv, fun w2 th h2 => M_setValueG h2 hG.1 hc hr hv⟩
  · exact Or.inr ⟨0, 1, _, by decide, fun _ => rfl, K_setValueF hK hG hR h, fun w2 th h2 => M_setValueF h2 hG.1 h⟩
theorem A_sort (hO : gOK E) (hN : 100000 ≤ gN E) (hK : RK E w l1 ad Q) (hG : GQ Q) (hR : RM E w 1) (hu : ∀ i, qB Q i < 256) (a d : Int32) : AGR E w l1 l2 ad Q (fun k9 σ9 => if k9 = 0 then some ((1 : Int32), σ9) else none) (X12_sort_f E l1 a d w.1) (fun σ => X13_sort_f E l2 a d σ) := by
  by_cases h : cOK (qS Q) a
  · obtain ⟨c, hc, rfl, -⟩ := ixI h
    exact Or.inl ⟨_, _, hG.chg (hG.1.srt _ _).1, K_sort hN hK hG hR hc, fun w2 th h2 => M_sort hN h2 hG hc⟩
  · exact Or.inr ⟨0, 1, _, by decide, fun _ => rfl, K_sortF hK hG hR h, fun w2 th h2 => M_sortF h2 hG.1 h⟩
theorem A_outputByte (hO : gOK E) (hN : 100000 ≤ gN E) (hK : RK E w l1 ad Q) (hG : GQ Q) (hR : RM E w 1) (hu : ∀ i, qB Q i < 256) (a : Int32) : AGR E w l1 l2 ad Q (fun k9 σ9 => if k9 = 0 then some ((1 : Int32), σ9) else none) (X12_outputByte_f E l1 a w.1) (fun σ => X13_outputByte_f E l2 a σ) := by
  have h36 := hG.2.2.2.2.2.2.2.2
  by_cases h : 0 ≤ a.toInt ∧ a.toInt < qL Q
  · obtain ⟨i, hi, rfl, -⟩ := ixI h
    exact Or.inl ⟨_, Q, hG, K_outputByte hK hG hi, fun w2 th h2 => M_outputByte h2 h36 hi⟩
  · exact Or.inr ⟨0, 1, _, by decide, fun _ => rfl, K_outputByteF hK hG hR h, fun w2 th h2 => M_outputByteF h2 h36 h⟩
theorem A_undo (hO : gOK E) (hN : 100000 ≤ gN E) (hK : RK E w l1 ad Q) (hG : GQ Q) (hR : RM E w 1) (hu : ∀ i, qB Q i < 256) : AGR E w l1 l2 ad Q (fun k9 σ9 => if k9 = 2 then some ((1 : Int32), σ9) else none) (X12_undo_f E l1 w.1) (fun σ => X13_undo_f E l2 σ) := by
  by_cases hz : 0 < qZ Q
  · exact Or.inl ⟨_, _, hG.und hz, K_undo hN hK hG hR hz, fun w2 th h2 => M_undo h2 hG hz⟩
  · have hz : qZ Q = 0 := by omega
    exact Or.inr ⟨2, 1, _, by decide, fun _ => rfl, K_undoF hK hR hz, fun w2 th h2 => M_undoF h2 hz⟩
theorem A_restoreSnapshot (hO : gOK E) (hN : 100000 ≤ gN E) (hK : RK E w l1 ad Q) (hG : GQ Q) (hR : RM E w 1) (hu : ∀ i, qB Q i < 256) : AGR E w l1 l2 ad Q (fun k9 σ9 => if k9 = 2 then some ((1 : Int32), σ9) else none) (X12_restoreSnapshot_f E l1 w.1) (fun σ => X13_restoreSnapshot_f E l2 σ) := by
  cases hh : qH Q with
  | true =>
    exact Or.inl ⟨_, _, hG.res hh, K_restoreSnapshot hN hK hG hR hh, fun w2 th h2 => M_restoreSnapshot h2 hG hh⟩
  | false =>
    exact Or.inr ⟨2, 1, _, by decide, fun _ => rfl, K_restoreSnapshotF hK hR hh, fun w2 th h2 => M_restoreSnapshotF h2 hh⟩
theorem A_addLess (hO : gOK E) (hN : 100000 ≤ gN E) (hK : RK E w l1 ad Q) (hG : GQ Q) (hR : RM E w 1) (hu : ∀ i, qB Q i < 256) (a v : Int32) : AGR E w l1 l2 ad Q (fun k9 σ9 => if k9 = 0 then some ((1 : Int32), σ9) else if k9 = 1 then some ((2 : Int32), σ9) else if k9 = 2 then some ((3 : Int32), σ9) else none) (X12_addLess_f E l1 a v w.1) (fun σ => X13_addLess_f E l2 a v σ) := by
  have up : ∀ (Q2 : gQ) (sp : Nat ⊕ Int32), XA E w l1 ad Q2 sp (X12_addCondition_f E l1 a v (-1) w.1) → XA E w l1 ad Q2 sp (X12_addLess_f E l1 a v w.1) := fun Q2 sp ⟨w3, e3, r3⟩ => ⟨w3, KX_addLess hK.cl e3, r3⟩
  have um : ∀ (w2 : gWd) (Q2 : gQ) (t : Int32) (x : Int32), gcl w2.1 l2 11 = some () → XM E w2 l2 t Q2 x (X13_addCondition_f E l2 a v (-1) w2.1) → XM E w2 l2 t Q2 x (X13_addLess_f E l2 a v w2.1) := fun w2 Q2 t x hc ⟨w3, e3, r3⟩ => ⟨w3, M_addLess hc e3, r3⟩
  by_cases h : cOK (qS Q) a
  · obtain ⟨c, hc, rfl, -⟩ := ixI h
    by_cases hv : vIn v
    · by_cases hk : tK (qS Q) < 8
      · exact Or.inl ⟨_, _, hG.chg (hG.1.add hc hv (d := (-1)) (Or.inl rfl) hk), up _ _ (K_addCondition hN hK hG hR hc hv (Or.inl rfl) hk), fun w2 th h2 => um _ _ _ _ h2.cl (M_addCondition hN h2 hG hc hv (Or.inl rfl) hk)⟩
      · exact Or.inr ⟨2, 3, _, by decide, fun _ => rfl, up _ _ (K_addConditionH hK hG hR hc hv hk), fun w2 th h2 => um _ _ _ _ h2.cl (M_addConditionH h2 hG.1 hc hv hk)⟩
    · exact Or.inr ⟨1, 2, _, by decide, fun _ => rfl, up _ _ (K_addConditionG hK hG hR hc hv), fun w2 th h2 => um _ _ _ _ h2.cl (M_addConditionG h2 hG.1 hc hv)⟩
  · exact Or.inr ⟨0, 1, _, by decide, fun _ => rfl, up _ _ (K_addConditionF hK hG hR h), fun w2 th h2 => um _ _ _ _ h2.cl (M_addConditionF h2 hG.1 h)⟩
theorem A_addEqual (hO : gOK E) (hN : 100000 ≤ gN E) (hK : RK E w l1 ad Q) (hG : GQ Q) (hR : RM E w 1) (hu : ∀ i, qB Q i < 256) (a v : Int32) : AGR E w l1 l2 ad Q (fun k9 σ9 => if k9 = 0 then some ((1 : Int32), σ9) else if k9 = 1 then some ((2 : Int32), σ9) else if k9 = 2 then some ((3 : Int32), σ9) else none) (X12_addEqual_f E l1 a v w.1) (fun σ => X13_addEqual_f E l2 a v σ) := by
  have up : ∀ (Q2 : gQ) (sp : Nat ⊕ Int32), XA E w l1 ad Q2 sp (X12_addCondition_f E l1 a v 0 w.1) → XA E w l1 ad Q2 sp (X12_addEqual_f E l1 a v w.1) := fun Q2 sp ⟨w3, e3, r3⟩ => ⟨w3, KX_addEqual hK.cl e3, r3⟩
  have um : ∀ (w2 : gWd) (Q2 : gQ) (t : Int32) (x : Int32), gcl w2.1 l2 11 = some () → XM E w2 l2 t Q2 x (X13_addCondition_f E l2 a v 0 w2.1) → XM E w2 l2 t Q2 x (X13_addEqual_f E l2 a v w2.1) := fun w2 Q2 t x hc ⟨w3, e3, r3⟩ => ⟨w3, M_addEqual hc e3, r3⟩
  by_cases h : cOK (qS Q) a
  · obtain ⟨c, hc, rfl, -⟩ := ixI h
    by_cases hv : vIn v
    · by_cases hk : tK (qS Q) < 8
      · exact Or.inl ⟨_, _, hG.chg (hG.1.add hc hv (d := 0) (Or.inr (Or.inl rfl)) hk), up _ _ (K_addCondition hN hK hG hR hc hv (Or.inr (Or.inl rfl)) hk), fun w2 th h2 => um _ _ _ _ h2.cl (M_addCondition hN h2 hG hc hv (Or.inr (Or.inl rfl)) hk)⟩
      · exact Or.inr ⟨2, 3, _, by decide, fun _ => rfl, up _ _ (K_addConditionH hK hG hR hc hv hk), fun w2 th h2 => um _ _ _ _ h2.cl (M_addConditionH h2 hG.1 hc hv hk)⟩
    · exact Or.inr ⟨1, 2, _, by decide, fun _ => rfl, up _ _ (K_addConditionG hK hG hR hc hv), fun w2 th h2 => um _ _ _ _ h2.cl (M_addConditionG h2 hG.1 hc hv)⟩
  · exact Or.inr ⟨0, 1, _, by decide, fun _ => rfl, up _ _ (K_addConditionF hK hG hR h), fun w2 th h2 => um _ _ _ _ h2.cl (M_addConditionF h2 hG.1 h)⟩
theorem A_addGreater (hO : gOK E) (hN : 100000 ≤ gN E) (hK : RK E w l1 ad Q) (hG : GQ Q) (hR : RM E w 1) (hu : ∀ i, qB Q i < 256) (a v : Int32) : AGR E w l1 l2 ad Q (fun k9 σ9 => if k9 = 0 then some ((1 : Int32), σ9) else if k9 = 1 then some ((2 : Int32), σ9) else if k9 = 2 then some ((3 : Int32), σ9) else none) (X12_addGreater_f E l1 a v w.1) (fun σ => X13_addGreater_f E l2 a v σ) := by
  have up : ∀ (Q2 : gQ) (sp : Nat ⊕ Int32), XA E w l1 ad Q2 sp (X12_addCondition_f E l1 a v 1 w.1) → XA E w l1 ad Q2 sp (X12_addGreater_f E l1 a v w.1) := fun Q2 sp ⟨w3, e3, r3⟩ => ⟨w3, KX_addGreater hK.cl e3, r3⟩
  have um : ∀ (w2 : gWd) (Q2 : gQ) (t : Int32) (x : Int32), gcl w2.1 l2 11 = some () → XM E w2 l2 t Q2 x (X13_addCondition_f E l2 a v 1 w2.1) → XM E w2 l2 t Q2 x (X13_addGreater_f E l2 a v w2.1) := fun w2 Q2 t x hc ⟨w3, e3, r3⟩ => ⟨w3, M_addGreater hc e3, r3⟩
  by_cases h : cOK (qS Q) a
  · obtain ⟨c, hc, rfl, -⟩ := ixI h
    by_cases hv : vIn v
    · by_cases hk : tK (qS Q) < 8
      · exact Or.inl ⟨_, _, hG.chg (hG.1.add hc hv (d := 1) (Or.inr (Or.inr rfl)) hk), up _ _ (K_addCondition hN hK hG hR hc hv (Or.inr (Or.inr rfl)) hk), fun w2 th h2 => um _ _ _ _ h2.cl (M_addCondition hN h2 hG hc hv (Or.inr (Or.inr rfl)) hk)⟩
      · exact Or.inr ⟨2, 3, _, by decide, fun _ => rfl, up _ _ (K_addConditionH hK hG hR hc hv hk), fun w2 th h2 => um _ _ _ _ h2.cl (M_addConditionH h2 hG.1 hc hv hk)⟩
    · exact Or.inr ⟨1, 2, _, by decide, fun _ => rfl, up _ _ (K_addConditionG hK hG hR hc hv), fun w2 th h2 => um _ _ _ _ h2.cl (M_addConditionG h2 hG.1 hc hv)⟩
  · exact Or.inr ⟨0, 1, _, by decide, fun _ => rfl, up _ _ (K_addConditionF hK hG hR h), fun w2 th h2 => um _ _ _ _ h2.cl (M_addConditionF h2 hG.1 h)⟩
theorem A_loadTable (hO : gOK E) (hN : 100000 ≤ gN E) (hK : RK E w l1 ad Q) (hG : GQ Q) (hR : RM E w 1) (hu : ∀ i, qB Q i < 256) (a : Int32) : AGR E w l1 l2 ad Q (fun k9 σ9 => if k9 = 1 then some ((1 : Int32), σ9) else none) (X12_loadTable_f E l1 a w.1) (fun σ => X13_loadTable_f E l2 a σ) := by
  by_cases h : lOK (qN Q) a
  · obtain ⟨a0, hL, rfl⟩ := ixL h
    cases hp : pTable (qB Q) a0 (tS (qB Q) a0 0) with
    | inl e =>
      obtain ⟨c, o⟩ := e
      exact Or.inl ⟨_, _, hG.err (nI c, nI o), K_loadTableF hO hK hG hL hp, fun w2 th h2 => M_loadTableF hO h2 hG hu hL hp⟩
    | inr e =>
      obtain ⟨q, s'⟩ := e
      obtain ⟨v1, v2, v3, v4⟩ := pTable_v hp
      exact Or.inl ⟨_, _, hG.load (GS.rep v1 v2 v3 v4).1 (0, qB Q) (Nat.zero_le _) (0, -1), K_loadTable hO hK hG hR hL hp, fun w2 th h2 => M_loadTable hO h2 hG hu hL hp⟩
  · exact Or.inr ⟨1, 1, _, by decide, fun _ => rfl, K_loadTableE hK hG hR h, fun w2 th h2 => M_loadTableE h2 hG h⟩
theorem A_runScript (hO : gOK E) (hN : 100000 ≤ gN E) (hK : RK E w l1 ad Q) (hG : GQ Q) (hR : RM E w 1) (hu : ∀ i, qB Q i < 256) (a : Int32) : AGR E w l1 l2 ad Q (fun k9 σ9 => if k9 = 1 then some ((1 : Int32), σ9) else none) (X12_runScript_f E l1 a w.1) (fun σ => X13_runScript_f E l2 a σ) := by
  by_cases h : lOK (qN Q) a
  · obtain ⟨a0, hL, rfl⟩ := ixL h
    cases hp : pScr (qB Q) a0 (qS Q).1 20 (tS (qB Q) a0 0) with
    | inl e =>
      obtain ⟨c, o⟩ := e
      exact Or.inl ⟨_, _, hG.err (nI c, nI o), K_runScriptF hO hK hG hL hp, fun w2 th h2 => M_runScriptF hO h2 hG hu hL hp⟩
    | inr e =>
      obtain ⟨q, s'⟩ := e
      exact Or.inl ⟨_, _, rnS_q hG hp, K_runScript hO hK hG hR hL hp, fun w2 th h2 => M_runScript hO h2 hG hu hL hp⟩
  · exact Or.inr ⟨1, 1, _, by decide, fun _ => rfl, K_runScriptE hK hG hR h, fun w2 th h2 => M_runScriptE h2 hG h⟩
theorem A_addRow (hO : gOK E) (hN : 100000 ≤ gN E) (hK : RK E w l1 ad Q) (hG : GQ Q) (hR : RM E w 1) (hu : ∀ i, qB Q i < 256) (a : Int32) : AGR E w l1 l2 ad Q (fun k9 σ9 => if k9 = 1 then some ((1 : Int32), σ9) else if k9 = 2 then some ((2 : Int32), σ9) else none) (X12_addRow_f E l1 a w.1) (fun σ => X13_addRow_f E l2 a σ) := by
  by_cases h : lOK (qN Q) a
  · obtain ⟨a0, hL, rfl⟩ := ixL h
    by_cases hf : tR (qS Q) < 60
    · cases hp : pRow1 (qB Q) a0 (qS Q).1 (tS (qB Q) a0 0) with
      | inl e =>
        obtain ⟨c, o⟩ := e
        exact Or.inl ⟨_, _, hG.err (nI c, nI o), K_addRowF hO hK hG hL hf hp, fun w2 th h2 => M_addRowF hN h2 hG hu hL hf hp⟩
      | inr e =>
        obtain ⟨r, s'⟩ := e
        exact Or.inl ⟨_, _, (hG.err (0, -1)).chg (hG.1.ap (pRow1_v hp) hf).1, K_addRow hO hK hG hR hL hf hp, fun w2 th h2 => M_addRow hN h2 hG hu hL hf hp⟩
    · exact Or.inr ⟨2, 2, _, by decide, fun _ => rfl, K_addRowG hK hG hR hL hf, fun w2 th h2 => M_addRowG h2 hG hL hf⟩
  · exact Or.inr ⟨1, 1, _, by decide, fun _ => rfl, K_addRowE hK hG hR h, fun w2 th h2 => M_addRowE h2 hG h⟩
end AG
