/-! pure: the reference's changes of a row: conditions, rows -/
/-- what lies from a to a + n has come from d further -/
def shf (g : Nat → Int32) (a d n : Nat) : Nat → Int32 := fun i => if a ≤ i ∧ i < a + n then g (i + d) else g i
theorem shf_0 (g : Nat → Int32) (a d : Nat) : shf g a d 0 = g := funext fun i => if_neg (by omega)
theorem shf_in {g : Nat → Int32} {a d n i : Nat} (h1 : a ≤ i) (h2 : i < a + n) : shf g a d n i = g (i + d) := if_pos ⟨h1, h2⟩
theorem shf_out {g : Nat → Int32} {a d n i : Nat} (h : ¬ (a ≤ i ∧ i < a + n)) : shf g a d n i = g i := if_neg h
theorem shf_s (g : Nat → Int32) (a d n : Nat) : upd (shf g a d n) (a + n) (shf g a d n (a + n + d)) = shf g a d (n + 1) := by
  funext i
  rw [shf_out (i := a + n + d) (by omega)]
  by_cases h : i = a + n
  · rw [h, upd_s, shf_in (by omega) (by omega)]
  · rw [upd_o _ _ h]
    by_cases h2 : a ≤ i ∧ i < a + n
    · rw [shf_in h2.1 h2.2, shf_in h2.1 (by omega)]
    · rw [shf_out h2, shf_out (by omega)]
theorem MT.addc {g : Nat → Int32} {S : gT} (h : MT g S) (hG : GS S) {c : Nat} {v d : Int32} (hk : tK S < 8) : MT (upd (upd (upd (upd g (3 + 3 * tK S + 0) (nI c)) (3 + 3 * tK S + 1) v) (3 + 3 * tK S + 2) d) 2 (nI (tK S + 1))) (addT S c v d) := by
  have hC : S.1 ≤ 6 := hG.2.1
  have hR : tR S ≤ 60 := hG.2.2.2.1
  obtain ⟨a1, a2, a3, a4, a5, a6⟩ := h
  have hhi : ∀ i, 27 ≤ i → upd (upd (upd (upd g (3 + 3 * tK S + 0) (nI c)) (3 + 3 * tK S + 1) v) (3 + 3 * tK S + 2) d) 2 (nI (tK S + 1)) i = g i := fun i hi => by rw [upd_o _ _ (by omega), upd_o _ _ (by omega), upd_o _ _ (by omega), upd_o _ _ (by omega)]
  refine ⟨?_, ?_, upd_s _ _ _, fun i hi => ?_, fun c' r h1 h2 => ?_, fun c' h1 => ⟨(a6 c' h1).1, fun k i hk hi => ?_⟩⟩
  · rw [upd_o _ _ (by omega), upd_o _ _ (by omega), upd_o _ _ (by omega), upd_o _ _ (by omega)]
    exact a1
  · rw [upd_o _ _ (by omega), upd_o _ _ (by omega), upd_o _ _ (by omega), upd_o _ _ (by omega)]
    exact a2
  · have hi : i < tK S + 1 := hi
    show upd _ 2 _ _ = nI (updN (tFc S) (tK S) c i) ∧ upd _ 2 _ _ = upd (tFv S) (tK S) v i ∧ upd _ 2 _ _ = upd (tFd S) (tK S) d i
    rw [upd_o _ _ (show ¬ 3 + 3 * i + 0 = 2 by omega), upd_o _ _ (show ¬ 3 + 3 * i + 1 = 2 by omega), upd_o _ _ (show ¬ 3 + 3 * i + 2 = 2 by omega)]
    by_cases e : i = tK S
    · subst e
      refine ⟨?_, ?_, ?_⟩
      · rw [upd_o _ _ (by omega), upd_o _ _ (by omega), upd_s]
        unfold updN
        rw [if_pos rfl]
      · rw [upd_o _ _ (by omega), upd_s, upd_s]
      · rw [upd_s, upd_s]
    · refine ⟨?_, ?_, ?_⟩
      · rw [upd_o _ _ (by omega), upd_o _ _ (by omega), upd_o _ _ (by omega)]
        unfold updN
        rw [if_neg e]
        exact (a4 i (by omega)).1
      · rw [upd_o _ _ (by omega), upd_o _ _ (by omega), upd_o _ _ (by omega), upd_o _ _ e]
        exact (a4 i (by omega)).2.1
      · rw [upd_o _ _ (by omega), upd_o _ _ (by omega), upd_o _ _ (by omega), upd_o _ _ e]
        exact (a4 i (by omega)).2.2
  · rw [hhi _ (by omega)]
    exact a5 c' r h1 h2
  · rw [hhi _ (by omega)]
    exact (a6 c' h1).2 k i hk hi
theorem MT.remc {g : Nat → Int32} {S : gT} (h : MT g S) (hG : GS S) {q : Nat} (hq : q < tK S) : MT (shf (upd g 2 (nI (tK S - 1))) (3 + 3 * q) 3 (3 * (tK S - 1 - q))) (remT S q) := by
  have hC : S.1 ≤ 6 := hG.2.1
  have hR : tR S ≤ 60 := hG.2.2.2.1
  have hK : tK S ≤ 8 := hG.2.2.2.2.2.1
  obtain ⟨a1, a2, a3, a4, a5, a6⟩ := h
  refine ⟨?_, ?_, ?_, fun i hi => ?_, fun c' r h1 h2 => ?_, fun c' h1 => ⟨(a6 c' h1).1, fun k i hk hi => ?_⟩⟩
  · rw [shf_out (by omega), upd_o _ _ (by omega)]
    exact a1
  · rw [shf_out (by omega), upd_o _ _ (by omega)]
    exact a2
  · rw [shf_out (by omega), upd_s]
    rfl
  · have hi : i < tK S - 1 := hi
    show _ = nI (gdel (tFc S) q i) ∧ _ = gdel (tFv S) q i ∧ _ = gdel (tFd S) q i
    unfold gdel
    by_cases e : i < q
    · rw [shf_out (by omega), shf_out (by omega), shf_out (by omega), upd_o _ _ (by omega), upd_o _ _ (by omega), upd_o _ _ (by omega), if_pos e, if_pos e, if_pos e]
      exact a4 i (by omega)
    · rw [shf_in (by omega) (by omega), shf_in (by omega) (by omega), shf_in (by omega) (by omega), upd_o _ _ (by omega), upd_o _ _ (by omega), upd_o _ _ (by omega), if_neg e, if_neg e, if_neg e]
      have := a4 (i + 1) (by omega)
      rw [show 3 + 3 * i + 0 + 3 = 3 + 3 * (i + 1) + 0 by omega, show 3 + 3 * i + 1 + 3 = 3 + 3 * (i + 1) + 1 by omega, show 3 + 3 * i + 2 + 3 = 3 + 3 * (i + 1) + 2 by omega]
      exact this
  · rw [shf_out (by omega), upd_o _ _ (by omega)]
    exact a5 c' r h1 h2
  · rw [shf_out (by omega), upd_o _ _ (by omega)]
    exact (a6 c' h1).2 k i hk hi
theorem MT.rowo {g : Nat → Int32} {S : gT} (h : MT g S) (hG : GS S) {q : Nat} (hq : q < tR S) : MT (shf (upd g 1 (nI (tR S - 1))) (27 + 6 * q) 6 (6 * (tR S - 1 - q))) (rowT S q) := by
  have hC : S.1 ≤ 6 := hG.2.1
  have hR : tR S ≤ 60 := hG.2.2.2.1
  have hK : tK S ≤ 8 := hG.2.2.2.2.2.1
  have hrr := (hG.row hq).2
  have hcol : ∀ c, c < S.1 → (rowT S q).2.1 c = opDel q (S.2.1 c) := fun c hc => mapC_col hc
  obtain ⟨a1, a2, a3, a4, a5, a6⟩ := h
  refine ⟨?_, ?_, ?_, fun i hi => ?_, fun c' r h1 h2 => ?_, fun c' h1 => ?_⟩
  · rw [shf_out (by omega), upd_o _ _ (by omega)]
    exact a1
  · rw [shf_out (by omega), upd_s, hrr]
  · rw [shf_out (by omega), upd_o _ _ (by omega)]
    exact a3
  · have hi : i < tK S := hi
    rw [shf_out (by omega), shf_out (by omega), shf_out (by omega), upd_o _ _ (by omega), upd_o _ _ (by omega), upd_o _ _ (by omega)]
    exact a4 i hi
  · have h1 : c' < S.1 := h1
    rw [hrr] at h2
    rw [tV, hcol c' h1]
    show _ = gdel (tV S c') q r
    unfold gdel
    by_cases e : r < q
    · rw [shf_out (by omega), upd_o _ _ (by omega), if_pos e]
      exact a5 c' r h1 (by omega)
    · rw [shf_in (by omega) (by omega), upd_o _ _ (by omega), if_neg e, show 27 + 6 * r + c' + 6 = 27 + 6 * (r + 1) + c' by omega]
      exact a5 c' (r + 1) h1 (by omega)
  · have h1 : c' < S.1 := h1
    rw [tD, hcol c' h1]
    refine ⟨(a6 c' h1).1, fun k i hk hi => ?_⟩
    rw [shf_out (by omega), upd_o _ _ (by omega)]
    exact (a6 c' h1).2 k i hk hi
section MM
variable {E : gE} {w : gWd} {m k : Nat} {fi : Nat → Int32} {G : Nat → Nat → Int32} {S : gT}
theorem MX.cond (h : MX E w m k fi G S) (hN : 100000 ≤ gN E) {c : Nat} {v d : Int32} (hc : c < S.1) (hv : vIn v) (hd : dOK d) (hK : tK S < 8) : ∃ w' G', X13_doCondition_f E m (nI c) v d w.1 = some (0, w'.1) ∧ FS E J30 w w' ∧ MX E w' m k (upd fi 12 (nI (fb_ct (ssel (addT S c v d)) (tR (addT S c v d))))) G' (addT S c v d) ∧ MO k G G' := by
  have hQ := h.q
  obtain ⟨hM, hk, hT, hG⟩ := h
  obtain ⟨w1, e1, F1, h1⟩ := hM.wr hk (i := 3 + 3 * tK S + 0) (by omega) (nI c)
  obtain ⟨w2, e2, F2, h2⟩ := h1.wr hk (i := 3 + 3 * tK S + 1) (by omega) v
  obtain ⟨w3, e3, F3, h3⟩ := h2.wr hk (i := 3 + 3 * tK S + 2) (by omega) d
  obtain ⟨w4, e4, F4, h4⟩ := h3.wr hk (i := 2) (by omega) (nI (tK S + 1))
  simp only [updG_s, updG_t] at h2 h3 h4
  have hT4 : MT (updG G k (upd (upd (upd (upd (G k) (3 + 3 * tK S + 0) (nI c)) (3 + 3 * tK S + 1) v) (3 + 3 * tK S + 2) d) 2 (nI (tK S + 1))) k) (addT S c v d) := by
    rw [updG_s]
    exact hT.addc hG hK
  have hG4 := hG.add hc hv hd hK
  have hQ4 := h4.q hk hT4 hG4
  obtain ⟨w5, e5, F5, h5⟩ := h4.put 12 (nI (fb_ct (ssel (addT S c v d)) (tR (addT S c v d)))) (putF m _) (by decide)
  refine ⟨w5, _, ?_, ((((F1.trans F2).trans F3).trans F4).trans F5), ⟨h5, hk, hT4, hG4⟩, MO.u _ _ _⟩
  have r2 : graI E 0 w3.1 (m + k) (2 : Int32) = some (nI (tK S)) := by
    have e := h3.rd hk (i := 2) (by omega)
    rw [updG_s, upd_o _ _ (by omega), upd_o _ _ (by omega), upd_o _ _ (by omega), hT.2.2.1] at e
    exact e
  unfold X13_doCondition_f X13_doCondition
  rw [ob_e hQ.r, ob_e hQ.n2, if_neg (fun z => by have := (nI_eqI (b := 8) (by omega) (by omega)).mp z; omega), ob_e hQ.r, ob_e hQ.n2, ob_e hQ.r, show ((3 : Int32) + (3 : Int32) * nI (tK S)) + (0 : Int32) = nI (3 + 3 * tK S + 0) from co_i _ 0, show ((3 : Int32) + (3 : Int32) * nI (tK S)) + (1 : Int32) = nI (3 + 3 * tK S + 1) from co_i _ 1, show ((3 : Int32) + (3 : Int32) * nI (tK S)) + (2 : Int32) = nI (3 + 3 * tK S + 2) from co_i _ 2, ob_e e1, ob_e h1.row, ob_e e2, ob_e h2.row, ob_e e3, ob_e h3.row, ob_e r2, nI_1]
  rw [show gwaI E w3.1 (m + k) (2 : Int32) (nI (tK S + 1)) = some w4.1 from e4, ob_s, ob_e hQ4.cl, ob_e (hQ4.nsel hN), ob_e e5]
theorem MX.condF (h : MX E w m k fi G S) (hK : ¬ tK S < 8) (a v d : Int32) : X13_doCondition_f E m a v d w.1 = some (3, w.1) := by
  have hQ := h.q
  have := hQ.K
  unfold X13_doCondition_f X13_doCondition
  rw [ob_e hQ.r, ob_e hQ.n2, if_pos (show nI (tK S) = (8 : Int32) from by rw [show tK S = 8 by omega]; rfl)]
theorem MX.drop (h : MX E w m k fi G S) (hN : 100000 ≤ gN E) {q : Nat} (hq : q < tK S) : ∃ w' G', X13_doDrop_f E m (nI q) w.1 = some (0, w'.1) ∧ FS E J30 w w' ∧ MX E w' m k (upd fi 12 (nI (fb_ct (ssel (remT S q)) (tR (remT S q))))) G' (remT S q) ∧ MO k G G' := by
  have hQ := h.q
  obtain ⟨hM, hk, hT, hG⟩ := h
  have hK : tK S ≤ 8 := hG.2.2.2.2.2.1
  obtain ⟨w1, e1, F1, h1⟩ := hM.wr hk (i := 2) (by omega) (nI (tK S - 1))
  have hl := lpe (F := fun u (a : gWd) r => X13_doDrop_26 E u m (nI (3 + 3 * q + r)) a.1) (I := fun r a => FS E J30 w1 a ∧ MS E a m (m + k) fi (updG G k (shf (upd (G k) 2 (nI (tK S - 1))) (3 + 3 * q) 3 r))) (O := fun a => ob (gcl a.1 m 11) fun _ => ob (X13_countSelected_f E a.1 m) fun x5 => ob (gpf E a.1 m 11 12 (.int x5)) fun σ8 => some ((0 : Int32), σ8)) (n := 3 * (tK S - 1 - q)) (fun u r a hr hI => ?_) (fun u a hI => ?_) (3 * (tK S - 1 - q)) 0 (gN E) w1 (by omega) (by omega) ⟨FS.rf, by rw [shf_0]; exact h1⟩
  · obtain ⟨w2, e2, F2, h2⟩ := hl
    have hT2 : MT (updG G k (shf (upd (G k) 2 (nI (tK S - 1))) (3 + 3 * q) 3 (3 * (tK S - 1 - q))) k) (remT S q) := by
      rw [updG_s]
      exact hT.remc hG hq
    have hG2 := hG.rem hq
    have hQ2 := h2.q hk hT2 hG2
    obtain ⟨w3, e3, F3, h3⟩ := h2.put 12 (nI (fb_ct (ssel (remT S q)) (tR (remT S q)))) (putF m _) (by decide)
    refine ⟨w3, _, ?_, (F1.trans F2).trans F3, ⟨h3, hk, hT2, hG2⟩, MO.u _ _ _⟩
    have hkk : kOK S (nI q) := by
      rw [kOK, nI_toInt (by omega)]
      omega
    unfold X13_doDrop_f X13_doDrop
    rw [ob_e hQ.cl, ob_e (hQ.con _), if_pos hkk, if_neg i10, ob_e hQ.r, ob_e hQ.n2, nI_sub1 (by omega), show gwaI E w.1 (m + k) (2 : Int32) (nI (tK S - 1)) = some w1.1 from e1, ob_s, show (3 : Int32) + (3 : Int32) * nI q = nI (3 + 3 * q) from by rw [show (3 : Int32) = nI 3 from rfl, nI_mul, nI_add]]
    refine e2.trans ?_
    rw [ob_e hQ2.cl, ob_e (hQ2.nsel hN), ob_e e3]
  · obtain ⟨F0, h0⟩ := hI
    have r2 : graI E 0 a.1 (m + k) (2 : Int32) = some (nI (tK S - 1)) := by
      have e := h0.rd hk (i := 2) (by omega)
      rw [updG_s, shf_out (by omega), upd_s] at e
      exact e
    have rr := h0.rd hk (i := 3 + 3 * q + r + 3) (by omega)
    rw [updG_s] at rr
    obtain ⟨w2, e2, F2, h2⟩ := h0.wr hk (i := 3 + 3 * q + r) (by omega) (shf (upd (G k) 2 (nI (tK S - 1))) (3 + 3 * q) 3 r (3 + 3 * q + r + 3))
    rw [updG_s, updG_t, shf_s] at h2
    refine ⟨w2, ?_, F0.trans F2, h2⟩
    show X13_doDrop_26_s E (X13_doDrop_26 E u) m (nI (3 + 3 * q + r)) a.1 = _
    unfold X13_doDrop_26_s
    rw [ob_e h0.row, ob_e r2, show (3 : Int32) + (3 : Int32) * nI (tK S - 1) = nI (3 + 3 * (tK S - 1)) from by rw [show (3 : Int32) = nI 3 from rfl, nI_mul, nI_add], if_neg (nI_ge (by omega) (by omega)), ob_e h0.row, ob_e h0.row, show nI (3 + 3 * q + r) + (3 : Int32) = nI (3 + 3 * q + r + 3) from nI_add _ 3, ob_e rr, ob_e e2, nI_1]
    rfl
  · obtain ⟨F0, h0⟩ := hI
    have r2 : graI E 0 a.1 (m + k) (2 : Int32) = some (nI (tK S - 1)) := by
      have e := h0.rd hk (i := 2) (by omega)
      rw [updG_s, shf_out (by omega), upd_s] at e
      exact e
    show X13_doDrop_26_s E (X13_doDrop_26 E u) m (nI (3 + 3 * q + 3 * (tK S - 1 - q))) a.1 = _
    unfold X13_doDrop_26_s
    rw [ob_e h0.row, ob_e r2, show (3 : Int32) + (3 : Int32) * nI (tK S - 1) = nI (3 + 3 * (tK S - 1)) from by rw [show (3 : Int32) = nI 3 from rfl, nI_mul, nI_add], if_pos (nI_le (by omega) (by omega))]
theorem MX.dropF (h : MX E w m k fi G S) {a : Int32} (ha : ¬ kOK S a) : X13_doDrop_f E m a w.1 = some (1, w.1) := by
  have hQ := h.q
  unfold X13_doDrop_f X13_doDrop
  rw [ob_e hQ.cl, ob_e (hQ.con _), if_neg ha, if_pos rfl]
theorem MX.take (h : MX E w m k fi G S) (hN : 100000 ≤ gN E) {q : Nat} (hq : q < tR S) : ∃ w' G', X13_takeOut_f E m (nI q) w.1 = some w'.1 ∧ FS E J30 w w' ∧ MX E w' m k fi G' (rowT S q) ∧ MO k G G' := by
  have hQ := h.q
  obtain ⟨hM, hk, hT, hG⟩ := h
  have hR : tR S ≤ 60 := hG.2.2.2.1
  obtain ⟨w1, e1, F1, h1⟩ := hM.wr hk (i := 1) (by omega) (nI (tR S - 1))
  have hl := lpe (F := fun u (a : gWd) r => X13_takeOut_16 E u m (nI (27 + 6 * q + r)) a.1) (I := fun r a => FS E J30 w1 a ∧ MS E a m (m + k) fi (updG G k (shf (upd (G k) 1 (nI (tR S - 1))) (27 + 6 * q) 6 r))) (O := fun a => some a.1) (n := 6 * (tR S - 1 - q)) (fun u r a hr hI => ?_) (fun u a hI => ?_) (6 * (tR S - 1 - q)) 0 (gN E) w1 (by omega) (by omega) ⟨FS.rf, by rw [shf_0]; exact h1⟩
  · obtain ⟨w2, e2, F2, h2⟩ := hl
    refine ⟨w2, _, ?_, F1.trans F2, ⟨h2, hk, ?_, (hG.row hq).1⟩, MO.u _ _ _⟩
    · unfold X13_takeOut_f X13_takeOut
      rw [ob_e hQ.r, ob_e hQ.n1, nI_sub1 (by omega), show gwaI E w.1 (m + k) (1 : Int32) (nI (tR S - 1)) = some w1.1 from e1, ob_s, show X13_placeOf_f E w1.1 (0 : Int32) (nI q) = some (nI (27 + 6 * q + 0)) from pl_f 0 q, ob_s]
      exact e2
    · rw [updG_s]
      exact hT.rowo hG hq
  · obtain ⟨F0, h0⟩ := hI
    have r2 : graI E 0 a.1 (m + k) (1 : Int32) = some (nI (tR S - 1)) := by
      have e := h0.rd hk (i := 1) (by omega)
      rw [updG_s, shf_out (by omega), upd_s] at e
      exact e
    have rr := h0.rd hk (i := 27 + 6 * q + r + 6) (by omega)
    rw [updG_s] at rr
    obtain ⟨w2, e2, F2, h2⟩ := h0.wr hk (i := 27 + 6 * q + r) (by omega) (shf (upd (G k) 1 (nI (tR S - 1))) (27 + 6 * q) 6 r (27 + 6 * q + r + 6))
    rw [updG_s, updG_t, shf_s] at h2
    refine ⟨w2, ?_, F0.trans F2, h2⟩
    show X13_takeOut_16_s E (X13_takeOut_16 E u) m (nI (27 + 6 * q + r)) a.1 = _
    unfold X13_takeOut_16_s
    rw [ob_e h0.row, ob_e r2, show X13_placeOf_f E a.1 (0 : Int32) (nI (tR S - 1)) = some (nI (27 + 6 * (tR S - 1) + 0)) from pl_f 0 _, ob_s, if_neg (nI_ge (by omega) (by omega)), ob_e h0.row, ob_e h0.row, show nI (27 + 6 * q + r) + (6 : Int32) = nI (27 + 6 * q + r + 6) from nI_add _ 6, ob_e rr, ob_e e2, nI_1]
    rfl
  · obtain ⟨F0, h0⟩ := hI
    have r2 : graI E 0 a.1 (m + k) (1 : Int32) = some (nI (tR S - 1)) := by
      have e := h0.rd hk (i := 1) (by omega)
      rw [updG_s, shf_out (by omega), upd_s] at e
      exact e
    show X13_takeOut_16_s E (X13_takeOut_16 E u) m (nI (27 + 6 * q + 6 * (tR S - 1 - q))) a.1 = _
    unfold X13_takeOut_16_s
    rw [ob_e h0.row, ob_e r2, show X13_placeOf_f E a.1 (0 : Int32) (nI (tR S - 1)) = some (nI (27 + 6 * (tR S - 1) + 0)) from pl_f 0 _, ob_s, if_pos (nI_le (by omega) (by omega))]
end MM
