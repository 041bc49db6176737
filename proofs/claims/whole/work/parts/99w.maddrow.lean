/-! pure: the reference adds a row from a text -/
section MM
variable {E : gE} {w : gWd} {m ro L k0 C : Nat} {fi fi0 : Nat → Int32} {G : Nat → Nat → Int32} {u : Nat → Nat} {t : gMd} {th : Int32} {Q : gQ}
theorem RY.bu (h : RY fi G th Q) (h7 : qN Q ≤ 700) (hu : ∀ i, qB Q i < 256) (hL : L ≤ qN Q) : BU G (qB Q) L := ⟨by omega, hu, fun i hi => h.2.2.2.2.2.2.2.2.2.2.2 i (by omega)⟩
theorem keepY (h : MS E w m (m + 1) fi G) (hY : RY fi G th Q) (hG : GS (qS Q)) : ∃ w' G', X13_keep_f E m w.1 = some w'.1 ∧ FS E J30 w w' ∧ MX E w' m 1 fi G' (qS Q) ∧ RY fi G' th Q ∧ (∀ j, j < 4137 → G' 3 j = G' 1 j) ∧ ∀ j, j ≠ 3 → G' j = G j := by
  obtain ⟨w1, e1, F1, h3⟩ := h.keep
  obtain ⟨a1, a2, a3, a4, a5, a6, a7, a8, a9, a10, a11, a12⟩ := hY
  refine ⟨w1, _, e1, F1, ⟨h3, Or.inl rfl, ?_, hG⟩, ⟨a1, a2, a3, a4, a5, a6, a7, ?_, fun z => ?_, fun i hi => ?_, fun i hi => ?_, fun i hi => ?_⟩, fun j hj => ?_, fun j hj => updG_o _ _ hj⟩
  · rw [updG_o _ _ (by decide)]; exact a8
  · rw [updG_o _ _ (by decide)]; exact a8
  · rw [updG_o _ _ (by decide)]; exact a9 z
  · rw [updG_o _ _ (by decide)]; exact a10 i hi
  · rw [updG_o _ _ (by decide)]; exact a11 i hi
  · rw [updG_o _ _ (by decide)]; exact a12 i hi
  · rw [updG_s, updG_o _ _ (by decide)]
    exact cpy0 (sp := 0) hj |>.trans (by rw [Nat.zero_add])
/-- what follows when the text has been read -/
def arT (E : gE) (m : Nat) (σ : gS) : Option (Int32 × gS) := ob (gcl σ m 11) fun _ => ob (X13_isFaulty_f E m σ) fun x4 => if x4.1 = 0 then ob (gcl x4.2 m 11) fun _ => ob (X13_keep_f E m x4.2) fun x7 => ob (gcl x7 m 11) fun _ => ob (X13_doRow_f E m x7) fun x10 => ob (gcl x10.2 m 11) fun _ => ob (X13_ends_f E m x10.1 x10.2) fun x13 => some (x13.1, x13.2) else some ((-1 : Int32), x4.2)
theorem ar_mid (hN : 100000 ≤ gN E) (h : RX E w m th Q) (hQ : GQ Q) (hu : ∀ i, qB Q i < 256) (hL : L ≤ qN Q) (hf : tR (qS Q) < 60) : ∃ w' fi0 G0 G, X13_addRow_f E m (nI L) w.1 = arT E m w'.1 ∧ FS E J30 w w' ∧ RY fi0 G0 0 Q ∧ PG G0 G ∧ PQ E w' m (m + 1) fi0 G (qB Q) L (mdf (pRow1 (qB Q) L (qS Q).1 (tS (qB Q) L 0))) ∧ ∀ r s', pRow1 (qB Q) L (qS Q).1 (tS (qB Q) L 0) = .inr (r, s') → ∀ j, j < (qS Q).1 → G 7 j = r j := by
  have h7 := hQ.2.2.2.2.2.2.2.1
  obtain ⟨g, q⟩ := h.q hQ.1
  have hlen := h.len h7 (nI L)
  rw [if_pos (show lOK (qN Q) (nI L) from by rw [lOK, nI_toInt (by omega)]; omega)] at hlen
  obtain ⟨w1, e1, F1, h1⟩ := h.lk2 1 1
  have ht : th2 1 1 = 0 := by decide
  rw [ht] at e1 h1
  have hcl1 := h1.cl
  obtain ⟨fi0, G0, b1, hY⟩ := h1
  have hB := hY.bu h7 hu hL
  obtain ⟨w2, e2, F2, p2⟩ := b1.startT hN hB
  have hC0 : G0 1 0 = nI (qS Q).1 := hY.2.2.2.2.2.2.2.1.1
  obtain ⟨w3, G3, e3, F3, p3, g3, r3⟩ := p2.readRow hN (Or.inl rfl) hQ.1.2.1 hB hC0
  have p3 : PQ E w3 m (m + 1) fi0 G3 (qB Q) L (mdf (pRow (qB Q) L (qS Q).1 (tS (qB Q) L 0))) := p3
  have hfst : X13_addRow_f E m (nI L) w.1 = ob (gfI w3.1 m 11 22) fun x26 => if x26 = 0 then ob (gfI w3.1 m 11 21) fun x28 => if x28 = 0 then X13_addRow_59 E m 1 m w3.1 else X13_addRow_59 E m 0 m w3.1 else X13_addRow_59 E m 1 m w3.1 := by
    unfold X13_addRow_f X13_addRow X13_addRow_22 X13_addRow_54
    rw [ob_e q.cl, ob_e hlen, ob_e q.r, ob_e q.n1, if_neg (show ¬ (60 : Int32) ≤ nI (tR (qS Q)) from nI_ge (b := 60) hf (by omega)), ob_e q.cl, ob_e e1, if_pos rfl, if_pos rfl, ob_e hcl1, ob_e e2, ob_e p2.cl, ob_e e3]
  have tail : ∀ (b : Int32) (w3 : gWd) (t : gMd), PQ E w3 m (m + 1) fi0 G3 (qB Q) L t → ∃ w4, X13_addRow_59 E m b m w3.1 = arT E m w4.1 ∧ FS E J30 w3 w4 ∧ PQ E w4 m (m + 1) fi0 G3 (qB Q) L (chk b 1 t) := fun b w3 t p => by
    obtain ⟨w4, e4, F4, p4⟩ := p.check b (c := 1) (by decide)
    have e4 : X13_check_f E m b (1 : Int32) w3.1 = some w4.1 := e4
    refine ⟨w4, ?_, F4, p4⟩
    unfold X13_addRow_59 arT
    rw [ob_e p.cl, ob_e e4]
  cases hp : pRow (qB Q) L (qS Q).1 (tS (qB Q) L 0) with
  | inl p =>
    have hp1 : pRow1 (qB Q) L (qS Q).1 (tS (qB Q) L 0) = .inl p := by
      unfold pRow1
      rw [hp]
      rfl
    rw [hp] at p3
    obtain ⟨x, x1, x2⟩ := PQ.errN (show PQ E w3 m (m + 1) fi0 G3 (qB Q) L (.inl p) from p3)
    obtain ⟨w4, e4, F4, p4⟩ := tail 1 w3 _ p3
    refine ⟨w4, fi0, G0, G3, ?_, ((F1.trans F2).trans F3).trans F4, hY, PG.o7 g3, ?_, fun r s' z => ?_⟩
    · rw [hfst, ob_e x1, if_neg x2]
      exact e4
    · rw [hp1]
      exact p4
    · rw [hp1] at z
      cases z
  | inr rs =>
    obtain ⟨r, s1⟩ := rs
    rw [hp] at p3
    have p3 : PQ E w3 m (m + 1) fi0 G3 (qB Q) L (.inr s1) := p3
    have r21 : gfI w3.1 m 11 21 = some (nI (tkn (kd (qB Q) L s1))) := by
      obtain ⟨fi, c1, c2, c3, c4⟩ := p3
      rw [← c4.1.2.2.2.1]
      exact gfI_o (x := fi 21) c1.1.2.2 rfl
    have htl := tkn_le (kd (qB Q) L s1)
    by_cases hz : kd (qB Q) L s1 = 0
    · have hp1 : pRow1 (qB Q) L (qS Q).1 (tS (qB Q) L 0) = .inr (r, s1) := by
        unfold pRow1
        rw [hp]
        exact if_pos hz
      obtain ⟨w4, e4, F4, p4⟩ := tail 1 w3 _ p3
      refine ⟨w4, fi0, G0, G3, ?_, ((F1.trans F2).trans F3).trans F4, hY, PG.o7 g3, ?_, fun r' s' z => ?_⟩
      · rw [hfst, ob_e p3.err0, if_pos rfl, ob_e r21, if_pos (show nI (tkn (kd (qB Q) L s1)) = 0 from by rw [hz]; rfl)]
        exact e4
      · rw [hp1]
        exact p4
      · rw [hp1] at z
        cases z
        exact r3 _ r _ rfl hp
    · have hp1 : pRow1 (qB Q) L (qS Q).1 (tS (qB Q) L 0) = .inl (1, s1) := by
        unfold pRow1
        rw [hp]
        exact if_neg hz
      obtain ⟨w4, e4, F4, p4⟩ := tail 0 w3 _ p3
      refine ⟨w4, fi0, G0, G3, ?_, ((F1.trans F2).trans F3).trans F4, hY, PG.o7 g3, ?_, fun r' s' z => ?_⟩
      · rw [hfst, ob_e p3.err0, if_pos rfl, ob_e r21, if_neg (show ¬ nI (tkn (kd (qB Q) L s1)) = 0 from fun y => hz ((tkn_0 _).mp ((nI_eqI (b := 0) (by omega) (by omega)).mp y)))]
        exact e4
      · rw [hp1]
        exact p4
      · rw [hp1] at z
        cases z
theorem M_addRow (hN : 100000 ≤ gN E) (h : RX E w m th Q) (hQ : GQ Q) (hu : ∀ i, qB Q i < 256) (hL : L ≤ qN Q) (hf : tR (qS Q) < 60) {r : Nat → Int32} {s' : Nat} (hp : pRow1 (qB Q) L (qS Q).1 (tS (qB Q) L 0) = .inr (r, s')) : XM E w m 0 (qC (qErr (qI Q 0 (qB Q)) (0, -1)) (apT (qS Q) r)) (nI (tR (qS Q))) (X13_addRow_f E m (nI L) w.1) := by
  obtain ⟨w1, fi0, G0, G, e1, F1, hY, hg, p1, r1⟩ := ar_mid hN h hQ hu hL hf
  rw [hp] at p1
  have p1 : PQ E w1 m (m + 1) fi0 G (qB Q) L (.inr s') := p1
  obtain ⟨w2, fi2, e2, F2, h2, f2, f17, f11, f24, -⟩ := p1.faulty
  have hY2 : RY fi2 G 0 (qErr (qI Q 0 (qB Q)) (0, -1)) := hY.er hg f2 f17 f11 f24
  have hQ2 : GQ (qErr (qI Q 0 (qB Q)) (0, -1)) := ⟨hQ.1, hQ.2.1, hQ.2.2.1, hQ.2.2.2.1, hQ.2.2.2.2.1, hQ.2.2.2.2.2.1, hQ.2.2.2.2.2.2.1, Nat.zero_le _, hQ.2.2.2.2.2.2.2.2⟩
  obtain ⟨w3, G3, e3, F3, h3, hY3, c3, g3⟩ := keepY h2 hY2 hQ.1
  have hv : ∀ c, c < (qS Q).1 → vIn (r c) := fun c hc => by
    obtain ⟨x, s, a1, a2⟩ := pB_r hp
    split at a2
    · cases a2
      exact pRow_v _ _ a1 c hc
    · cases a2
  have h3 : MX E w3 m 1 fi2 G3 (qS Q) := h3
  obtain ⟨w4, G4, e4, F4, h4, o4⟩ := h3.row hN hv (fun c hc => by rw [g3 7 (by decide)]; exact r1 r s' hp c hc) hf
  obtain ⟨w5, e5, F5, h5⟩ := ends_y hN hQ2 hY3 c3 h4 o4
  refine ⟨w5, ?_, (((F1.trans F2).trans F3).trans F4).trans F5, h5⟩
  rw [e1]
  unfold arT
  rw [ob_e p1.cl, ob_e e2, if_pos rfl, ob_e h2.cl, ob_e e3, ob_e h3.1.cl, ob_e e4, ob_e h4.1.cl, ob_e e5]
theorem M_addRowF (hN : 100000 ≤ gN E) (h : RX E w m th Q) (hQ : GQ Q) (hu : ∀ i, qB Q i < 256) (hL : L ≤ qN Q) (hf : tR (qS Q) < 60) {c o : Nat} (hp : pRow1 (qB Q) L (qS Q).1 (tS (qB Q) L 0) = .inl (c, o)) : XM E w m 0 (qErr (qI Q 0 (qB Q)) (nI c, nI o)) (-1) (X13_addRow_f E m (nI L) w.1) := by
  obtain ⟨w1, fi0, G0, G, e1, F1, hY, hg, p1, r1⟩ := ar_mid hN h hQ hu hL hf
  rw [hp] at p1
  have p1 : PQ E w1 m (m + 1) fi0 G (qB Q) L (.inl (c, o)) := p1
  obtain ⟨w2, fi2, e2, F2, h2, f2, f17, f11, f24, -⟩ := p1.faulty
  have hY2 : RY fi2 G 0 (qErr (qI Q 0 (qB Q)) (nI c, nI o)) := hY.er hg f2 f17 f11 f24
  refine ⟨w2, ?_, F1.trans F2, fi2, G, h2, hY2⟩
  rw [e1]
  unfold arT
  rw [ob_e p1.cl, ob_e e2, if_neg i10]
theorem M_addRowE (h : RX E w m th Q) (hQ : GQ Q) {a : Int32} (ha : ¬ lOK (qN Q) a) : XM E w m 1 Q 0 (X13_addRow_f E m a w.1) := by
  have h7 := hQ.2.2.2.2.2.2.2.1
  obtain ⟨g, q⟩ := h.q hQ.1
  have hlen := h.len h7 a
  rw [if_neg ha] at hlen
  have hs : ∀ b : Int32, ∃ w1, X13_lacksBoth_f E m 0 b w.1 = some (1, w1.1) ∧ FS E J30 w w1 ∧ RX E w1 m 1 Q := fun b => by
    obtain ⟨w1, e1, F1, h1⟩ := h.lk2 0 b
    have ht : th2 0 b = 1 := if_pos rfl
    rw [ht, if_neg i10] at e1
    rw [ht] at h1
    exact ⟨w1, e1, F1, h1⟩
  unfold X13_addRow_f X13_addRow X13_addRow_22
  rw [ob_e q.cl, ob_e hlen, ob_e q.r, ob_e q.n1]
  by_cases z : (60 : Int32) ≤ nI (tR (qS Q))
  · obtain ⟨w1, e1, F1, h1⟩ := hs 0
    rw [if_pos z, ob_e q.cl, ob_e e1, if_neg i10]
    exact ⟨w1, rfl, F1, h1⟩
  · obtain ⟨w1, e1, F1, h1⟩ := hs 1
    rw [if_neg z, ob_e q.cl, ob_e e1, if_neg i10]
    exact ⟨w1, rfl, F1, h1⟩
theorem M_addRowG (h : RX E w m th Q) (hQ : GQ Q) (hL : L ≤ qN Q) (hf : ¬ tR (qS Q) < 60) : XM E w m 2 Q 0 (X13_addRow_f E m (nI L) w.1) := by
  have h7 := hQ.2.2.2.2.2.2.2.1
  obtain ⟨g, q⟩ := h.q hQ.1
  have hR := q.R
  have hlen := h.len h7 (nI L)
  rw [if_pos (show lOK (qN Q) (nI L) from by rw [lOK, nI_toInt (by omega)]; omega)] at hlen
  obtain ⟨w1, e1, F1, h1⟩ := h.lk2 1 0
  have ht : th2 1 0 = 2 := by decide
  rw [ht, if_neg (by decide)] at e1
  rw [ht] at h1
  refine ⟨w1, ?_, F1, h1⟩
  unfold X13_addRow_f X13_addRow X13_addRow_22
  rw [ob_e q.cl, ob_e hlen, ob_e q.r, ob_e q.n1, if_pos (show (60 : Int32) ≤ nI (tR (qS Q)) from nI_le (a := 60) (by omega) (by omega)), ob_e q.cl, ob_e e1, if_neg i10]
end MM
