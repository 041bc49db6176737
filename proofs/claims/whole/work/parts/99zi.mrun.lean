/-! pure: the reference runs a script -/
section MM
variable {E : gE} {w : gWd} {m L : Nat} {fi : Nat → Int32} {G : Nat → Nat → Int32} {th : Int32} {Q : gQ}
/-- the state before a script is recorded -/
theorem rec_y (hN : 100000 ≤ gN E) (hQ : GQ Q) (hY : RY fi G th Q) (hg3 : ∀ j, j < 4137 → G 3 j = G 1 j) (h : MX E w m 1 fi G (qS Q)) : ∃ w' G3, X13_record_f E m w.1 = some w'.1 ∧ FS E J30 w w' ∧ MX E w' m 1 (upd fi 9 (nI (min (qZ Q + 1) 8))) G3 (qS Q) ∧ RY (upd fi 9 (nI (min (qZ Q + 1) 8))) G3 th (qC Q (qS Q)) ∧ ∀ j, j ≠ 5 → G3 j = G j := by
  obtain ⟨c1, c2, c3, c4, c5, c6, c7, c8, c9⟩ := hQ
  obtain ⟨a1, a2, a3, a4, a5, a6, a7, a8, a9, a10, a11, a12⟩ := hY
  obtain ⟨w2, G3, e2, F2, h2, o2, s2, t2⟩ := h.1.record hN (z := qZ Q) a1 c7
  have h21 : MT (G3 1) (qS Q) := by
    rw [o2 1 (by decide)]
    exact h.2.2.1
  refine ⟨w2, G3, e2, F2, ⟨h2, Or.inl rfl, h21, c1⟩, ⟨rfl, a2, a3, a4, a5, a6, a7, h21, fun z => ?_, fun i hi => ?_, fun i hi => ?_, fun i hi => ?_⟩, o2⟩
  · rw [o2 4 (by decide)]
    exact a9 z
  · have hi : i < min (qZ Q + 1) 8 := hi
    show MT _ (if ((qX Q + 1) % 8 + 8 - min (qZ Q + 1) 8 + i) % 8 = qX Q then cpT (qS Q) (qR Q (((qX Q + 1) % 8 + 8 - min (qZ Q + 1) 8 + i) % 8)) else qR Q (((qX Q + 1) % 8 + 8 - min (qZ Q + 1) 8 + i) % 8))
    by_cases h8 : qZ Q = 8
    · obtain ⟨t3, t4⟩ := t2 h8
      by_cases hl : i = 7
      · subst hl
        rw [if_pos (by omega)]
        refine ((a8.cong c1 fun j hj => ?_) : MT _ (qS Q)).cp c1 _
        rw [t4 j hj, hg3 j hj]
      · rw [if_neg (by omega), show ((qX Q + 1) % 8 + 8 - min (qZ Q + 1) 8 + i) % 8 = (qX Q + 8 - qZ Q + (i + 1)) % 8 by omega]
        refine (a10 (i + 1) (by omega)).cong (c3 (i + 1) (by omega)) fun j hj => ?_
        show G3 5 (4137 * i + j) = _
        rw [t3 i j (by omega) hj]
    · obtain ⟨t3, t4⟩ := s2 (by omega)
      by_cases hl : i = qZ Q
      · rw [if_pos (by omega)]
        refine ((a8.cong c1 fun j hj => ?_) : MT _ (qS Q)).cp c1 _
        rw [hl, t4 j hj, hg3 j hj]
      · rw [if_neg (by omega), show ((qX Q + 1) % 8 + 8 - min (qZ Q + 1) 8 + i) % 8 = (qX Q + 8 - qZ Q + i) % 8 by omega]
        refine (a10 i (by omega)).cong (c3 i (by omega)) fun j hj => ?_
        show G3 5 (4137 * i + j) = _
        rw [t3 i j (by omega) hj]
  · rw [o2 9 (by decide)]
    exact a11 i hi
  · rw [o2 10 (by decide)]
    exact a12 i hi
/-- the table alone has changed -/
theorem RY.rs {fi' : Nat → Int32} {G' : Nat → Nat → Int32} (h : RY fi G th Q) {S' : gT} (hT : MT (G' 1) S') (hf : ∀ j, j ≠ 12 → fi' j = fi j) (hg : ∀ j, j ≠ 1 → j ≠ 6 → j ≠ 7 → j ≠ 8 → G' j = G j) : RY fi' G' th (S', Q.2) := by
  obtain ⟨a1, a2, a3, a4, a5, a6, a7, a8, a9, a10, a11, a12⟩ := h
  refine ⟨by rw [hf 9 (by decide)]; exact a1, by rw [hf 10 (by decide)]; exact a2, by rw [hf 11 (by decide)]; exact a3, by rw [hf 13 (by decide)]; exact a4, by rw [hf 15 (by decide)]; exact a5, by rw [hf 17 (by decide)]; exact a6, by rw [hf 24 (by decide)]; exact a7, hT, fun z => ?_, fun i hi => ?_, fun i hi => ?_, fun i hi => ?_⟩
  · rw [hg 4 (by decide) (by decide) (by decide) (by decide)]
    exact a9 z
  · rw [hg 5 (by decide) (by decide) (by decide) (by decide)]
    exact a10 i hi
  · rw [hg 9 (by decide) (by decide) (by decide) (by decide)]
    exact a11 i hi
  · rw [hg 10 (by decide) (by decide) (by decide) (by decide)]
    exact a12 i hi
theorem rs_mid (hO : gOK E) (h : RX E w m th Q) (hQ : GQ Q) (hu : ∀ i, qB Q i < 256) (hL : L ≤ qN Q) : ∃ w' fi0 fi1 G0 G, X13_runScript_f E m (nI L) w.1 = X13_runScript_45 E m w'.1 ∧ FS E J30 w w' ∧ RY fi0 G0 0 Q ∧ PF fi0 fi1 ∧ PG G0 G ∧ PQ E w' m (m + 1) fi1 G (qB Q) L (mdf (pScr (qB Q) L (qS Q).1 20 (tS (qB Q) L 0))) ∧ ∀ r s', pScr (qB Q) L (qS Q).1 20 (tS (qB Q) L 0) = .inr (r, s') → fi1 28 = nI r.1 ∧ ∀ j, j < r.1 → orF (qS Q).1 (r.2 j) (fun x => G 11 (7 * j + x)) := by
  have hN := hO.1
  have h7 := hQ.2.2.2.2.2.2.2.1
  have hlen := h.len h7 (nI L)
  rw [if_pos (show lOK (qN Q) (nI L) from by rw [lOK, nI_toInt (by omega)]; omega)] at hlen
  obtain ⟨w1, e1, F1, h1⟩ := h.lkY
  obtain ⟨fi0, G0, b1, hY⟩ := h1
  obtain ⟨w2, e2, F2, b2⟩ := b1.put 28 0 rfl (by decide)
  have hB := hY.bu h7 hu hL
  obtain ⟨w3, e3, F3, p3⟩ := b2.startT hN hB
  have hC0 : G0 1 0 = nI (qS Q).1 := hY.2.2.2.2.2.2.2.1.1
  obtain ⟨w4, fi1, G4, e4, F4, pf4, p4, g4, l4, r4⟩ := sc_rd hO hQ.1.1 hQ.1.2.1 20 0 (gN E) _ w3 _ G0 (by omega) (by omega) p3 hB hC0 rfl
  refine ⟨w4, fi0, fi1, G0, G4, ?_, ((F1.trans F2).trans F3).trans F4, hY, (PF.u _ (by decide) (by decide)).tr pf4, fun j _ b c => g4 j b c, p4, fun r s' hp => ?_⟩
  · unfold X13_runScript_f X13_runScript
    rw [ob_e h.cl, ob_e hlen, ob_e h.cl, ob_e e1, if_pos rfl, ob_e e2, ob_e b2.cl, ob_e e3]
    exact e4
  · obtain ⟨x1, x2⟩ := r4 r s' hp
    rw [Nat.zero_add] at x1
    refine ⟨x1, fun j hj => ?_⟩
    have := x2 j hj
    rw [Nat.zero_add] at this
    exact this
theorem M_runScript (hO : gOK E) (h : RX E w m th Q) (hQ : GQ Q) (hu : ∀ i, qB Q i < 256) (hL : L ≤ qN Q) {q : Nat × (Nat → gCmd)} {s' : Nat} (hp : pScr (qB Q) L (qS Q).1 20 (tS (qB Q) L 0) = .inr (q, s')) : XM E w m 0 ((rnS q.2 q.1 0 (qS Q)).2, (qC (qErr (qI Q 0 (qB Q)) (0, -1)) (qS Q)).2) (nI (rnS q.2 q.1 0 (qS Q)).1) (X13_runScript_f E m (nI L) w.1) := by
  have hN := hO.1
  obtain ⟨v1, v2⟩ := pScr_v hQ.1.1 20 _ hp
  obtain ⟨w1, fi0, fi1, G0, G, e1, F1, hY, pf, hg, p1, r1⟩ := rs_mid hO h hQ hu hL
  rw [hp] at p1
  obtain ⟨n28, o1⟩ := r1 q s' hp
  have p1 : PQ E w1 m (m + 1) fi1 G (qB Q) L (.inr s') := p1
  obtain ⟨w2, fi2, e2, F2, h2, f2, f17, f11, f24, f28⟩ := p1.faulty
  have hY2 : RY fi2 G 0 (qErr (qI Q 0 (qB Q)) (0, -1)) := (hY.pf pf PG.rf).er hg f2 f17 f11 f24
  have hQ2 : GQ (qErr (qI Q 0 (qB Q)) (0, -1)) := hQ.err (0, -1)
  obtain ⟨w3, G3, e3, F3, h3, hY3, c3, g3⟩ := keepY h2 hY2 hQ.1
  obtain ⟨w4, G4, e4, F4, h4, hY4, o4⟩ := rec_y hN hQ2 hY3 c3 h3
  have h4 : MX E w4 m 1 (upd fi2 9 (nI (min (qZ Q + 1) 8))) G4 (qS Q) := h4
  obtain ⟨w5, fi5, G5, e5, F5, h5, n5, g5⟩ := rn_loop hN v1 v2 q.1 0 (gN E) w4 _ G4 (qS Q) (by omega) (by omega) h4 rfl (by
    rw [upd_o _ _ (by decide), f28]
    exact n28) (fun j hj => by
    rw [o4 11 (by decide), g3 11 (by decide)]
    exact o1 j hj)
  refine ⟨w5, ?_, (((F1.trans F2).trans F3).trans F4).trans F5, fi5, G5, h5.1, hY4.rs h5.2.2.1 n5 g5⟩
  rw [e1]
  unfold X13_runScript_45
  rw [ob_e p1.cl, ob_e e2, if_pos rfl, ob_e h2.cl, ob_e e3, ob_e h3.1.cl, ob_e e4]
  exact e5
theorem M_runScriptF (hO : gOK E) (h : RX E w m th Q) (hQ : GQ Q) (hu : ∀ i, qB Q i < 256) (hL : L ≤ qN Q) {c o : Nat} (hp : pScr (qB Q) L (qS Q).1 20 (tS (qB Q) L 0) = .inl (c, o)) : XM E w m 0 (qErr (qI Q 0 (qB Q)) (nI c, nI o)) (-1) (X13_runScript_f E m (nI L) w.1) := by
  obtain ⟨w1, fi0, fi1, G0, G, e1, F1, hY, pf, hg, p1, r1⟩ := rs_mid hO h hQ hu hL
  rw [hp] at p1
  have p1 : PQ E w1 m (m + 1) fi1 G (qB Q) L (.inl (c, o)) := p1
  obtain ⟨w2, fi2, e2, F2, h2, f2, f17, f11, f24, -⟩ := p1.faulty
  have hY2 : RY fi2 G 0 (qErr (qI Q 0 (qB Q)) (nI c, nI o)) := (hY.pf pf PG.rf).er hg f2 f17 f11 f24
  refine ⟨w2, ?_, F1.trans F2, fi2, G, h2, hY2⟩
  rw [e1]
  unfold X13_runScript_45
  rw [ob_e p1.cl, ob_e e2, if_neg i10]
theorem M_runScriptE (h : RX E w m th Q) (hQ : GQ Q) {a : Int32} (ha : ¬ lOK (qN Q) a) : XM E w m 1 Q 0 (X13_runScript_f E m a w.1) := by
  have h7 := hQ.2.2.2.2.2.2.2.1
  have hlen := h.len h7 a
  rw [if_neg ha] at hlen
  obtain ⟨w1, e1, F1, h1⟩ := h.lkN
  refine ⟨w1, ?_, F1, h1⟩
  unfold X13_runScript_f X13_runScript
  rw [ob_e h.cl, ob_e hlen, ob_e h.cl, ob_e e1, if_neg i10]
end MM
