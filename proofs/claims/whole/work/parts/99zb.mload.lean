/-! pure: the reference loads a table -/
section MM
variable {E : gE} {w : gWd} {m ro L : Nat} {fi fi0 : Nat → Int32} {G : Nat → Nat → Int32} {u : Nat → Nat} {t : gMd} {th : Int32} {Q : gQ}
theorem PQ.setrow (h : PQ E w m ro fi0 G u L t) (x : Nat) : ∃ w', gpf E w.1 m 11 8 (.ref x) = some w'.1 ∧ FS E J30 w w' ∧ PQ E w' m x fi0 G u L t := by
  obtain ⟨fi, b1, p1, q1, d1⟩ := h
  obtain ⟨w1, e1, F1, b2⟩ := b1.setrow x
  exact ⟨w1, e1, F1, fi, b2, p1, q1, d1⟩
/-- what follows when the text has been read -/
def ldT (E : gE) (m : Nat) (σ : gS) : Option (Int32 × gS) := ob (gcl σ m 11) fun _ => ob (X13_isFaulty_f E m σ) fun x21 => if x21.1 = 0 then ob (gfR x21.2 m 11 1) fun x24 => ob (gfR x21.2 m 11 0) fun x26 => ob (X13_copy_f E x24 (0 : Int32) x26 (0 : Int32) x21.2) fun x28 => ob (gpf E x28 m 11 9 (.int (0 : Int32))) fun σ30 => ob (gz (0 : Int32)) fun _ => ob (gpf E σ30 m 11 13 (.int (0 : Int32))) fun σ32 => ob (gfR σ32 m 11 8) fun x35 => ob (graI E 0 σ32 x35 (1 : Int32)) fun x37 => some (x37, σ32) else some ((-1 : Int32), x21.2)
theorem ld_mid (hO : gOK E) (h : RX E w m th Q) (hQ : GQ Q) (hu : ∀ i, qB Q i < 256) (hL : L ≤ qN Q) : ∃ w' fi0 G0 G, X13_loadTable_f E m (nI L) w.1 = ldT E m w'.1 ∧ FS E J30 w w' ∧ RY fi0 G0 0 Q ∧ PG G0 G ∧ PQ E w' m (m + 1) fi0 G (qB Q) L (mdf (pTable (qB Q) L (tS (qB Q) L 0))) ∧ ∀ q s', pTable (qB Q) L (tS (qB Q) L 0) = .inr (q, s') → MT (G 2) (repT q.1 q.2.1 q.2.2 (qS Q)) := by
  have hN := hO.1
  have h7 := hQ.2.2.2.2.2.2.2.1
  have hlen := h.len h7 (nI L)
  rw [if_pos (show lOK (qN Q) (nI L) from by rw [lOK, nI_toInt (by omega)]; omega)] at hlen
  obtain ⟨w1, e1, F1, h1⟩ := h.lkY
  have hcl1 := h1.cl
  obtain ⟨fi0, G0, b1, hY⟩ := h1
  have hB := hY.bu h7 hu hL
  obtain ⟨w2, e2, F2, p2⟩ := b1.startT hN hB
  have r1 : gfR w2.1 m 11 1 = some (m + 2) := by
    obtain ⟨fi, b2, -⟩ := id p2
    exact b2.f1
  obtain ⟨w3, e3, F3, p3⟩ := p2.setrow (m + 2)
  obtain ⟨w4, G4, e4, F4, p4, g4, T4⟩ := p3.readTable hO hB (qS Q)
  have r0 : gfR w4.1 m 11 0 = some (m + 1) := by
    obtain ⟨fi, b2, -⟩ := id p4
    exact b2.f0
  obtain ⟨w5, e5, F5, p5⟩ := p4.setrow (m + 1)
  refine ⟨w5, fi0, G0, G4, ?_, (((F1.trans F2).trans F3).trans F4).trans F5, hY, g4, p5, T4⟩
  unfold X13_loadTable_f X13_loadTable ldT
  rw [ob_e h.cl, ob_e hlen, ob_e h.cl, ob_e e1, if_pos rfl, ob_e hcl1, ob_e e2, ob_e r1, ob_e e3, ob_e p3.cl, ob_e e4, ob_e r0, ob_e e5]
theorem M_loadTable (hO : gOK E) (h : RX E w m th Q) (hQ : GQ Q) (hu : ∀ i, qB Q i < 256) (hL : L ≤ qN Q) {q : Nat × Nat × (Nat → Int32)} {s' : Nat} (hp : pTable (qB Q) L (tS (qB Q) L 0) = .inr (q, s')) : XM E w m 0 (repT q.1 q.2.1 q.2.2 (qS Q), qU Q, false, (qX Q, 0, qR Q), (0, qB Q), (0, -1), Q.2.2.2.2.2.2) (nI q.2.1) (X13_loadTable_f E m (nI L) w.1) := by
  obtain ⟨v1, v2, v3, v4⟩ := pTable_v hp
  obtain ⟨w1, fi0, G0, G, e1, F1, hY, hg, p1, T1⟩ := ld_mid hO h hQ hu hL
  have hT := T1 q s' hp
  obtain ⟨hG, hr⟩ := GS.rep (x := q.2.2) (S := qS Q) v1 v2 v3 v4
  rw [hp] at p1
  have p1 : PQ E w1 m (m + 1) fi0 G (qB Q) L (.inr s') := p1
  obtain ⟨w2, fi2, e2, F2, h2, f2, f17, f11, f24, -⟩ := p1.faulty
  have hY2 : RY fi2 G 0 (qErr (qI Q 0 (qB Q)) (0, -1)) := hY.er hg f2 f17 f11 f24
  obtain ⟨w3, e3, F3, h3⟩ := h2.cpy (a := 2) (b := 1) (i := 0) (j := 0) (by omega) (by omega) (by omega) (by omega) (by decide) (by decide)
  have e3 : X13_copy_f E (m + 2) (0 : Int32) (m + 1) (0 : Int32) w2.1 = some w3.1 := e3
  obtain ⟨w4, e4, F4, h4⟩ := h3.put 9 0 rfl (by decide)
  obtain ⟨w5, e5, F5, h5⟩ := h4.put 13 0 rfl (by decide)
  obtain ⟨a1, a2, a3, a4, a5, a6, a7, a8, a9, a10, a11, a12⟩ := hY2
  have hT5 : MT (updG G 1 (va_cpy (G 2) (G 1) (4137 * 0) (4137 * 0) 4137) 1) (repT q.1 q.2.1 q.2.2 (qS Q)) := by
    rw [updG_s]
    refine hT.cong hG fun j hj => ?_
    rw [show 4137 * 0 = 0 from rfl, cpy0 hj, Nat.zero_add]
  have q5 := h5.q (Or.inl rfl) hT5 hG
  have n1 := q5.n1
  rw [hr] at n1
  refine ⟨w5, ?_, (((F1.trans F2).trans F3).trans F4).trans F5, _, _, h5, rfl, a2, a3, rfl, a5, a6, a7, hT5, fun z => ?_, fun i hi => ?_, fun i hi => ?_, fun i hi => ?_⟩
  · rw [e1]
    unfold ldT
    rw [ob_e p1.cl, ob_e e2, if_pos rfl, ob_e h2.f1, ob_e h2.f0, ob_e e3, ob_e e4, ob_e gz0', ob_e e5, ob_e q5.r, ob_e n1]
  · have z : false = true := z
    cases z
  · have hi : i < 0 := hi
    omega
  · rw [updG_o _ _ (by decide)]
    exact a11 i hi
  · have hi : i < 0 := hi
    omega
theorem M_loadTableF (hO : gOK E) (h : RX E w m th Q) (hQ : GQ Q) (hu : ∀ i, qB Q i < 256) (hL : L ≤ qN Q) {c o : Nat} (hp : pTable (qB Q) L (tS (qB Q) L 0) = .inl (c, o)) : XM E w m 0 (qErr (qI Q 0 (qB Q)) (nI c, nI o)) (-1) (X13_loadTable_f E m (nI L) w.1) := by
  obtain ⟨w1, fi0, G0, G, e1, F1, hY, hg, p1, T1⟩ := ld_mid hO h hQ hu hL
  rw [hp] at p1
  have p1 : PQ E w1 m (m + 1) fi0 G (qB Q) L (.inl (c, o)) := p1
  obtain ⟨w2, fi2, e2, F2, h2, f2, f17, f11, f24, -⟩ := p1.faulty
  have hY2 : RY fi2 G 0 (qErr (qI Q 0 (qB Q)) (nI c, nI o)) := hY.er hg f2 f17 f11 f24
  refine ⟨w2, ?_, F1.trans F2, fi2, G, h2, hY2⟩
  rw [e1]
  unfold ldT
  rw [ob_e p1.cl, ob_e e2, if_neg i10]
theorem M_loadTableE (h : RX E w m th Q) (hQ : GQ Q) {a : Int32} (ha : ¬ lOK (qN Q) a) : XM E w m 1 Q 0 (X13_loadTable_f E m a w.1) := by
  have h7 := hQ.2.2.2.2.2.2.2.1
  have hlen := h.len h7 a
  rw [if_neg ha] at hlen
  obtain ⟨w1, e1, F1, h1⟩ := h.lkN
  refine ⟨w1, ?_, F1, h1⟩
  unfold X13_loadTable_f X13_loadTable
  rw [ob_e h.cl, ob_e hlen, ob_e h.cl, ob_e e1, if_neg i10]
end MM
