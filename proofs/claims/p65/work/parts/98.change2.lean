/-! pure: snapshots, undoing, bytes in, bytes out -/
theorem nar_b (y : Int32) : vp_nar .byte (gi2b y) = y.toInt8.toInt32 := fb_byte_twice y
theorem and255 (z : Int32) : ∃ b, b < 256 ∧ z &&& 255 = nI b := by
  obtain ⟨n, hn, rfl⟩ := wb_of32 z
  exact ⟨n % 256, Nat.mod_lt _ (by decide), fa_mask n 8⟩
/-- the byte of x whose lowest bit is bit s -/
def by4 (x : Int32) (s : Nat) : Nat := ((x >>> (nI s &&& 31)) &&& 255).toInt.toNat
theorem by4_ok (x : Int32) (s : Nat) : by4 x s < 256 ∧ nI (by4 x s) = (x >>> (nI s &&& 31)) &&& 255 := by
  obtain ⟨b, hb, e⟩ := and255 (x >>> (nI s &&& 31))
  have h1 : by4 x s = b := by
    unfold by4
    rw [e, nI_toInt (by omega)]
    omega
  exact ⟨by omega, by rw [h1, e]⟩
theorem by4_sb (x : Int32) (s : Nat) : (x >>> (nI s &&& 31)).toInt8.toInt32 = sb (by4 x s) := by
  unfold sb
  rw [(by4_ok x s).2, fa_byte_low]
/-- the word of byte k, the shift of byte k -/
def apF (a b c d e : Int32) (k : Nat) : Nat := by4 (if k < 4 then a else if k < 8 then b else if k < 12 then c else if k < 16 then d else e) (24 - 8 * (k % 4))
def apB (u : Nat → Nat) (n : Nat) (f : Nat → Nat) : Nat → Nat → Nat
  | 0 => u
  | k + 1 => updN (apB u n f k) (n + k) (f k)
def qI (Q : gQ) (n : Nat) (u : Nat → Nat) : gQ := (qS Q, qU Q, qH Q, Q.2.2.2.1, (n, u), Q.2.2.2.2.2)
def qOut (Q : gQ) (o : Nat × (Nat → Int32)) : gQ := (qS Q, qU Q, qH Q, Q.2.2.2.1, Q.2.2.2.2.1, Q.2.2.2.2.2.1, o)
def qErr (Q : gQ) (e : Int32 × Int32) : gQ := (qS Q, qU Q, qH Q, Q.2.2.2.1, Q.2.2.2.2.1, e, Q.2.2.2.2.2.2)
theorem IN.byte {E : gE} {w : gWd} {ia n m s : Nat} {u : Nat → Nat} {x : Int32} (h : IN E w ia n u) (hn : n < 700) (hs : s < 32) : ∃ w', X6_append_3 E (m + 1) ia x (nI s) w.1 = X6_append_3 E m ia x (nI s + -8) w'.1 ∧ FS E J22 w w' ∧ IN E w' ia (n + 1) (updN u n (by4 x s)) := by
  obtain ⟨⟨L, k, s0, e, q, h1⟩, h2, ⟨g, h3, h4⟩, h6⟩ := h
  obtain ⟨e1, A1, F1⟩ := h3.st (i := n) hn (by decide) (gi2b (x >>> (nI s &&& 31))) (J := fun t => t = (11, 22, 0)) rfl
  have O1 := h1.fr F1 (t3_ne (by decide))
  obtain ⟨e2, O2, F2⟩ := O1.put (E := E) 1 (.int (nI (n + 1))) (Nat.le_of_ble_eq_true rfl) (J := fun t => t = (10, 22, 0)) rfl
  refine ⟨_, ?_, (F1.mono (fun t z => by rw [z])).trans (F2.mono (fun t z => by rw [z])), ⟨_, _, _, _, _, O2⟩, by omega, ⟨_, A1.fr F2 (t3_ne (by decide)), fun i hi => ?_⟩, fun i => ?_⟩
  · show X6_append_3_s E (X6_append_3 E m) ia x (nI s) w.1 = _
    unfold X6_append_3_s
    rw [if_neg (nI_pos (by omega)), ob_e (gfI_o h1.2.2 rfl), if_neg (show ¬ (700 : Int32) ≤ nI n from nI_ge (b := 700) hn (by decide)), ob_e (gfR_o h1.2.2 rfl), ob_e (gfI_o h1.2.2 rfl), ob_e e1, ob_e (gfI_o O1.2.2 rfl), ← nI_succ, ob_e e2]
  · unfold upd updN
    by_cases hz : i = n
    · rw [if_pos hz, if_pos hz, nar_b, by4_sb]
    · rw [if_neg hz, if_neg hz]
      exact h4 i (by omega)
  · unfold updN
    split
    · exact (by4_ok _ _).1
    · exact h6 i
theorem IN.word {E : gE} {w : gWd} {ia n : Nat} {u : Nat → Nat} {x : Int32} (hN : 100000 ≤ gN E) (h : IN E w ia n u) (hn : n + 4 ≤ 700) : ∃ w', X6_append_f E ia x w.1 = some w'.1 ∧ FS E J22 w w' ∧ IN E w' ia (n + 4) (updN (updN (updN (updN u n (by4 x 24)) (n + 1) (by4 x 16)) (n + 2) (by4 x 8)) (n + 3) (by4 x 0)) := by
  obtain ⟨m, hm⟩ : ∃ m, gN E = m + 5 := ⟨gN E - 5, by omega⟩
  obtain ⟨w1, e1, F1, h1⟩ := h.byte (m := m + 4) (x := x) (s := 24) (by omega) (by decide)
  obtain ⟨w2, e2, F2, h2⟩ := h1.byte (m := m + 3) (x := x) (s := 16) (by omega) (by decide)
  obtain ⟨w3, e3, F3, h3⟩ := h2.byte (m := m + 2) (x := x) (s := 8) (by omega) (by decide)
  obtain ⟨w4, e4, F4, h4⟩ := h3.byte (m := m + 1) (x := x) (s := 0) (by omega) (by decide)
  refine ⟨w4, ?_, F1.trans (F2.trans (F3.trans F4)), h4⟩
  show X6_append_3 E (gN E) ia x (nI 24) w.1 = _
  rw [hm, e1, show nI 24 + -8 = nI 16 from rfl, e2, show nI 16 + -8 = nI 8 from rfl, e3, show nI 8 + -8 = nI 0 from rfl, e4]
  show X6_append_3_s E (X6_append_3 E m) ia x (nI 0 + -8) w4.1 = _
  unfold X6_append_3_s
  rw [if_pos (by decide)]
theorem IN.size {E : gE} {w : gWd} {ia n : Nat} {u : Nat → Nat} (h : IN E w ia n u) : X6_size_f E w.1 ia = some (nI n) := by
  obtain ⟨⟨L, k, s0, e, q, h1⟩, -⟩ := h
  unfold X6_size_f X6_size
  rw [ob_e (gfI_o h1.2.2 rfl)]
theorem IN.clear {E : gE} {w : gWd} {ia n : Nat} {u : Nat → Nat} (h : IN E w ia n u) : ∃ w', X6_clear_f E ia w.1 = some w'.1 ∧ FS E J22 w w' ∧ IN E w' ia 0 u := by
  obtain ⟨⟨L, k, s0, e, q, h1⟩, h2, ⟨g, h3, h4⟩, h6⟩ := h
  obtain ⟨e1, O1, F1⟩ := h1.put (E := E) 1 (.int 0) (Nat.le_of_ble_eq_true rfl) (J := fun t => t = (10, 22, 0)) rfl
  refine ⟨_, ?_, F1.mono (fun t z => by rw [z]), ⟨_, _, _, _, _, O1⟩, by omega, ⟨g, h3.fr F1 (t3_ne (by decide)), fun i hi => by omega⟩, h6⟩
  unfold X6_clear_f X6_clear
  rw [ob_e e1]
section KW
variable {E : gE} {w : gWd} {l : Nat} {ad : Nat → Nat} {Q : gQ}
/-- other things of the text reader -/
theorem RK.rd (h : RK E w l ad Q) {w' : gWd} {n : Nat} {u : Nat → Nat} {er of : Int32} (hF : FS E JP w w') (hI : IN E w' (ad 4) n u) (hP : PZ E w' (ad 5) (ad 4) er of) : RK E w' l ad (qErr (qI Q n u) (er, of)) := by
  obtain ⟨h1, h2, h3, h4, h5, h6, ⟨g, h7, h8⟩, ⟨k, s, h9⟩, ⟨f, h10⟩, wd, W, h11⟩ := h
  have no : ∀ κ j c, ¬ j = 22 → ¬ j = 23 → ¬ JP (κ, j, c) := fun κ j c a b z => z.elim a b
  exact ⟨h1.fr hF (no _ _ _ (by decide) (by decide)), h2.fr hF (fun κ c => no _ _ _ (by decide) (by decide)), h3.fr hF (fun κ c => no _ _ _ (by decide) (by decide)), h4.fr hF (fun κ j c hj => by
    have hj' : j = 24 ∨ (2 ≤ j ∧ j < 10) := hj
    exact no _ _ _ (by omega) (by omega)), hI, hP, ⟨g, h7.fr hF (no _ _ _ (by decide) (by decide)), h8⟩, ⟨k, s, h9.fr hF (fun κ => no _ _ _ (by decide) (by decide))⟩, ⟨f, h10.fr hF (no _ _ _ (by decide) (by decide)) (no _ _ _ (by decide) (by decide))⟩, wd, W, h11.fr hF (fun κ => no _ _ _ (by decide) (by decide))⟩
theorem JKP (t : Nat × Nat × Nat) (h : JP t) : JK t := by
  show t.2.1 < 30
  rcases h with h | h <;> rw [h] <;> decide
theorem J22P (t : Nat × Nat × Nat) (h : J22 t) : JP t := Or.inl (congrArg Prod.fst h)
theorem RK.hIN (h : RK E w l ad Q) : IN E w (ad 4) (qN Q) (qB Q) := h.2.2.2.2.1
theorem RK.hPZ (h : RK E w l ad Q) : PZ E w (ad 5) (ad 4) (qE Q) (qF Q) := h.2.2.2.2.2.1
theorem RK.inp (h : RK E w l ad Q) {w' : gWd} {n : Nat} {u : Nat → Nat} (hF : FS E J22 w w') (hI : IN E w' (ad 4) n u) : RK E w' l ad (qI Q n u) :=
  h.rd (hF.mono J22P) hI (h.hPZ.fr hF (fun κ i z => by cases (congrArg Prod.fst z : (23 : Nat) = 22)))
theorem K_appendText (hN : 100000 ≤ gN E) (h : RK E w l ad Q) {a b c d e : Int32} (hn : qN Q + 20 ≤ 700) : ∃ w', X12_appendText_f E l a b c d e w.1 = some (nI (qN Q + 20), w'.1) ∧ FS E J22 w w' ∧ RK E w' l ad (qI Q (qN Q + 20) (apB (qB Q) (qN Q) (apF a b c d e) 20)) := by
  obtain ⟨w1, e1, F1, i1⟩ := h.hIN.word hN (x := a) (by omega)
  have h1 := h.inp F1 i1
  obtain ⟨w2, e2, F2, i2⟩ := h1.hIN.word hN (x := b) (by show qN Q + 4 + 4 ≤ 700; omega)
  have h2 := h1.inp F2 i2
  obtain ⟨w3, e3, F3, i3⟩ := h2.hIN.word hN (x := c) (by show qN Q + 4 + 4 + 4 ≤ 700; omega)
  have h3 := h2.inp F3 i3
  obtain ⟨w4, e4, F4, i4⟩ := h3.hIN.word hN (x := d) (by show qN Q + 4 + 4 + 4 + 4 ≤ 700; omega)
  have h4 := h3.inp F4 i4
  obtain ⟨w5, e5, F5, i5⟩ := h4.hIN.word hN (x := e) (by show qN Q + 4 + 4 + 4 + 4 + 4 ≤ 700; omega)
  have h5 := h4.inp F5 i5
  refine ⟨w5, ?_, F1.trans (F2.trans (F3.trans (F4.trans F5))), h5⟩
  have e0 : nI (qN Q) + (20 : Int32) = nI (qN Q + 20) := nI_add _ 20
  unfold X12_appendText_f X12_appendText
  rw [ob_e h.f4, ob_e h.hIN.icl, ob_e h.hIN.size, e0, if_pos (show nI (qN Q + 20) ≤ (700 : Int32) from nI_le (b := 700) hn (by decide)), ob_e h.f4, ob_e h.hIN.icl, ob_e e1, ob_e h1.f4, ob_e h1.hIN.icl, ob_e e2, ob_e h2.f4, ob_e h2.hIN.icl, ob_e e3, ob_e h3.f4, ob_e h3.hIN.icl, ob_e e4, ob_e h4.f4, ob_e h4.hIN.icl, ob_e e5, ob_e h5.f4, ob_e h5.hIN.icl, ob_e h5.hIN.size]
  rfl
theorem K_appendTextF (h : RK E w l ad Q) {a b c d e : Int32} (h7 : qN Q ≤ 700) (hn : ¬ qN Q + 20 ≤ 700) : X12_appendText_f E l a b c d e w.1 = some (-1, w.1) := by
  have e0 : nI (qN Q) + (20 : Int32) = nI (qN Q + 20) := nI_add _ 20
  unfold X12_appendText_f X12_appendText
  rw [ob_e h.f4, ob_e h.hIN.icl, ob_e h.hIN.size, e0, if_neg (show ¬ nI (qN Q + 20) ≤ (700 : Int32) from nI_ge (a := 700) (by omega) (by omega))]
abbrev J25 : Nat × Nat × Nat → Prop := fun t => t.2 = (25, 0)
theorem JK25 (t : Nat × Nat × Nat) (h : J25 t) : JK t := by show t.2.1 < 30; rw [h]; decide
theorem RK.own (h : RK E w l ad Q) {w' : gWd} {b : Bool} {o : Nat × (Nat → Int32)} (hF : FS E J25 w w') (h1 : Ob w' (10, 25, 0) l 10 [.ref (ad 0), .ref (ad 1), .int (if b = true then 1 else 0), .ref (ad 3), .ref (ad 4), .ref (ad 5), .ref (ad 6), .int (nI o.1), .ref (ad 8), .ref (ad 9), .ref (ad 10)]) (h2 : ∃ g, ArB E w' (11, 25, 0) (ad 6) 36 g ∧ ∀ i, i < o.1 → g i = o.2 i) : RK E w' l ad (qS Q, qU Q, b, Q.2.2.2.1, Q.2.2.2.2.1, Q.2.2.2.2.2.1, o) := by
  obtain ⟨-, g2, g3, g4, g5, g6, -, ⟨k, s, g9⟩, ⟨f, g10⟩, wd, W, g11⟩ := h
  have no : ∀ κ j c, ¬ j = 25 → ¬ J25 (κ, j, c) := fun κ j c a z => a (congrArg Prod.fst z)
  exact ⟨h1, g2.fr hF (fun κ c => no _ _ _ (by decide)), g3.fr hF (fun κ c => no _ _ _ (by decide)), g4.fr hF (fun κ j c hj => by
    have hj' : j = 24 ∨ (2 ≤ j ∧ j < 10) := hj
    exact no _ _ _ (by omega)), g5.fr hF (fun κ => no _ _ _ (by decide)), g6.fr hF (fun κ i => no _ _ _ (by decide)), h2, ⟨k, s, g9.fr hF (fun κ => no _ _ _ (by decide))⟩, ⟨f, g10.fr hF (no _ _ _ (by decide)) (no _ _ _ (by decide))⟩, wd, W, g11.fr hF (fun κ => no _ _ _ (by decide))⟩
theorem RK.flag (h : RK E w l ad Q) (b : Bool) : ∃ w', gpf E w.1 l 10 2 (.int (if b = true then 1 else 0)) = some w'.1 ∧ FS E J25 w w' ∧ RK E w' l ad (qS Q, qU Q, b, Q.2.2.2) := by
  obtain ⟨e1, O1, F1⟩ := h.1.put (E := E) 2 (.int (if b = true then 1 else 0)) (Nat.le_of_ble_eq_true rfl) (J := fun t => t = (10, 25, 0)) rfl
  have F2 : FS E J25 w _ := F1.mono (fun t z => by rw [z])
  obtain ⟨g, h7, h8⟩ := h.2.2.2.2.2.2.1
  exact ⟨_, e1, F2, h.own (b := b) (o := Q.2.2.2.2.2.2) F2 O1 ⟨g, h7.fr F1 (t3_ne (by decide)), h8⟩⟩
/-- another snapshot -/
theorem RK.sn (h : RK E w l ad Q) {w' : gWd} {U' : gT} (hF : FS E (Js 1) w w') (hU : RS E w' (ad 1) 1 U') : RK E w' l ad (qS Q, U', Q.2.2) := by
  obtain ⟨h1, h2, h3, h4, h5, h6, ⟨g, h7, h8⟩, ⟨n, s, h9⟩, ⟨f, h10⟩, wd, W, h11⟩ := h
  have no : ∀ κ j c, ¬ j = 1 → ¬ Js 1 (κ, j, c) := fun κ j c a z => a z
  exact ⟨h1.fr hF (no _ _ _ (by decide)), h2.fr hF (fun κ c => no _ _ _ (by decide)), hU, h4.fr hF (fun κ j c hj => by
    have hj' : j = 24 ∨ (2 ≤ j ∧ j < 10) := hj
    exact no _ _ _ (by omega)), h5.fr hF (fun κ => no _ _ _ (by decide)), h6.fr hF (fun κ i => no _ _ _ (by decide)), ⟨g, h7.fr hF (no _ _ _ (by decide)), h8⟩, ⟨n, s, h9.fr hF (fun κ => no _ _ _ (by decide))⟩, ⟨f, h10.fr hF (no _ _ _ (by decide)) (no _ _ _ (by decide))⟩, wd, W, h11.fr hF (fun κ => no _ _ _ (by decide))⟩
theorem JKs1 (t : Nat × Nat × Nat) (h : Js 1 t) : JK t := by
  show t.2.1 < 30
  rw [show t.2.1 = 1 from h]
  decide
theorem K_saveSnapshot (hN : 100000 ≤ gN E) (h : RK E w l ad Q) (hG : GQ Q) (hR : RM E w 1) : ∃ w', X12_saveSnapshot_f E l w.1 = some w'.1 ∧ FS E JK w w' ∧ RK E w' l ad (qS Q, cpT (qS Q) (qU Q), true, Q.2.2.2) := by
  obtain ⟨w1, e1, F1, S1⟩ := RS.copy hN h.2.2.1 h.S hG.1.2.1 (by decide) (by decide) hR
  have h1 := h.sn F1 S1
  obtain ⟨w2, e2, F2, h2⟩ := h1.flag true
  refine ⟨w2, ?_, (F1.mono JKs1).trans (F2.mono JK25), h2⟩
  unfold X12_saveSnapshot_f X12_saveSnapshot
  rw [ob_e h.f1, ob_e h.f0, ob_e h.2.2.1.cl, ob_e e1, ob_e gz1']
  rw [if_pos rfl] at e2
  rw [ob_e e2]
/-- another history -/
theorem RK.his (h : RK E w l ad Q) {w' : gWd} {nx sz : Nat} {st : Nat → gT} (hF : FS E Jh w w') (hH : RH E w' (ad 3) nx sz st) : RK E w' l ad (qS Q, qU Q, qH Q, (nx, sz, st), Q.2.2.2.2) := by
  obtain ⟨h1, h2, h3, h4, h5, h6, ⟨g, h7, h8⟩, ⟨n, s, h9⟩, ⟨f, h10⟩, wd, W, h11⟩ := h
  have no : ∀ κ j c, ¬ j = 24 → ¬ (2 ≤ j ∧ j < 10) → ¬ Jh (κ, j, c) := fun κ j c a b z => z.elim a b
  exact ⟨h1.fr hF (no _ _ _ (by decide) (by decide)), h2.fr hF (fun κ c => no _ _ _ (by decide) (by decide)), h3.fr hF (fun κ c => no _ _ _ (by decide) (by decide)), hH, h5.fr hF (fun κ => no _ _ _ (by decide) (by decide)), h6.fr hF (fun κ i => no _ _ _ (by decide) (by decide)), ⟨g, h7.fr hF (no _ _ _ (by decide) (by decide)), h8⟩, ⟨n, s, h9.fr hF (fun κ => no _ _ _ (by decide) (by decide))⟩, ⟨f, h10.fr hF (no _ _ _ (by decide) (by decide)) (no _ _ _ (by decide) (by decide))⟩, wd, W, h11.fr hF (fun κ => no _ _ _ (by decide) (by decide))⟩
theorem K_restoreSnapshot (hN : 100000 ≤ gN E) (h : RK E w l ad Q) (hG : GQ Q) (hR : RM E w 1) (hh : qH Q = true) : XA E w l ad (cpT (qU Q) (qS Q), qU Q, qH Q, (qX Q, 0, qR Q), Q.2.2.2.2) (Sum.inr (nI (tR (qU Q)))) (X12_restoreSnapshot_f E l w.1) := by
  have hgu := hG.2.1 hh
  obtain ⟨w1, e1, F1, S1⟩ := RS.copy hN h.S h.2.2.1 hgu.2.1 (by decide) (by decide) hR
  have h1 := h.st F1 S1
  obtain ⟨w2, e2, F2, H2⟩ := h1.2.2.2.1.clear
  have h2 := h1.his F2 H2
  refine ⟨w2, ?_, ((F1.mono JKs0).trans (F2.mono JKh)).kk h.pos, h2⟩
  unfold X12_restoreSnapshot_f X12_restoreSnapshot
  rw [ob_e (gfI_o h.1.2.2 rfl), if_pos hh, if_neg (by decide), ob_e h.f0, ob_e h.f1, ob_e h.c0, ob_e e1, ob_e h1.f3, ob_e h1.clH, ob_e e2, ob_e h2.f0, ob_e h2.c0, ob_e h2.S.rows]
  show some (Sum.inr (nI (tR (cpT (qU Q) (qS Q)))), w2.1) = _
  rw [(hgu.cp (qS Q)).2]
abbrev Jb0 : Nat × Nat × Nat → Prop := fun t => t.2.1 = 24 ∨ t.2.1 = 0
theorem K_undo (hN : 100000 ≤ gN E) (h : RK E w l ad Q) (hG : GQ Q) (hR : RM E w 1) (hz : 0 < qZ Q) : XA E w l ad (cpT (qR Q ((qX Q + 7) % 8)) (qS Q), qU Q, qH Q, ((qX Q + 7) % 8, qZ Q - 1, qR Q), Q.2.2.2.2) (Sum.inr (nI (qZ Q - 1))) (X12_undo_f E l w.1) := by
  have h8 := hG.2.2.2.2.2.2.1
  obtain ⟨w1, e1, F1, H1, S1⟩ := h.2.2.2.1.back hN h.S hG.2.2.2.2.1 (by decide) hz hR
  have F1 : FS E Jb0 w w1 := F1
  have no : ∀ κ j c, ¬ j = 24 → ¬ j = 0 → ¬ Jb0 (κ, j, c) := fun κ j c a b z => z.elim a b
  obtain ⟨g1, -, g3, -, g5, g6, ⟨g, g7, g8⟩, ⟨n, s, g9⟩, ⟨f, g10⟩, wd, W, g11⟩ := id h
  have h1 : RK E w1 l ad (cpT (qR Q ((qX Q + 7) % 8)) (qS Q), qU Q, qH Q, ((qX Q + 7) % 8, qZ Q - 1, qR Q), Q.2.2.2.2) :=
    ⟨g1.fr F1 (no _ _ _ (by decide) (by decide)), S1, g3.fr F1 (fun κ c => no _ _ _ (by decide) (by decide)), H1, g5.fr F1 (fun κ => no _ _ _ (by decide) (by decide)), g6.fr F1 (fun κ i => no _ _ _ (by decide) (by decide)), ⟨g, g7.fr F1 (no _ _ _ (by decide) (by decide)), g8⟩, ⟨n, s, g9.fr F1 (fun κ => no _ _ _ (by decide) (by decide))⟩, ⟨f, g10.fr F1 (no _ _ _ (by decide) (by decide)) (no _ _ _ (by decide) (by decide))⟩, wd, W, g11.fr F1 (fun κ => no _ _ _ (by decide) (by decide))⟩
  refine ⟨w1, ?_, (F1.mono (fun t z => by show t.2.1 < 30; omega)).kk h.pos, h1⟩
  unfold X12_undo_f X12_undo
  rw [ob_e h.f3, ob_e h.clH, ob_e h.2.2.2.1.size, if_neg (nI_ne0 hz (by omega)), ob_e h.f3, ob_e h.f0, ob_e h.clH, ob_e e1, ob_e h1.f3, ob_e h1.clH, ob_e h1.2.2.2.1.size]
end KW
