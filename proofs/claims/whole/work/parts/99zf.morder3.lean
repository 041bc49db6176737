/-! pure: the reference reads an order -/
/-- an order stands for a command -/
def orF (C : Nat) (cm : gCmd) (g : Nat → Int32) : Prop := g 0 = nI cm.1 ∧ orA C cm g
def pOrd (u : Nat → Nat) (L C s : Nat) : gPr gCmd := pB (pArgs u L C (pKind u L s) (tN u L s)) fun cm s1 => pB (pSemi u L s1) fun _ s2 => .inr (cm, s2)
def odm (u : Nat → Nat) (L C i s : Nat) : gMd := if pKind u L s = 9 then .inl (1, s) else if 20 ≤ i then .inl (3, s) else mdf (pOrd u L C s)
theorem pArgs_k {u : Nat → Nat} {L C k s s' : Nat} {cm : gCmd} (hk : k < 9) (h : pArgs u L C k s = .inr (cm, s')) : cm.1 = k := by
  unfold pArgs at h
  repeat' split at h
  · obtain ⟨r, s1, p1, h⟩ := pB_r h
    cases h
    symm
    assumption
  · obtain ⟨x, s1, p1, h⟩ := pB_r h
    obtain ⟨y, s2, p2, h⟩ := pB_r h
    obtain ⟨v, s3, p3, h⟩ := pB_r h
    cases h
    symm
    assumption
  · obtain ⟨x, s1, p1, h⟩ := pB_r h
    cases h
    symm
    assumption
  · obtain ⟨y, s1, p1, h⟩ := pB_r h
    cases h
    symm
    assumption
  · cases h
    symm
    assumption
  · obtain ⟨x, s1, p1, h⟩ := pB_r h
    cases h
    symm
    assumption
  · obtain ⟨x, s1, p1, h⟩ := pB_r h
    obtain ⟨v, s2, p2, h⟩ := pB_r h
    cases h
    rfl
section MM
variable {E : gE} {w : gWd} {m ro L C : Nat} {fi0 : Nat → Int32} {G : Nat → Nat → Int32} {u : Nat → Nat} {t : gMd}
theorem PQ.g28 (h : PQ E w m ro fi0 G u L t) : gfI w.1 m 11 28 = some (fi0 28) := by
  obtain ⟨fi, b1, p1, q1, d1⟩ := h
  rw [← q1]
  exact gfI_o (x := fi 28) b1.1.2.2 rfl
theorem PQ.put28 (h : PQ E w m ro fi0 G u L t) (x : Int32) : ∃ w', gpf E w.1 m 11 28 (.int x) = some w'.1 ∧ FS E J30 w w' ∧ PQ E w' m ro (upd fi0 28 x) G u L t := by
  obtain ⟨fi, b1, p1, q1, d1⟩ := h
  obtain ⟨w1, e1, F1, b2⟩ := b1.put 28 x rfl (by decide)
  refine ⟨w1, e1, F1, _, b2, fun j hj => ?_, rfl, ?_⟩
  · rw [upd_o _ _ (by omega), upd_o _ _ (by omega)]
    exact p1 j hj
  · cases t with
    | inl p => exact d1
    | inr s => exact d1
theorem PQ.cp (h : PQ E w m ro fi0 G u L t) (k k' : Nat) {sp dp n : Nat} (h1 : 1 ≤ k) (h2 : k ≤ 11) (h1' : 1 ≤ k') (h2' : k' ≤ 11) (hs : sp + n ≤ mz k) (hd : dp + n ≤ mz k') : ∃ w', gcopy E w.1 (m + k) (nI sp) (m + k') (nI dp) (nI n) = some w'.1 ∧ FS E J30 w w' ∧ PQ E w' m ro fi0 (updG G k' (va_cpy (G k) (G k') sp dp n)) u L t := by
  obtain ⟨fi, b1, p1, q1, d1⟩ := h
  obtain ⟨w1, e1, F1, b2⟩ := b1.cp k k' h1 h2 h1' h2' hs hd
  exact ⟨w1, e1, F1, fi, b2, p1, q1, d1⟩
theorem PQ.f6 (h : PQ E w m ro fi0 G u L t) : gfR w.1 m 11 6 = some (m + 7) := by
  obtain ⟨fi, b1, -⟩ := h
  exact b1.f6
/-- an order in error changes nothing -/
theorem od_42 {p : Nat × Nat} (h : PQ E w m ro fi0 G u L (.inl p)) (hN : 100000 ≤ gN E) (hB : BU G u L) (l b : Int32) : ∃ w', X13_readOrder_42 E m l b m w.1 = some w'.1 ∧ FS E J30 w w' ∧ PQ E w' m ro fi0 G u L (.inl p) := by
  obtain ⟨w1, e1, F1, h1⟩ := h.check b (c := 3) (by decide)
  have e1 : X13_check_f E m b (3 : Int32) w.1 = some w1.1 := e1
  have h1 : PQ E w1 m ro fi0 G u L (.inl p) := h1
  obtain ⟨w2, e2, F2, h2⟩ := h1.advance hN hB
  have h2 : PQ E w2 m ro fi0 G u L (.inl p) := h2
  obtain ⟨x, x1, x2⟩ := h2.errN
  refine ⟨w2, ?_, F1.trans F2, h2⟩
  unfold X13_readOrder_42
  rw [ob_e h.cl, ob_e e1, ob_e h1.cl, ob_e e2, ob_e x1, if_neg x2]
/-- what an order reads behind its kind -/
theorem od_args {s : Nat} (h : PQ E w m (m + 1) fi0 G u L (.inr s)) (hO : gOK E) (hB : BU G u L) (hC : G 1 0 = nI C) (hC1 : 1 ≤ C) (hC6 : C ≤ 6) {k i : Nat} (hk9 : k < 9) (hi : i < 20) : ∃ w' G', (if nI k = 0 then ob (gcl w.1 m 11) fun _ => ob (X13_readRow_f E m w.1) fun x25 => ob (gfR x25 m 11 6) fun x28 => ob (gfR x25 m 11 26) fun x30 => ob (gcopy E x25 x28 (0 : Int32) x30 (((7 : Int32) * nI i) + (1 : Int32)) (6 : Int32)) fun x32 => X13_readOrder_107 E m x32 else ob (gcl w.1 m 11) fun _ => ob (X13_readNumbers_f E m ((7 : Int32) * nI i) (nI k) w.1) fun x22 => X13_readOrder_107 E m x22) = X13_readOrder_107 E m w'.1 ∧ FS E J30 w w' ∧ PQ E w' m (m + 1) fi0 G' u L (mdf (pArgs u L C k s)) ∧ (∀ j, j ≠ 7 → j ≠ 11 → G' j = G j) ∧ (∀ j, j < 7 * i + 1 → G' 11 j = G 11 j) ∧ ∀ cm s', pArgs u L C k s = .inr (cm, s') → orA C cm (fun j => G' 11 (7 * i + j)) := by
  have e7 : (7 : Int32) * nI i = nI (7 * i) := nI_mul 7 i
  by_cases h0 : k = 0
  · subst h0
    obtain ⟨w1, G1, e1, F1, h1, g1, r1⟩ := h.readRow hO.1 (Or.inl rfl) hC6 hB hC
    have h1 : PQ E w1 m (m + 1) fi0 G1 u L (mdf (pRow u L C s)) := h1
    obtain ⟨w2, e2, F2, h2⟩ := h1.cp 7 11 (sp := 0) (dp := 7 * i + 1) (n := 6) (by omega) (by omega) (by omega) (by omega) (by decide) (by rw [mz11]; omega)
    have e2 : gcopy E w1.1 (m + 7) (0 : Int32) (m + 11) (nI (7 * i + 1)) (6 : Int32) = some w2.1 := e2
    have hpa : pArgs u L C 0 s = pB (pRow u L C s) fun r s1 => .inr ((0, 0, 0, 0, false, r), s1) := rfl
    have em : mdf (pArgs u L C 0 s) = mdf (pRow u L C s) := by rw [hpa, mdB_e (c := fun r _ => (0, 0, 0, 0, false, r))]
    rw [← em] at h2
    refine ⟨w2, _, ?_, F1.trans F2, h2, fun j h7 h11 => ?_, fun j hj => ?_, fun cm s' hp => ?_⟩
    · rw [if_pos nI_0, ob_e h.cl, ob_e e1, ob_e h1.f6, ob_e h1.f26, e7, nI_1, ob_e e2]
    · rw [updG_o _ _ h11]
      exact g1 j h7
    · rw [updG_s, cpy_out _ _ (by omega), g1 11 (by decide)]
    · rw [hpa] at hp
      obtain ⟨r, s1, p1, hp⟩ := pB_r hp
      cases hp
      refine ⟨fun _ j hj => ?_, fun z => ?_, fun z => ?_, fun z => ?_, fun z => ?_, fun z => ?_⟩
      · show updG G1 11 _ 11 (7 * i + (1 + j)) = r j
        rw [updG_s, show 7 * i + (1 + j) = 7 * i + 1 + j by omega, cpy_in _ _ (by omega), Nat.zero_add]
        exact r1 s r _ rfl p1 j hj
      · have z : (0 : Nat) = 1 ∨ (0 : Nat) = 2 ∨ (0 : Nat) = 3 ∨ (0 : Nat) = 4 ∨ (0 : Nat) = 5 ∨ (0 : Nat) = 8 := z
        omega
      · cases z
      · cases z
      · cases z
      · have z : (0 : Nat) = 3 ∨ (0 : Nat) = 4 ∨ (0 : Nat) = 5 := z
        omega
  · obtain ⟨w1, G1, e1, F1, h1, g1, l1, r1⟩ := h.nums hO hB hC hC1 hC6 (k := k) (a := 7 * i) (by omega) hk9 (by omega)
    refine ⟨w1, G1, ?_, F1, h1, fun j _ h11 => g1 j h11, l1, r1⟩
    rw [if_neg (nI_ne0 (by omega) (by omega)), ob_e h.cl, e7, ob_e e1]
theorem PQ.readOrder {s : Nat} (h : PQ E w m (m + 1) fi0 G u L (.inr s)) (hO : gOK E) (hB : BU G u L) (hC : G 1 0 = nI C) (hC1 : 1 ≤ C) (hC6 : C ≤ 6) {i : Nat} (hi : i ≤ 20) (h28 : fi0 28 = nI i) : ∃ w' fi1 G', X13_readOrder_f E m w.1 = some w'.1 ∧ FS E J30 w w' ∧ PF fi0 fi1 ∧ PQ E w' m (m + 1) fi1 G' u L (odm u L C i s) ∧ (∀ j, j ≠ 7 → j ≠ 11 → G' j = G j) ∧ (∀ j, j < 7 * i → G' 11 j = G 11 j) ∧ ∀ cm s', ¬ pKind u L s = 9 → i < 20 → pOrd u L C s = .inr (cm, s') → fi1 28 = nI (i + 1) ∧ orF C cm (fun j => G' 11 (7 * i + j)) := by
  have hN := hO.1
  have ho : X13_orderHere_f E w.1 m = some (if pKind u L s < 9 then nI (pKind u L s) else -1) := h.order hO hB
  have hle : pKind u L s ≤ 9 := fa_first_le _ _
  by_cases h9 : pKind u L s = 9
  · obtain ⟨w1, e1, F1, h1⟩ := h.check 0 (c := 1) (by decide)
    have e1 : X13_check_f E m 0 (1 : Int32) w.1 = some w1.1 := e1
    have h1 : PQ E w1 m (m + 1) fi0 G u L (.inl (1, s)) := h1
    obtain ⟨x, x1, x2⟩ := h1.errN
    obtain ⟨w2, e2, F2, h2⟩ := od_42 h1 hN hB (-1) 1
    refine ⟨w2, fi0, G, ?_, F1.trans F2, PF.rf, ?_, fun _ _ _ => rfl, fun _ _ => rfl, fun cm s' z => absurd h9 z⟩
    · rw [if_neg (by omega)] at ho
      unfold X13_readOrder_f X13_readOrder X13_readOrder_16 X13_readOrder_37
      rw [ob_e h.cl, ob_e ho, if_pos rfl, ob_e h.cl, ob_e e1, ob_e x1, if_neg x2]
      exact e2
    · unfold odm
      rw [if_pos h9]
      exact h2
  · have hk9 : pKind u L s < 9 := by omega
    rw [if_pos hk9] at ho
    have hm1 : ¬ nI (pKind u L s) = (-1 : Int32) := fun z => by
      have z2 := congrArg Int32.toInt z
      have e : (-1 : Int32).toInt = -1 := rfl
      rw [nI_toInt (by omega), e] at z2
      omega
    obtain ⟨w1, e1, F1, h1⟩ := h.check 1 (c := 1) (by decide)
    have e1 : X13_check_f E m 1 (1 : Int32) w.1 = some w1.1 := e1
    have h1 : PQ E w1 m (m + 1) fi0 G u L (.inr s) := h1
    have r28 := h1.g28
    rw [h28] at r28
    have hst : X13_readOrder_f E m w.1 = if (20 : Int32) ≤ nI i then X13_readOrder_42 E m (nI (pKind u L s)) 0 m w1.1 else X13_readOrder_42 E m (nI (pKind u L s)) 1 m w1.1 := by
      unfold X13_readOrder_f X13_readOrder X13_readOrder_16 X13_readOrder_37
      rw [ob_e h.cl, ob_e ho, if_neg hm1, ob_e h.cl, ob_e e1, ob_e h1.err0, if_pos rfl, ob_e r28]
    by_cases h20 : i = 20
    · obtain ⟨w2, e2, F2, h2⟩ := h1.check 0 (c := 3) (by decide)
      have e2 : X13_check_f E m 0 (3 : Int32) w1.1 = some w2.1 := e2
      have h2 : PQ E w2 m (m + 1) fi0 G u L (.inl (3, s)) := h2
      obtain ⟨w3, e3, F3, h3⟩ := h2.advance hN hB
      have h3 : PQ E w3 m (m + 1) fi0 G u L (.inl (3, s)) := h3
      obtain ⟨x, x1, x2⟩ := h3.errN
      refine ⟨w3, fi0, G, ?_, (F1.trans F2).trans F3, PF.rf, ?_, fun _ _ _ => rfl, fun _ _ => rfl, fun cm s' _ z => by omega⟩
      · rw [hst, if_pos (show (20 : Int32) ≤ nI i from nI_le (a := 20) (by omega) (by omega))]
        unfold X13_readOrder_42
        rw [ob_e h1.cl, ob_e e2, ob_e h2.cl, ob_e e3, ob_e x1, if_neg x2]
      · unfold odm
        rw [if_neg h9, if_pos (by omega)]
        exact h3
    · have hi20 : i < 20 := by omega
      obtain ⟨w2, e2, F2, h2⟩ := h1.check 1 (c := 3) (by decide)
      have e2 : X13_check_f E m 1 (3 : Int32) w1.1 = some w2.1 := e2
      have h2 : PQ E w2 m (m + 1) fi0 G u L (.inr s) := h2
      obtain ⟨w3, e3, F3, h3⟩ := h2.advance hN hB
      have h3 : PQ E w3 m (m + 1) fi0 G u L (.inr (tN u L s)) := h3
      have s28 := h3.g28
      rw [h28] at s28
      obtain ⟨w4, e4, F4, h4⟩ := h3.st 11 (i := 7 * i) (by omega) (by omega) (by rw [mz11]; omega) (nI (pKind u L s))
      have g4 : ∀ j, j ≠ 11 → updG G 11 (upd (G 11) (7 * i) (nI (pKind u L s))) j = G j := fun j hj => updG_o _ _ hj
      have hB4 := hB.pg (PG.o11 g4)
      obtain ⟨w5, G5, e5, F5, h5, g5, l5, r5⟩ := od_args h4 hO hB4 (by rw [g4 1 (by decide)]; exact hC) hC1 hC6 hk9 hi20
      have hB5 : BU G5 u L := hB4.pg (fun j _ b c => g5 j b c)
      obtain ⟨w6, e6, F6, h6⟩ := h5.expect hN hB5
      have t28 := h6.g28
      rw [h28] at t28
      obtain ⟨w7, e7, F7, h7⟩ := h6.put28 (nI (i + 1))
      have hmo : odm u L C i s = mdg (pSemi u L) (mdf (pArgs u L C (pKind u L s) (tN u L s))) := by
        unfold odm pOrd
        rw [if_neg h9, if_neg (by omega)]
        exact mdB_f (f := pSemi u L) fun cm s1 => mdB_e
      rw [← hmo] at h7
      refine ⟨w7, _, G5, ?_, (((((F1.trans F2).trans F3).trans F4).trans F5).trans F6).trans F7, PF.u _ (by decide) (by decide), h7, fun j x y => (g5 j x y).trans (g4 j y), fun j hj => ?_, fun cm s' _ _ hp => ⟨rfl, ?_, ?_⟩⟩
      · rw [hst, if_neg (show ¬ (20 : Int32) ≤ nI i from nI_ge (b := 20) hi20 (by omega))]
        unfold X13_readOrder_42
        rw [ob_e h1.cl, ob_e e2, ob_e h2.cl, ob_e e3, ob_e h3.err0, if_pos rfl, ob_e s28, ob_e h3.f26, show (7 : Int32) * nI i = nI (7 * i) from nI_mul 7 i, ob_e e4]
        rw [← show (7 : Int32) * nI i = nI (7 * i) from nI_mul 7 i]
        refine e5.trans ?_
        unfold X13_readOrder_107
        rw [ob_e h5.cl, ob_e e6, ob_e t28, nI_1, ob_e e7]
      · rw [l5 j (by omega), updG_s, upd_o _ _ (by omega)]
      · obtain ⟨cm1, s1, p1, hp⟩ := pB_r hp
        obtain ⟨-, s2, p2, hp⟩ := pB_r hp
        cases hp
        show G5 11 (7 * i + 0) = nI cm.1
        rw [Nat.add_zero, l5 _ (by omega), updG_s, upd_s, pArgs_k hk9 p1]
      · obtain ⟨cm1, s1, p1, hp⟩ := pB_r hp
        obtain ⟨-, s2, p2, hp⟩ := pB_r hp
        cases hp
        exact r5 _ _ p1
end MM
