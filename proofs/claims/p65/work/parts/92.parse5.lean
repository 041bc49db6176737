/-! pure: what the three readers do -/
def PZ (E : gE) (w : gWd) (a ia : Nat) (er of : Int32) : Prop :=
  (∃ nu co ro cc : Int32, Ob w (10, 23, 0) a 7 [.ref ia, .int er, .int of, .int nu, .int co, .int ro, .ref (a + 1), .ref (a + 2), .int cc]) ∧ (∃ g, ArI E w (11, 23, 0) (a + 1) 360 g) ∧ PK E w a 0 0 (fun _ => (0, 0, 0, 0, false, fun _ => 0))
/-- the input between two texts: n bytes u -/
def IN (E : gE) (w : gWd) (ia n : Nat) (u : Nat → Nat) : Prop := (∃ L k s e q : Int32, Ob w (10, 22, 0) ia 5 [.ref (ia + 1), .int (nI n), .int L, .int k, .int s, .int e, .int q]) ∧ n ≤ 700 ∧ (∃ g, ArB E w (11, 22, 0) (ia + 1) 700 g ∧ ∀ i, i < n → g i = sb (u i)) ∧ ∀ i, u i < 256
theorem RT.toIN {E : gE} {w : gWd} {a n L s : Nat} {u : Nat → Nat} (h : RT E w a n u L s) : IN E w a n u := ⟨⟨_, _, _, _, _, h.1.1⟩, h.1.2.1, h.1.2.2.1, h.1.2.2.2.2⟩
theorem IN.icl {E : gE} {w : gWd} {ia n : Nat} {u : Nat → Nat} (h : IN E w ia n u) : gcl w.1 ia 5 = some () := by
  obtain ⟨⟨L, k, s, e, q, h1⟩, -⟩ := h
  exact gcl_o h1.2.2
theorem IN.start {E : gE} {a n : Nat} {u : Nat → Nat} {L : Nat} {w : gWd} (hN : 100000 ≤ gN E) (h : IN E w a n u) (hL : L ≤ n) : ∃ w' : gWd, X6_startText_f E a (nI L) w.1 = some w'.1 ∧ FS E J22 w w' ∧ RT E w' a n u L (tS u L 0) := by
  obtain ⟨⟨L0, k, s0, e, q, h1⟩, h2, ⟨g, h3, h4⟩, h6⟩ := h
  obtain ⟨k, -, rfl⟩ := wb_of32 k
  obtain ⟨s0, -, rfl⟩ := wb_of32 s0
  obtain ⟨q, -, rfl⟩ := wb_of32 q
  obtain ⟨e1, O1, F1⟩ := h1.put (E := E) 2 (.int (nI L)) (Nat.le_of_ble_eq_true rfl) (J := fun t => t = (10, 22, 0)) rfl
  obtain ⟨e2, O2, F2⟩ := O1.put (E := E) 5 (.int (nI 0)) (Nat.le_of_ble_eq_true rfl) (J := fun t => t = (10, 22, 0)) rfl
  have R2 : RI E _ a n u L k s0 0 q := ⟨O2, h2, ⟨g, (h3.fr F1 (t3_ne (by decide))).fr F2 (t3_ne (by decide)), h4⟩, hL, h6⟩
  obtain ⟨w3, e3, F3, R3⟩ := R2.next hN (Nat.zero_le _)
  refine ⟨w3, ?_, (F1.mono (fun t z => by rw [z])).trans ((F2.mono (fun t z => by rw [z])).trans F3), R3⟩
  unfold X6_startText_f X6_startText
  rw [ob_e (gfI_o h1.2.2 rfl), gmin_nI (by omega) (by omega), show min L n = L by omega, ob_e e1]
  refine (ob_e e2).trans ?_
  rw [ob_e (gcl_o O2.2.2), ob_e e3]
theorem PZ.fr {E : gE} {w w' : gWd} {a ia : Nat} {er of : Int32} (h : PZ E w a ia er of) {J : Nat × Nat × Nat → Prop} (hF : FS E J w w') (hJ : ∀ κ i, ¬ J (κ, 23, i)) : PZ E w' a ia er of := by
  obtain ⟨⟨nu, co, ro, cc, h1⟩, ⟨g, h2⟩, h3⟩ := h
  exact ⟨⟨nu, co, ro, cc, h1.fr hF (hJ _ _)⟩, ⟨g, h2.fr hF (hJ _ _)⟩, h3.fr hF (fun κ i _ => hJ κ i)⟩
theorem IN.fr {E : gE} {w w' : gWd} {ia n : Nat} {u : Nat → Nat} (h : IN E w ia n u) {J : Nat × Nat × Nat → Prop} (hF : FS E J w w') (hJ : ∀ κ, ¬ J (κ, 22, 0)) : IN E w' ia n u := by
  obtain ⟨⟨L, k, s, e, q, h1⟩, h2, ⟨g, h3, h4⟩, h6⟩ := h
  exact ⟨⟨L, k, s, e, q, h1.fr hF (hJ _)⟩, h2, ⟨g, h3.fr hF (hJ _), h4⟩, h6⟩
section PAS9
variable {E : gE} {w : gWd} {a ia n L C : Nat} {u : Nat → Nat} {er of nu co ro cc : Int32}
theorem PA.start (hN : 100000 ≤ gN E) (h : Ob w (10, 23, 0) a 7 [.ref ia, .int er, .int of, .int nu, .int co, .int ro, .ref (a + 1), .ref (a + 2), .int cc]) (hI : IN E w ia n u) (hL : L ≤ n) : ∃ w', X9_start_f E a (nI L) w.1 = some w'.1 ∧ FS E JQ w w' ∧ PA E w' a ia n u L (tS u L 0) 0 (-1) nu co 0 0 := by
  have hno : ∀ κ, ¬ ((κ, 22, 0) : Nat × Nat × Nat) = (10, 23, 0) := fun κ z => by simp at z
  obtain ⟨e1, O1, F1⟩ := h.put (E := E) 1 (.int 0) (Nat.le_of_ble_eq_true rfl) (J := fun t => t = (10, 23, 0)) rfl
  obtain ⟨e2, O2, F2⟩ := O1.put (E := E) 2 (.int (-1)) (Nat.le_of_ble_eq_true rfl) (J := fun t => t = (10, 23, 0)) rfl
  obtain ⟨e3, O3, F3⟩ := O2.put (E := E) 5 (.int 0) (Nat.le_of_ble_eq_true rfl) (J := fun t => t = (10, 23, 0)) rfl
  obtain ⟨e4, O4, F4⟩ := O3.put (E := E) 8 (.int 0) (Nat.le_of_ble_eq_true rfl) (J := fun t => t = (10, 23, 0)) rfl
  have hR := (((hI.fr F1 hno).fr F2 hno).fr F3 hno).fr F4 hno
  obtain ⟨w5, e5, F5, R5⟩ := hR.start hN hL
  refine ⟨w5, ?_, (F1.mono JQ1).trans ((F2.mono JQ1).trans ((F3.mono JQ1).trans ((F4.mono JQ1).trans (F5.mono JQ2)))), O4.fr F5 (by simp), R5⟩
  unfold X9_start_f X9_start
  rw [ob_e e1, ob_e e2]
  refine (ob_e e3).trans ((ob_e e4).trans ?_)
  rw [ob_e (gfR_o O4.2.2 rfl), ob_e hR.icl, ob_e e5]
theorem PZ.row (hO : gOK E) (h : PZ E w a ia er of) (hI : IN E w ia n u) (hL : L ≤ n) (hC6 : C ≤ 6) {r : Nat → Int32} {s' : Nat} (hp : pRow1 u L C (tS u L 0) = .inr (r, s')) :
    ∃ w', X9_readRow_f E a (nI L) (nI C) w.1 = some (1, w'.1) ∧ FS E JP w w' ∧ PZ E w' a ia 0 (-1) ∧ IN E w' ia n u ∧ ∃ nu co ro cc g, Ob w' (10, 23, 0) a 7 [.ref ia, .int 0, .int (-1), .int nu, .int co, .int ro, .ref (a + 1), .ref (a + 2), .int cc] ∧ ArI E w' (11, 23, 0) (a + 1) 360 g ∧ ∀ j, j < C → g j = r j := by
  obtain ⟨⟨nu, co, ro, cc, h1⟩, ⟨g, h2⟩, h3⟩ := h
  obtain ⟨r', s1, p1, hp⟩ := pB_r hp
  by_cases hk : kd u L s1 = 0
  · rw [if_pos hk] at hp
    cases hp
    obtain ⟨w1, e1, F1, P1⟩ := PA.start hO.1 h1 hI hL
    obtain ⟨w2, e2, F2, P2⟩ := P1.putCo (nI C)
    have A2 := (h2.fr F1 JR11).fr F2 JR11
    obtain ⟨w3, nu3, e3, F3, P3, A3⟩ := P2.row hO.1 (ta := a + 1) (first := 0) (nn := 360) (tt := (11, 23, 0)) JR11 hC6 (by omega) (by decide) A2 p1
    have K3 := ((h3.fr F1 (fun κ i hk => JQk κ i hk)).fr F2 (fun κ i hk => JQk κ i hk)).fr F3 (fun κ i hk => JRk κ i hk)
    refine ⟨w3, ?_, (F1.mono JQP).trans ((F2.mono JQP).trans (F3.mono JRP)), ⟨⟨_, _, _, _, P3.1⟩, ⟨_, A3⟩, K3⟩, P3.2.toIN, _, _, _, _, _, P3.1, A3, fun j hj => ?_⟩
    · unfold X9_readRow_f X9_readRow
      rw [ob_e (gcl_o h1.2.2), ob_e e1, ob_e e2, ob_e (gfR_o P2.1.2.2 rfl), ob_e P2.cl]
      refine (ob_e e3).trans ?_
      rw [if_neg i10, ob_e P3.cl, ob_e (P3.endd hk)]
      rw [if_neg i10]
    · rw [fb_put_in (by omega) (by omega)]
      rfl
  · rw [if_neg hk] at hp
    cases hp
theorem PZ.rowF (hO : gOK E) (h : PZ E w a ia er of) (hI : IN E w ia n u) (hL : L ≤ n) (hC6 : C ≤ 6) {c o : Nat} (hp : pRow1 u L C (tS u L 0) = .inl (c, o)) :
    ∃ w', X9_readRow_f E a (nI L) (nI C) w.1 = some (0, w'.1) ∧ FS E JP w w' ∧ PZ E w' a ia (nI c) (nI o) ∧ IN E w' ia n u := by
  obtain ⟨⟨nu, co, ro, cc, h1⟩, ⟨g, h2⟩, h3⟩ := h
  obtain ⟨w1, e1, F1, P1⟩ := PA.start hO.1 h1 hI hL
  obtain ⟨w2, e2, F2, P2⟩ := P1.putCo (nI C)
  have A2 := (h2.fr F1 JR11).fr F2 JR11
  have K2 := (h3.fr F1 (fun κ i hk => JQk κ i hk)).fr F2 (fun κ i hk => JQk κ i hk)
  rcases pB_l hp with p1 | ⟨r', s1, p1, hp⟩
  · obtain ⟨w3, s3, nu3, g3, e3, F3, P3, A3⟩ := P2.rowF hO.1 (ta := a + 1) (first := 0) (nn := 360) (tt := (11, 23, 0)) JR11 hC6 (by omega) (by decide) A2 p1
    refine ⟨w3, ?_, (F1.mono JQP).trans ((F2.mono JQP).trans (F3.mono JRP)), ⟨⟨_, _, _, _, P3.1⟩, ⟨_, A3⟩, K2.fr F3 (fun κ i hk => JRk κ i hk)⟩, P3.2.toIN⟩
    unfold X9_readRow_f X9_readRow X9_readRow_33
    rw [ob_e (gcl_o h1.2.2), ob_e e1, ob_e e2, ob_e (gfR_o P2.1.2.2 rfl), ob_e P2.cl]
    refine (ob_e e3).trans ?_
    rw [if_pos rfl]
  · by_cases hk : kd u L s1 = 0
    · rw [if_pos hk] at hp
      cases hp
    · rw [if_neg hk] at hp
      cases hp
      obtain ⟨w3, nu3, e3, F3, P3, A3⟩ := P2.row hO.1 (ta := a + 1) (first := 0) (nn := 360) (tt := (11, 23, 0)) JR11 hC6 (by omega) (by decide) A2 p1
      obtain ⟨w4, e4, F4, P4⟩ := P3.enddF hk
      refine ⟨w4, ?_, (F1.mono JQP).trans ((F2.mono JQP).trans ((F3.mono JRP).trans (F4.mono JQP))), ⟨⟨_, _, _, _, P4.1⟩, ⟨_, A3.fr F4 JR11⟩, (K2.fr F3 (fun κ i hk => JRk κ i hk)).fr F4 (fun κ i hk => JQk κ i hk)⟩, P4.2.toIN⟩
      unfold X9_readRow_f X9_readRow X9_readRow_33
      rw [ob_e (gcl_o h1.2.2), ob_e e1, ob_e e2, ob_e (gfR_o P2.1.2.2 rfl), ob_e P2.cl]
      refine (ob_e e3).trans ?_
      rw [if_neg i10, ob_e P3.cl, ob_e e4]
      rw [if_pos rfl]
theorem PA.head (hO : gOK E) {s C s1 s2 : Nat} (h : PA E w a ia n u L s er of nu co ro cc) (hw : isW u L s txtT = true) (p1 : pNum u L 1 6 (tN u L s) = .inr (C, s1)) (p2 : pSemi u L s1 = .inr ((), s2)) : ∃ w', X9_takeHead_f E a w.1 = some (1, w'.1) ∧ FS E JQ w w' ∧ ∃ nu', PA E w' a ia n u L s2 er of nu' (nI C) ro cc := by
  obtain ⟨w1, e1, F1, P1⟩ := h.word hO hw
  obtain ⟨w2, e2, F2, P2⟩ := P1.num hO.1 (lo := 1) (hi := 6) (by decide) (by decide) p1
  obtain ⟨w3, e3, F3, P3⟩ := P2.putCo (nI C)
  obtain ⟨w4, e4, F4, P4⟩ := P3.semi hO.1 p2
  refine ⟨w4, ?_, F1.trans (F2.trans (F3.trans F4)), _, P4⟩
  unfold X9_takeHead_f X9_takeHead X9_takeHead_19
  rw [ob_e h.cl, ob_e e1]
  rw [if_neg i10, ob_e P1.cl]
  refine (ob_e e2).trans ?_
  rw [if_neg i10, ob_e (gfI_o P2.1.2.2 rfl), ob_e e3, ob_e P3.cl, ob_e e4]
  rw [ob_e gz1']
theorem PA.headF (hO : gOK E) {s : Nat} (h : PA E w a ia n u L s er of nu co ro cc) {c o : Nat} (hp : (isW u L s txtT = false ∧ (c, o) = (1, s)) ∨ (isW u L s txtT = true ∧ (pNum u L 1 6 (tN u L s) = .inl (c, o) ∨ ∃ C s1, pNum u L 1 6 (tN u L s) = .inr (C, s1) ∧ pSemi u L s1 = .inl (c, o)))) : ∃ w', X9_takeHead_f E a w.1 = some (0, w'.1) ∧ FS E JQ w w' ∧ ∃ s' nu' co', PA E w' a ia n u L s' (nI c) (nI o) nu' co' ro cc := by
  rcases hp with ⟨hw, hc⟩ | ⟨hw, hp⟩
  · cases hc
    obtain ⟨w1, e1, F1, P1⟩ := h.wordF hO hw
    refine ⟨w1, ?_, F1, _, _, _, P1⟩
    unfold X9_takeHead_f X9_takeHead X9_takeHead_19
    rw [ob_e h.cl, ob_e e1]
    rw [if_pos rfl]
  · obtain ⟨w1, e1, F1, P1⟩ := h.word hO hw
    rcases hp with p1 | ⟨C, s1, p1, p2⟩
    · obtain ⟨w2, e2, F2, P2⟩ := P1.numF (lo := 1) (hi := 6) (by decide) (by decide) p1
      refine ⟨w2, ?_, F1.trans F2, _, _, _, P2⟩
      unfold X9_takeHead_f X9_takeHead X9_takeHead_19
      rw [ob_e h.cl, ob_e e1]
      rw [if_neg i10, ob_e P1.cl]
      refine (ob_e e2).trans ?_
      rw [if_pos rfl]
    · obtain ⟨w2, e2, F2, P2⟩ := P1.num hO.1 (lo := 1) (hi := 6) (by decide) (by decide) p1
      obtain ⟨w3, e3, F3, P3⟩ := P2.putCo (nI C)
      obtain ⟨w4, e4, F4, P4⟩ := P3.semiF p2
      refine ⟨w4, ?_, F1.trans (F2.trans (F3.trans F4)), _, _, _, P4⟩
      unfold X9_takeHead_f X9_takeHead X9_takeHead_19
      rw [ob_e h.cl, ob_e e1]
      rw [if_neg i10, ob_e P1.cl]
      refine (ob_e e2).trans ?_
      rw [if_neg i10, ob_e (gfI_o P2.1.2.2 rfl), ob_e e3, ob_e P3.cl, ob_e e4]
      rw [ob_e gz0']
theorem PZ.table (hO : gOK E) (h : PZ E w a ia er of) (hI : IN E w ia n u) (hL : L ≤ n) {q : Nat × Nat × (Nat → Int32)} {s' : Nat} (hp : pTable u L (tS u L 0) = .inr (q, s')) :
    ∃ w', X9_readTable_f E a (nI L) w.1 = some (1, w'.1) ∧ FS E JP w w' ∧ PZ E w' a ia 0 (-1) ∧ IN E w' ia n u ∧ 1 ≤ q.1 ∧ q.1 ≤ 6 ∧ q.2.1 ≤ 60 ∧ ∃ nu cc g, Ob w' (10, 23, 0) a 7 [.ref ia, .int 0, .int (-1), .int nu, .int (nI q.1), .int (nI q.2.1), .ref (a + 1), .ref (a + 2), .int cc] ∧ ArI E w' (11, 23, 0) (a + 1) 360 g ∧ ∀ j, j < q.2.1 * q.1 → g j = q.2.2 j := by
  obtain ⟨⟨nu, co, ro, cc, h1⟩, ⟨g, h2⟩, h3⟩ := h
  unfold pTable at hp
  cases hw : isW u L (tS u L 0) txtT with
  | false => rw [hw, if_neg (by decide)] at hp; cases hp
  | true =>
    rw [hw, if_pos rfl] at hp
    obtain ⟨C, s1, p1, hp⟩ := pB_r hp
    obtain ⟨⟨⟩, s2, p2, hp⟩ := pB_r hp
    obtain ⟨x, s3, p3, hp⟩ := pB_r hp
    cases hp
    obtain ⟨c1, c2, -, -, -⟩ := pNum_le p1
    obtain ⟨w1, e1, F1, P1⟩ := PA.start hO.1 h1 hI hL
    obtain ⟨w2, e2, F2, nu2, P2⟩ := P1.head hO hw p1 p2
    have A2 := (h2.fr F1 JR11).fr F2 JR11
    have hN := hO.1
    obtain ⟨w3, nu3, e3, F3, P3, A3, hle⟩ := tb_ok hO c1 c2 60 0 (gN E) s2 w2 g nu2 (by omega) (by omega) P2 A2 x _ p3
    have K3 := ((h3.fr F1 (fun κ i hk => JQk κ i hk)).fr F2 (fun κ i hk => JQk κ i hk)).fr F3 (fun κ i hk => JRk κ i hk)
    rw [Nat.zero_add] at P3 hle
    refine ⟨w3, ?_, (F1.mono JQP).trans ((F2.mono JQP).trans (F3.mono JRP)), ⟨⟨_, _, _, _, P3.1⟩, ⟨_, A3⟩, K3⟩, P3.2.toIN, c1, c2, hle, _, _, _, P3.1, A3, fun j hj => ?_⟩
    · unfold X9_readTable_f X9_readTable
      rw [ob_e (gcl_o h1.2.2), ob_e e1, ob_e P1.cl, ob_e e2]
      rw [if_neg i10]
      exact e3
    · have hj : j < x.1 * C := hj
      rw [fb_put_in (by omega) (by omega), Nat.zero_mul]
      rfl
theorem PZ.tableF (hO : gOK E) (h : PZ E w a ia er of) (hI : IN E w ia n u) (hL : L ≤ n) {c o : Nat} (hp : pTable u L (tS u L 0) = .inl (c, o)) :
    ∃ w', X9_readTable_f E a (nI L) w.1 = some (0, w'.1) ∧ FS E JP w w' ∧ PZ E w' a ia (nI c) (nI o) ∧ IN E w' ia n u := by
  obtain ⟨⟨nu, co, ro, cc, h1⟩, ⟨g, h2⟩, h3⟩ := h
  obtain ⟨w1, e1, F1, P1⟩ := PA.start hO.1 h1 hI hL
  have A1 := h2.fr F1 JR11
  have K1 := h3.fr F1 (fun κ i hk => JQk κ i hk)
  have hF : ((isW u L (tS u L 0) txtT = false ∧ (c, o) = (1, tS u L 0)) ∨ (isW u L (tS u L 0) txtT = true ∧ (pNum u L 1 6 (tN u L (tS u L 0)) = .inl (c, o) ∨ ∃ C s1, pNum u L 1 6 (tN u L (tS u L 0)) = .inr (C, s1) ∧ pSemi u L s1 = .inl (c, o)))) → ∃ w', X9_readTable_f E a (nI L) w.1 = some (0, w'.1) ∧ FS E JP w w' ∧ PZ E w' a ia (nI c) (nI o) ∧ IN E w' ia n u := by
    intro hq
    obtain ⟨w2, e2, F2, s2, nu2, co2, P2⟩ := P1.headF hO hq
    refine ⟨w2, ?_, (F1.mono JQP).trans (F2.mono JQP), ⟨⟨_, _, _, _, P2.1⟩, ⟨_, A1.fr F2 JR11⟩, K1.fr F2 (fun κ i hk => JQk κ i hk)⟩, P2.2.toIN⟩
    unfold X9_readTable_f X9_readTable
    rw [ob_e (gcl_o h1.2.2), ob_e e1, ob_e P1.cl, ob_e e2]
    rw [if_pos rfl]
  unfold pTable at hp
  cases hw : isW u L (tS u L 0) txtT with
  | false =>
    rw [hw, if_neg (by decide)] at hp
    exact hF (Or.inl ⟨hw, (Sum.inl.inj hp).symm⟩)
  | true =>
    rw [hw, if_pos rfl] at hp
    rcases pB_l hp with p1 | ⟨C, s1, p1, hp⟩
    · exact hF (Or.inr ⟨hw, Or.inl p1⟩)
    rcases pB_l hp with p2 | ⟨⟨⟩, s2, p2, hp⟩
    · exact hF (Or.inr ⟨hw, Or.inr ⟨C, s1, p1, p2⟩⟩)
    rcases pB_l hp with p3 | ⟨x, s3, p3, hp⟩
    · obtain ⟨c1, c2, -, -, -⟩ := pNum_le p1
      obtain ⟨w2, e2, F2, nu2, P2⟩ := P1.head hO hw p1 p2
      have hN := hO.1
      obtain ⟨w3, s3, nu3, ro3, g3, e3, F3, P3, A3⟩ := tb_no hO c1 c2 60 0 (gN E) s2 w2 g nu2 (by omega) (by omega) P2 (A1.fr F2 JR11) c o p3
      refine ⟨w3, ?_, (F1.mono JQP).trans ((F2.mono JQP).trans (F3.mono JRP)), ⟨⟨_, _, _, _, P3.1⟩, ⟨_, A3⟩, (K1.fr F2 (fun κ i hk => JQk κ i hk)).fr F3 (fun κ i hk => JRk κ i hk)⟩, P3.2.toIN⟩
      unfold X9_readTable_f X9_readTable
      rw [ob_e (gcl_o h1.2.2), ob_e e1, ob_e P1.cl, ob_e e2]
      rw [if_neg i10]
      exact e3
    · cases hp
end PAS9
