/-! pure: texts are read -/
def PK (E : gE) (w : gWd) (a m C : Nat) (f : Nat → gCmd) : Prop :=
  (∃ k, ArR E w (12, 23, 0) 6 (a + 2) 20 k ∧ ∀ i, i < 20 → k i = some (a + 3 + 2 * i)) ∧ (∀ i, i < 20 → ∃ ka x1 x2 x3 x4 g, CO E w a i ka x1 x2 x3 x4 g) ∧ ∀ i, i < m → (f i).1 < 9 ∧ ∃ x1 x2 x3 x4 g, CO E w a i (gst E (30 + (f i).1)) x1 x2 x3 x4 g ∧ cmF C (f i) x1 x2 x3 x4 g
abbrev JP : Nat × Nat × Nat → Prop := fun t => t.2.1 = 22 ∨ t.2.1 = 23
theorem JQP (t : Nat × Nat × Nat) (h : JQ t) : JP t := by
  rcases h with h | h
  · rw [h]; exact Or.inr rfl
  · exact Or.inl (by rw [h])
theorem JMP {i : Nat} (t : Nat × Nat × Nat) (h : JM i t) : JP t := by
  rcases h with h | h
  · exact JQP t h
  · exact Or.inr (by rw [h.1])
abbrev JR : Nat × Nat × Nat → Prop := fun t => JQ t ∨ t = (11, 23, 0)
theorem JRP (t : Nat × Nat × Nat) (h : JR t) : JP t := by
  rcases h with h | h
  · exact JQP t h
  · rw [h]; exact Or.inr rfl
theorem JQR (t : Nat × Nat × Nat) (h : JQ t) : JR t := Or.inl h
abbrev JN : Nat × Nat × Nat → Prop := fun t => JQ t ∨ (t.2.1 = 23 ∧ 13 ≤ t.1)
theorem JQN (t : Nat × Nat × Nat) (h : JQ t) : JN t := Or.inl h
theorem JMN {i : Nat} (t : Nat × Nat × Nat) (h : JM i t) : JN t := h.elim Or.inl (fun h => Or.inr ⟨by rw [h.1], h.2⟩)
theorem JNP (t : Nat × Nat × Nat) (h : JN t) : JP t := h.elim (JQP t) (fun h => Or.inr h.1)
theorem JN11 : ¬ JN (11, 23, 0) := fun z => z.elim (JQx (by decide)) (fun z => by have : 13 ≤ 11 := z.2; omega)
theorem PK.fr {E : gE} {w w' : gWd} {a m C : Nat} {f : Nat → gCmd} (h : PK E w a m C f) {J : Nat × Nat × Nat → Prop} (hF : FS E J w w') (hJ : ∀ κ i, 12 ≤ κ → ¬ J (κ, 23, i)) : PK E w' a m C f := by
  obtain ⟨⟨k, h1, h2⟩, h3, h4⟩ := h
  refine ⟨⟨k, h1.fr hF (hJ _ _ (by decide)), h2⟩, fun i hi => ?_, fun i hi => ?_⟩
  · obtain ⟨ka, x1, x2, x3, x4, g, hc⟩ := h3 i hi
    exact ⟨ka, x1, x2, x3, x4, g, hc.fr hF (hJ _ _ (by decide)) (hJ _ _ (by decide))⟩
  · obtain ⟨h9, x1, x2, x3, x4, g, hc, hd⟩ := h4 i hi
    exact ⟨h9, x1, x2, x3, x4, g, hc.fr hF (hJ _ _ (by decide)) (hJ _ _ (by decide)), hd⟩
theorem JRk (κ i : Nat) (h : 12 ≤ κ) : ¬ JR (κ, 23, i) := by
  intro z
  rcases z with z | z
  · exact JQx (by omega) z
  · have : κ = 11 := congrArg Prod.fst z
    omega
theorem JQk (κ i : Nat) (h : 12 ≤ κ) : ¬ JQ (κ, 23, i) := fun z => JRk κ i h (Or.inl z)
theorem PK.step {E : gE} {w w' : gWd} {a m m' C : Nat} {f : Nat → gCmd} (h : PK E w a m C f) (hmm : m ≤ m') (hF : FS E (JM m') w w') (hc : ∃ ka x1 x2 x3 x4 g, CO E w' a m' ka x1 x2 x3 x4 g) : PK E w' a m C f := by
  obtain ⟨⟨k, h1, h2⟩, h3, h4⟩ := h
  have hno : ∀ κ i, 12 ≤ κ → i ≠ m' → ¬ JM m' (κ, 23, i) := by
    intro κ i hκ hi z
    rcases z with z | z
    · exact JQk κ i hκ z
    · exact hi (congrArg Prod.snd z.1)
  have hno2 : ¬ JM m' (12, 23, 0) := by
    intro z
    rcases z with z | z
    · exact JQk _ _ (by decide) z
    · have : 13 ≤ 12 := z.2
      omega
  refine ⟨⟨k, h1.fr hF hno2, h2⟩, fun i hi => ?_, fun i hi => ?_⟩
  · by_cases hz : i = m'
    · rw [hz]; exact hc
    · obtain ⟨ka, x1, x2, x3, x4, g, hc⟩ := h3 i hi
      exact ⟨ka, x1, x2, x3, x4, g, hc.fr hF (hno _ _ (by decide) hz) (hno _ _ (by decide) hz)⟩
  · obtain ⟨h9, x1, x2, x3, x4, g, hc, hd⟩ := h4 i hi
    exact ⟨h9, x1, x2, x3, x4, g, hc.fr hF (hno _ _ (by decide) (by omega)) (hno _ _ (by decide) (by omega)), hd⟩
theorem PK.less {E : gE} {w : gWd} {a m C m' C' : Nat} {f f' : Nat → gCmd} (h : PK E w a m C f) (hm : m' = 0) : PK E w a m' C' f' := by
  subst hm
  exact ⟨h.1, h.2.1, fun i hi => by omega⟩
section PAS5
variable {E : gE} {w : gWd} {a ia n L s C : Nat} {u : Nat → Nat} {er of nu co ro cc : Int32} {f : Nat → gCmd}
end PAS5
section PAS6
variable {E : gE} {a ia n L C : Nat} {u : Nat → Nat} {er of ro : Int32}
end PAS6
section PAS7
variable {E : gE} {w : gWd} {a ia n L s C : Nat} {u : Nat → Nat} {er of nu co ro cc : Int32}
theorem PA.extra (h : PA E w a ia n u L s er of nu co ro cc) : ∃ w', X9_failAtExtraRow_f E a w.1 = some (0, w'.1) ∧ FS E JQ w w' ∧ PA E w' a ia n u L s (nI (pExtra u L s).1) (nI (pExtra u L s).2) nu co ro cc := by
  have hlt := tNum_lt (u := u) (L := L) (s := s) h.2.1.2.2.2.2
  unfold pExtra
  by_cases h5 : kd u L s = 5
  · rw [if_pos h5]
    obtain ⟨w', e, F, P⟩ := h.fl 3
    refine ⟨w', ?_, F, P⟩
    unfold X9_failAtExtraRow_f X9_failAtExtraRow
    rw [ob_e h.in_, ob_e h.icl, ob_e h.2.isMinus, if_pos h5, if_neg (by decide), ob_e h.cl]
    refine (e _).trans ?_
    rw [ob_e gz0']
  · rw [if_neg h5]
    by_cases h3 : kd u L s = 3
    · rw [if_pos h3]
      by_cases h9 : tNum u L s ≤ 9999
      · rw [if_pos h9]
        obtain ⟨w', e, F, P⟩ := h.fl 3
        refine ⟨w', ?_, F, P⟩
        unfold X9_failAtExtraRow_f X9_failAtExtraRow X9_failAtExtraRow_51
        rw [ob_e h.in_, ob_e h.icl, ob_e h.2.isMinus, if_neg h5, if_pos rfl, ob_e h.in_, ob_e h.icl, ob_e h.2.isNum, if_pos h3, if_neg (by decide), ob_e h.in_, ob_e h.icl, ob_e h.2.number, if_pos (show nI (tNum u L s) ≤ (9999 : Int32) from nI_le (b := 9999) h9 (by decide)), ob_e h.cl]
        refine (e _).trans ?_
        rw [ob_e gz0']
      · rw [if_neg h9]
        obtain ⟨w', e, F, P⟩ := h.fl 2
        refine ⟨w', ?_, F, P⟩
        unfold X9_failAtExtraRow_f X9_failAtExtraRow X9_failAtExtraRow_51
        rw [ob_e h.in_, ob_e h.icl, ob_e h.2.isMinus, if_neg h5, if_pos rfl, ob_e h.in_, ob_e h.icl, ob_e h.2.isNum, if_pos h3, if_neg (by decide), ob_e h.in_, ob_e h.icl, ob_e h.2.number, if_neg (show ¬ nI (tNum u L s) ≤ (9999 : Int32) from nI_ge (a := 9999) (by omega) (by omega)), ob_e h.cl]
        refine (e _).trans ?_
        rw [ob_e gz0']
    · rw [if_neg h3]
      obtain ⟨w', e, F, P⟩ := h.fl 1
      refine ⟨w', ?_, F, P⟩
      unfold X9_failAtExtraRow_f X9_failAtExtraRow
      rw [ob_e h.in_, ob_e h.icl, ob_e h.2.isMinus, if_neg h5, if_pos rfl, ob_e h.in_, ob_e h.icl, ob_e h.2.isNum, if_neg h3, if_pos rfl, ob_e h.cl]
      refine (e _).trans ?_
      rw [ob_e gz0']
theorem PA.word (hO : gOK E) (h : PA E w a ia n u L s er of nu co ro cc) (hw : isW u L s txtT = true) : ∃ w', X9_takeWord_f E a (gst E 0) w.1 = some (1, w'.1) ∧ FS E JQ w w' ∧ PA E w' a ia n u L (tN u L s) er of nu co ro cc := by
  have hi := h.2.isWord hO.1 (hO.2.1 0 (by decide))
  rw [show txt 0 = txtT from rfl, hw] at hi
  obtain ⟨w2, e2, F2, R2⟩ := h.2.next hO.1
  refine ⟨w2, ?_, F2.mono JQ2, h.1.fr F2 (by simp), R2⟩
  unfold X9_takeWord_f X9_takeWord
  rw [ob_e h.in_, ob_e h.icl, ob_e hi, if_neg (by decide), ob_e h.in_, ob_e h.icl, ob_e e2]
theorem PA.wordF (hO : gOK E) (h : PA E w a ia n u L s er of nu co ro cc) (hw : isW u L s txtT = false) : ∃ w', X9_takeWord_f E a (gst E 0) w.1 = some (0, w'.1) ∧ FS E JQ w w' ∧ PA E w' a ia n u L s (nI 1) (nI s) nu co ro cc := by
  have hi := h.2.isWord hO.1 (hO.2.1 0 (by decide))
  rw [show txt 0 = txtT from rfl, hw] at hi
  obtain ⟨w', e, F, P⟩ := h.fl 1
  refine ⟨w', ?_, F, P⟩
  unfold X9_takeWord_f X9_takeWord
  rw [ob_e h.in_, ob_e h.icl, ob_e hi, if_pos (by decide), ob_e h.cl]
  refine (e _).trans ?_
  rw [ob_e gz0']
theorem PA.endd (h : PA E w a ia n u L s er of nu co ro cc) (hk : kd u L s = 0) : X9_takeEnd_f E a w.1 = some (1, w.1) := by
  unfold X9_takeEnd_f X9_takeEnd X9_takeEnd_18
  rw [ob_e h.in_, ob_e h.icl, ob_e h.2.isEnd, if_pos hk, if_neg (by decide)]
theorem PA.enddF (h : PA E w a ia n u L s er of nu co ro cc) (hk : ¬ kd u L s = 0) : ∃ w', X9_takeEnd_f E a w.1 = some (0, w'.1) ∧ FS E JQ w w' ∧ PA E w' a ia n u L s (nI 1) (nI s) nu co ro cc := by
  obtain ⟨w', e, F, P⟩ := h.fl 1
  refine ⟨w', ?_, F, P⟩
  unfold X9_takeEnd_f X9_takeEnd
  rw [ob_e h.in_, ob_e h.icl, ob_e h.2.isEnd, if_neg hk, if_pos rfl, ob_e h.cl]
  refine (e _).trans ?_
  rw [if_pos rfl]
end PAS7
section PAS8
variable {E : gE} {a ia n L C : Nat} {u : Nat → Nat} {er of cc : Int32}
theorem JR11 : ¬ JQ (11, 23, 0) := JQx (by decide)
theorem putT {g r x : Nat → Int32} {p C k : Nat} : fb_put (fb_put g r p C) x (p + C) k = fb_put g (fun j => if j < C then r j else x (j - C)) p (k + C) := by
  funext j
  show (if p + C ≤ j ∧ j < p + C + k then x (j - (p + C)) else if p ≤ j ∧ j < p + C then r (j - p) else g j) = (if p ≤ j ∧ j < p + (k + C) then (if j - p < C then r (j - p) else x (j - p - C)) else g j)
  by_cases h1 : p + C ≤ j ∧ j < p + C + k
  · rw [if_pos h1, if_pos (by omega), if_neg (by omega), show j - (p + C) = j - p - C by omega]
  · rw [if_neg h1]
    by_cases h2 : p ≤ j ∧ j < p + C
    · rw [if_pos h2, if_pos (by omega), if_pos (by omega)]
    · rw [if_neg h2, if_neg (by omega)]
theorem tb_ok (hO : gOK E) (hC : 1 ≤ C) (hC6 : C ≤ 6) : ∀ (k R m s : Nat) (w : gWd) (g : Nat → Int32) (nu : Int32), R + k = 60 → k < m → PA E w a ia n u L s er of nu (nI C) (nI R) cc → ArI E w (11, 23, 0) (a + 1) 360 g → ∀ q s', pTab u L C k s = .inr (q, s') →
    ∃ w' nu', X9_readTable_16 E m a (nI R) w.1 = some (1, w'.1) ∧ FS E JR w w' ∧ PA E w' a ia n u L s' er of nu' (nI C) (nI (R + q.1)) cc ∧ ArI E w' (11, 23, 0) (a + 1) 360 (fb_put g q.2 (R * C) (q.1 * C)) ∧ R + q.1 ≤ 60 := by
  have stop : ∀ (R m s : Nat) (w : gWd) (g x : Nat → Int32) (nu : Int32), R ≤ 60 → PA E w a ia n u L s er of nu (nI C) (nI R) cc → ArI E w (11, 23, 0) (a + 1) 360 g → kd u L s = 0 → ∃ w' nu', X9_readTable_16 E (m + 1) a (nI R) w.1 = some (1, w'.1) ∧ FS E JR w w' ∧ PA E w' a ia n u L s er of nu' (nI C) (nI (R + 0)) cc ∧ ArI E w' (11, 23, 0) (a + 1) 360 (fb_put g x (R * C) (0 * C)) ∧ R + 0 ≤ 60 := by
    intro R m s w g x nu hR h hA hk
    refine ⟨w, nu, ?_, FS.rf, h, by rw [Nat.zero_mul, fb_put_0]; exact hA, hR⟩
    show X9_readTable_16_s E (X9_readTable_16 E m) a (nI R) w.1 = _
    unfold X9_readTable_16_s X9_readTable_47
    rw [if_neg (show ¬ (60 : Int32) < nI R from nI_nlt (a := 60) hR (by decide)), ob_e h.in_, ob_e h.icl, ob_e h.2.isEnd, if_pos hk, if_neg (by decide)]
  intro k
  induction k with
  | zero =>
    intro R m s w g nu hR hm h hA q s' hp
    obtain ⟨m, rfl⟩ : ∃ q, m = q + 1 := ⟨m - 1, by omega⟩
    unfold pTab at hp
    by_cases hk : kd u L s = 0
    · rw [if_pos hk] at hp
      cases hp
      exact stop R m s w g _ nu (by omega) h hA hk
    · rw [if_neg hk] at hp
      cases hp
  | succ k ih =>
    intro R m s w g nu hR hm h hA q s' hp
    obtain ⟨m, rfl⟩ : ∃ q, m = q + 1 := ⟨m - 1, by omega⟩
    unfold pTab at hp
    by_cases hk : kd u L s = 0
    · rw [if_pos hk] at hp
      cases hp
      exact stop R m s w g _ nu (by omega) h hA hk
    · rw [if_neg hk] at hp
      obtain ⟨r, s1, p1, hp⟩ := pB_r hp
      obtain ⟨x0, s2, p2, hp⟩ := pB_r hp
      obtain ⟨x, s3, p3, hp⟩ := pB_r hp
      cases hp
      have hRC : R * C + C ≤ 360 := by
        have h1 : R * C ≤ R * 6 := Nat.mul_le_mul_left R hC6
        omega
      obtain ⟨w1, nu1, e1, F1, P1, A1⟩ := h.row hO.1 (ta := a + 1) (first := R * C) (nn := 360) (tt := (11, 23, 0)) JR11 hC6 hRC (by decide) hA p1
      obtain ⟨w2, e2, F2, P2⟩ := P1.semi hO.1 p2
      have A2 := A1.fr F2 JR11
      obtain ⟨w3, e3, F3, P3⟩ := P2.putRo (nI (R + 1))
      have A3 := A2.fr F3 JR11
      obtain ⟨w4, nu4, e4, F4, P4, A4, hle⟩ := ih (R + 1) m s2 w3 _ _ (by omega) (by omega) P3 A3 x _ p3
      refine ⟨w4, nu4, ?_, F1.trans ((F2.mono JQR).trans ((F3.mono JQR).trans F4)), ?_, ?_, ?_⟩
      · have hrow : X9_takeTableRow_f E a w.1 = some (1, w3.1) := by
          unfold X9_takeTableRow_f X9_takeTableRow
          rw [ob_e (gfI_o h.1.2.2 rfl), if_neg (show ¬ nI R = (60 : Int32) from fun z => by have := (nI_eqI (b := 60) (by omega) (by decide)).mp z; omega), ob_e (gfR_o h.1.2.2 rfl), ob_e (gfI_o h.1.2.2 rfl), ob_e (gfI_o h.1.2.2 rfl), ob_e h.cl, nI_mul, ob_e e1]
          rw [if_neg i10, ob_e P1.cl, ob_e e2]
          rw [if_neg i10, ob_e (gfI_o P2.1.2.2 rfl), ← nI_succ, ob_e e3]
        show X9_readTable_16_s E (X9_readTable_16 E m) a (nI R) w.1 = _
        unfold X9_readTable_16_s
        rw [if_neg (show ¬ (60 : Int32) < nI R from nI_nlt (a := 60) (by omega) (by decide)), ob_e h.in_, ob_e h.icl, ob_e h.2.isEnd, if_neg hk, if_pos rfl, ob_e h.cl, ob_e hrow]
        rw [if_neg i10, ← nI_succ]
        exact e4
      · rw [show R + (x.1 + 1) = R + 1 + x.1 by omega]
        exact P4
      · rw [show (x.1 + 1) * C = x.1 * C + C from Nat.succ_mul _ _, ← putT, show R * C + C = (R + 1) * C from (Nat.succ_mul _ _).symm]
        exact A4
      · show R + (x.1 + 1) ≤ 60
        omega
theorem tb_no (hO : gOK E) (hC : 1 ≤ C) (hC6 : C ≤ 6) : ∀ (k R m s : Nat) (w : gWd) (g : Nat → Int32) (nu : Int32), R + k = 60 → k < m → PA E w a ia n u L s er of nu (nI C) (nI R) cc → ArI E w (11, 23, 0) (a + 1) 360 g → ∀ c o, pTab u L C k s = .inl (c, o) →
    ∃ w' s' nu' ro' g', X9_readTable_16 E m a (nI R) w.1 = some (0, w'.1) ∧ FS E JR w w' ∧ PA E w' a ia n u L s' (nI c) (nI o) nu' (nI C) ro' cc ∧ ArI E w' (11, 23, 0) (a + 1) 360 g' := by
  intro k
  induction k with
  | zero =>
    intro R m s w g nu hR hm h hA c o hp
    obtain ⟨m, rfl⟩ : ∃ q, m = q + 1 := ⟨m - 1, by omega⟩
    unfold pTab at hp
    by_cases hk : kd u L s = 0
    · rw [if_pos hk] at hp
      cases hp
    · rw [if_neg hk] at hp
      obtain ⟨w1, e1, F1, P1⟩ := h.extra
      rw [Sum.inl.inj hp] at P1
      refine ⟨w1, _, _, _, g, ?_, F1.mono JQR, P1, hA.fr F1 JR11⟩
      have hrow : X9_takeTableRow_f E a w.1 = some (0, w1.1) := by
        unfold X9_takeTableRow_f X9_takeTableRow
        rw [ob_e (gfI_o h.1.2.2 rfl), if_pos (show nI R = (60 : Int32) from (nI_eqI (b := 60) (by omega) (by decide)).mpr (by omega)), ob_e h.cl, ob_e e1]
        rw [ob_e gz0']
      show X9_readTable_16_s E (X9_readTable_16 E m) a (nI R) w.1 = _
      unfold X9_readTable_16_s
      rw [if_neg (show ¬ (60 : Int32) < nI R from nI_nlt (a := 60) (by omega) (by decide)), ob_e h.in_, ob_e h.icl, ob_e h.2.isEnd, if_neg hk, if_pos rfl, ob_e h.cl, ob_e hrow]
      rw [if_pos rfl]
  | succ k ih =>
    intro R m s w g nu hR hm h hA c o hp
    obtain ⟨m, rfl⟩ : ∃ q, m = q + 1 := ⟨m - 1, by omega⟩
    unfold pTab at hp
    by_cases hk : kd u L s = 0
    · rw [if_pos hk] at hp
      cases hp
    · rw [if_neg hk] at hp
      have hRC : R * C + C ≤ 360 := by
        have h1 : R * C ≤ R * 6 := Nat.mul_le_mul_left R hC6
        omega
      have hstep : ∀ kk : Option (Int32 × gS), (ob (X9_takeTableRow_f E a w.1) fun x6 => if x6.1 = 0 then some ((0 : Int32), x6.2) else X9_readTable_16 E m a (nI R + 1) x6.2) = kk → X9_readTable_16 E (m + 1) a (nI R) w.1 = kk := by
        intro kk hkk
        show X9_readTable_16_s E (X9_readTable_16 E m) a (nI R) w.1 = _
        unfold X9_readTable_16_s
        rw [if_neg (show ¬ (60 : Int32) < nI R from nI_nlt (a := 60) (by omega) (by decide)), ob_e h.in_, ob_e h.icl, ob_e h.2.isEnd, if_neg hk, if_pos rfl, ob_e h.cl]
        exact hkk
      have hrw : ∀ kk : Option (Int32 × gS), (ob (X9_takeRow_f E a (a + 1) (nI (R * C)) w.1) fun x9 => if x9.1 = 0 then X9_takeTableRow_41 E x9.2 else ob (gcl x9.2 a 7) fun _ => ob (X9_takeSemicolon_f E a x9.2) fun x12 => if x12.1 = 0 then X9_takeTableRow_41 E x12.2 else ob (gfI x12.2 a 7 5) fun x15 => ob (gpf E x12.2 a 7 5 (.int (x15 + (1 : Int32)))) fun σ17 => some ((1 : Int32), σ17)) = kk → X9_takeTableRow_f E a w.1 = kk := by
        intro kk hkk
        unfold X9_takeTableRow_f X9_takeTableRow
        rw [ob_e (gfI_o h.1.2.2 rfl), if_neg (show ¬ nI R = (60 : Int32) from fun z => by have := (nI_eqI (b := 60) (by omega) (by decide)).mp z; omega), ob_e (gfR_o h.1.2.2 rfl), ob_e (gfI_o h.1.2.2 rfl), ob_e (gfI_o h.1.2.2 rfl), ob_e h.cl, nI_mul]
        exact hkk
      rcases pB_l hp with p1 | ⟨r, s1, p1, hp⟩
      · obtain ⟨w1, s1, nu1, g1, e1, F1, P1, A1⟩ := h.rowF hO.1 (ta := a + 1) (first := R * C) (nn := 360) (tt := (11, 23, 0)) JR11 hC6 hRC (by decide) hA p1
        refine ⟨w1, s1, nu1, _, g1, hstep _ ?_, F1, P1, A1⟩
        rw [ob_e (hrw _ (by rw [ob_e e1]; rw [if_pos rfl]; rfl))]
        rw [if_pos rfl]
      obtain ⟨w1, nu1, e1, F1, P1, A1⟩ := h.row hO.1 (ta := a + 1) (first := R * C) (nn := 360) (tt := (11, 23, 0)) JR11 hC6 hRC (by decide) hA p1
      rcases pB_l hp with p2 | ⟨x0, s2, p2, hp⟩
      · obtain ⟨w2, e2, F2, P2⟩ := P1.semiF p2
        refine ⟨w2, _, nu1, _, _, hstep _ ?_, F1.trans (F2.mono JQR), P2, A1.fr F2 JR11⟩
        rw [ob_e (hrw _ (by rw [ob_e e1]; rw [if_neg i10, ob_e P1.cl, ob_e e2]; rw [if_pos rfl]; rfl))]
        rw [if_pos rfl]
      obtain ⟨w2, e2, F2, P2⟩ := P1.semi hO.1 p2
      have A2 := A1.fr F2 JR11
      obtain ⟨w3, e3, F3, P3⟩ := P2.putRo (nI (R + 1))
      have A3 := A2.fr F3 JR11
      rcases pB_l hp with p3 | ⟨x, s3, p3, hp⟩
      · obtain ⟨w4, s4, nu4, ro4, g4, e4, F4, P4, A4⟩ := ih (R + 1) m s2 w3 _ _ (by omega) (by omega) P3 A3 c o p3
        refine ⟨w4, s4, nu4, ro4, g4, hstep _ ?_, F1.trans ((F2.mono JQR).trans ((F3.mono JQR).trans F4)), P4, A4⟩
        rw [ob_e (hrw _ (by rw [ob_e e1]; rw [if_neg i10, ob_e P1.cl, ob_e e2]; rw [if_neg i10, ob_e (gfI_o P2.1.2.2 rfl), ← nI_succ, ob_e e3]))]
        rw [if_neg i10, ← nI_succ]
        exact e4
      · cases hp
end PAS8
