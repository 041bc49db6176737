/-! pure: reading, its leaves -/
/-- what reading gives: the code and the offset of an error, or a value and the place of the next token -/
abbrev gPr (α : Type) : Type := (Nat × Nat) ⊕ (α × Nat)
def pNum (u : Nat → Nat) (L lo hi s : Nat) : gPr Nat := if kd u L s = 3 then (if tNum u L s < lo ∨ hi < tNum u L s then .inl (2, s) else .inr (tNum u L s, tN u L s)) else .inl (1, s)
def pInt1 (u : Nat → Nat) (L s : Nat) : gPr Int32 := match pNum u L 0 9999 s with
  | .inl e => .inl e
  | .inr (x, s') => .inr (nI x, s')
def pInt (u : Nat → Nat) (L s : Nat) : gPr Int32 := if kd u L s = 5 then (match pNum u L 0 9999 (tN u L s) with
  | .inl e => .inl e
  | .inr (x, s') => .inr (-(nI x), s')) else pInt1 u L s
def pSemi (u : Nat → Nat) (L s : Nat) : gPr Unit := if kd u L s = 4 then .inr ((), tN u L s) else .inl (1, s)
def isW (u : Nat → Nat) (L s : Nat) (l : List Nat) : Bool := decide (kd u L s = 2 ∧ tE u L s - s = l.length ∧ ∀ i, i < l.length → u (s + i) = l.getD i 0)
theorem tNum_lt {u : Nat → Nat} {L s : Nat} (hu : ∀ i, u i < 256) : tNum u L s < 2000000 := by
  unfold tNum
  split
  · exact dg_le u s hu _
  · decide
theorem pNum_le {u : Nat → Nat} {L lo hi s x s' : Nat} (h : pNum u L lo hi s = .inr (x, s')) : lo ≤ x ∧ x ≤ hi ∧ s' = tN u L s ∧ kd u L s = 3 ∧ x = tNum u L s := by
  unfold pNum at h
  split at h
  · split at h
    · cases h
    · rename_i h1 h2
      cases h
      exact ⟨by omega, by omega, rfl, h1, rfl⟩
  · cases h
theorem kd_is {u : Nat → Nat} {L s : Nat} (k : Nat) (hk : k < 7) : nI (kd u L s) = nI k ↔ kd u L s = k := by
  have := kd_le u L s
  exact nI_eqI (by omega) (by omega)
theorem RT.isNum {E : gE} {w : gWd} {a n L s : Nat} {u : Nat → Nat} (h : RT E w a n u L s) : X6_isNumber_f E w.1 a = some (if kd u L s = 3 then 1 else 0) := by
  unfold X6_isNumber_f X6_isNumber
  rw [ob_e (gfI_o h.1.1.2.2 rfl)]
  have := kd_is (u := u) (L := L) (s := s) 3 (by decide)
  by_cases hk : kd u L s = 3
  · rw [if_pos (show nI (kd u L s) = (3 : Int32) from this.mpr hk), if_pos hk]
  · rw [if_neg (show ¬ nI (kd u L s) = (3 : Int32) from fun z => hk (this.mp z)), if_neg hk]
theorem RT.isMinus {E : gE} {w : gWd} {a n L s : Nat} {u : Nat → Nat} (h : RT E w a n u L s) : X6_isMinus_f E w.1 a = some (if kd u L s = 5 then 1 else 0) := by
  unfold X6_isMinus_f X6_isMinus
  rw [ob_e (gfI_o h.1.1.2.2 rfl)]
  have := kd_is (u := u) (L := L) (s := s) 5 (by decide)
  by_cases hk : kd u L s = 5
  · rw [if_pos (show nI (kd u L s) = (5 : Int32) from this.mpr hk), if_pos hk]
  · rw [if_neg (show ¬ nI (kd u L s) = (5 : Int32) from fun z => hk (this.mp z)), if_neg hk]
theorem RT.isSemi {E : gE} {w : gWd} {a n L s : Nat} {u : Nat → Nat} (h : RT E w a n u L s) : X6_isSemicolon_f E w.1 a = some (if kd u L s = 4 then 1 else 0) := by
  unfold X6_isSemicolon_f X6_isSemicolon
  rw [ob_e (gfI_o h.1.1.2.2 rfl)]
  have := kd_is (u := u) (L := L) (s := s) 4 (by decide)
  by_cases hk : kd u L s = 4
  · rw [if_pos (show nI (kd u L s) = (4 : Int32) from this.mpr hk), if_pos hk]
  · rw [if_neg (show ¬ nI (kd u L s) = (4 : Int32) from fun z => hk (this.mp z)), if_neg hk]
theorem RT.isEnd {E : gE} {w : gWd} {a n L s : Nat} {u : Nat → Nat} (h : RT E w a n u L s) : X6_isAtEnd_f E w.1 a = some (if kd u L s = 0 then 1 else 0) := by
  unfold X6_isAtEnd_f X6_isAtEnd
  rw [ob_e (gfI_o h.1.1.2.2 rfl)]
  have := kd_is (u := u) (L := L) (s := s) 0 (by decide)
  by_cases hk : kd u L s = 0
  · rw [if_pos (show nI (kd u L s) = (0 : Int32) from this.mpr hk), if_pos hk]
  · rw [if_neg (show ¬ nI (kd u L s) = (0 : Int32) from fun z => hk (this.mp z)), if_neg hk]
theorem RT.number {E : gE} {w : gWd} {a n L s : Nat} {u : Nat → Nat} (h : RT E w a n u L s) : X6_number_f E w.1 a = some (nI (tNum u L s)) := by
  unfold X6_number_f X6_number
  rw [ob_e (gfI_o h.1.1.2.2 rfl)]
theorem RT.offset {E : gE} {w : gWd} {a n L s : Nat} {u : Nat → Nat} (h : RT E w a n u L s) : X6_offset_f E w.1 a = some (nI s) := by
  unfold X6_offset_f X6_offset
  rw [ob_e (gfI_o h.1.1.2.2 rfl)]
/-- the parser at a, its input at ia looks at the token that begins at s -/
def PA (E : gE) (w : gWd) (a ia n : Nat) (u : Nat → Nat) (L s : Nat) (er of nu co ro cc : Int32) : Prop := Ob w (10, 23, 0) a 7 [.ref ia, .int er, .int of, .int nu, .int co, .int ro, .ref (a + 1), .ref (a + 2), .int cc] ∧ RT E w ia n u L s
abbrev JQ : Nat × Nat × Nat → Prop := fun t => t = (10, 23, 0) ∨ t.2 = (22, 0)
theorem JQ1 (t : Nat × Nat × Nat) (h : t = (10, 23, 0)) : JQ t := Or.inl h
theorem JQ2 (t : Nat × Nat × Nat) (h : t.2 = (22, 0)) : JQ t := Or.inr h
section PAS
variable {E : gE} {w : gWd} {a ia n L s : Nat} {u : Nat → Nat} {er of nu co ro cc : Int32}
theorem PA.cl (h : PA E w a ia n u L s er of nu co ro cc) : gcl w.1 a 7 = some () := gcl_o h.1.2.2
theorem PA.icl (h : PA E w a ia n u L s er of nu co ro cc) : gcl w.1 ia 5 = some () := gcl_o h.2.1.1.2.2
theorem PA.in_ (h : PA E w a ia n u L s er of nu co ro cc) : gfR w.1 a 7 0 = some ia := gfR_o h.1.2.2 rfl
theorem PA.rt (h : PA E w a ia n u L s er of nu co ro cc) {w' : gWd} (hF : FS E (fun t => t = (10, 23, 0)) w w') : RT E w' ia n u L s := h.2.fr hF (fun κ z => by simp at z)
theorem PA.fail (h : PA E w a ia n u L s er of nu co ro cc) (c : Nat) : ∃ w', X9_fail_f E a (nI c) w.1 = some (0, w'.1) ∧ FS E JQ w w' ∧ PA E w' a ia n u L s (nI c) (nI s) nu co ro cc := by
  obtain ⟨e1, O1, F1⟩ := h.1.put (E := E) 1 (.int (nI c)) (Nat.le_of_ble_eq_true rfl) (J := fun t => t = (10, 23, 0)) rfl
  have R1 := h.rt F1
  obtain ⟨e2, O2, F2⟩ := O1.put (E := E) 2 (.int (nI s)) (Nat.le_of_ble_eq_true rfl) (J := fun t => t = (10, 23, 0)) rfl
  refine ⟨_, ?_, (F1.mono JQ1).trans (F2.mono JQ1), O2, R1.fr F2 (fun κ z => by simp at z)⟩
  unfold X9_fail_f X9_fail
  rw [ob_e e1, ob_e (gfR_o O1.2.2 rfl), ob_e (gcl_o R1.1.1.2.2), ob_e R1.offset, ob_e e2]
theorem gz0' : gz (0 : Int32) = some () := rfl
theorem gz1' : gz (1 : Int32) = some () := rfl
theorem PA.fl (h : PA E w a ia n u L s er of nu co ro cc) (c : Nat) : ∃ w', (∀ {β : Type} (k : Int32 × gS → Option β), ob (X9_fail_f E a (nI c) w.1) k = k (0, w'.1)) ∧ FS E JQ w w' ∧ PA E w' a ia n u L s (nI c) (nI s) nu co ro cc := by
  obtain ⟨w', e, F, P⟩ := h.fail c
  exact ⟨w', fun k => ob_e e, F, P⟩
theorem PA.num (hN : 100000 ≤ gN E) (h : PA E w a ia n u L s er of nu co ro cc) {lo hi : Nat} (hlo : lo < 2 ^ 31) (hhi : hi < 2 ^ 31) {x s' : Nat} (hp : pNum u L lo hi s = .inr (x, s')) : ∃ w', X9_takeNumber_f E a (nI lo) (nI hi) w.1 = some (1, w'.1) ∧ FS E JQ w w' ∧ PA E w' a ia n u L s' er of (nI x) co ro cc := by
  obtain ⟨p1, p2, p3, p4, p5⟩ := pNum_le hp
  have hlt := tNum_lt (u := u) (L := L) (s := s) h.2.1.2.2.2.2
  obtain ⟨e1, O1, F1⟩ := h.1.put (E := E) 3 (.int (nI (tNum u L s))) (Nat.le_of_ble_eq_true rfl) (J := fun t => t = (10, 23, 0)) rfl
  have R1 := h.rt F1
  obtain ⟨w2, e2, F2, R2⟩ := R1.next hN
  refine ⟨w2, ?_, (F1.mono JQ1).trans (F2.mono JQ2), ?_, by rw [p3]; exact R2⟩
  · unfold X9_takeNumber_f X9_takeNumber
    rw [ob_e h.in_, ob_e h.icl, ob_e h.2.isNum, if_pos p4, if_neg (by decide), ob_e h.in_, ob_e h.icl, ob_e h.2.number, if_neg (nI_nlt (by omega) (by omega)), ob_e h.in_, ob_e h.icl, ob_e h.2.number, if_pos (nI_le (by omega) hhi), ob_e h.in_, ob_e h.icl, ob_e h.2.number, ob_e e1, ob_e (gfR_o O1.2.2 rfl), ob_e (gcl_o R1.1.1.2.2), ob_e e2]
  · rw [p5]
    exact O1.fr F2 (by simp)
theorem PA.numF (h : PA E w a ia n u L s er of nu co ro cc) {lo hi : Nat} (hlo : lo < 2 ^ 31) (hhi : hi < 2 ^ 31) {c o : Nat} (hp : pNum u L lo hi s = .inl (c, o)) : ∃ w', X9_takeNumber_f E a (nI lo) (nI hi) w.1 = some (0, w'.1) ∧ FS E JQ w w' ∧ PA E w' a ia n u L s (nI c) (nI o) nu co ro cc := by
  have hlt := tNum_lt (u := u) (L := L) (s := s) h.2.1.2.2.2.2
  unfold pNum at hp
  split at hp
  · rename_i p4
    split at hp
    · rename_i p5
      cases hp
      obtain ⟨w', e, F, P⟩ := h.fl 2
      refine ⟨w', ?_, F, P⟩
      have h38 : X9_takeNumber_38 E a w.1 = some (0, w'.1) := by
        unfold X9_takeNumber_38
        rw [ob_e h.cl]
        refine (e _).trans ?_
        rw [ob_e gz0']
      unfold X9_takeNumber_f X9_takeNumber
      rw [ob_e h.in_, ob_e h.icl, ob_e h.2.isNum, if_pos p4, if_neg (by decide), ob_e h.in_, ob_e h.icl, ob_e h.2.number]
      by_cases hl : tNum u L s < lo
      · rw [if_pos (nI_lt hl hlo)]
        exact h38
      · rw [if_neg (nI_nlt (by omega) (by omega)), ob_e h.in_, ob_e h.icl, ob_e h.2.number, if_neg (nI_ge (by omega) (by omega))]
        exact h38
    · cases hp
  · rename_i p4
    cases hp
    obtain ⟨w', e, F, P⟩ := h.fl 1
    refine ⟨w', ?_, F, P⟩
    unfold X9_takeNumber_f X9_takeNumber
    rw [ob_e h.in_, ob_e h.icl, ob_e h.2.isNum, if_neg p4, if_pos rfl, ob_e h.cl]
    refine (e _).trans ?_
    rw [ob_e gz0']
theorem PA.semi (hN : 100000 ≤ gN E) (h : PA E w a ia n u L s er of nu co ro cc) {x : Unit} {s' : Nat} (hp : pSemi u L s = .inr (x, s')) : ∃ w', X9_takeSemicolon_f E a w.1 = some (1, w'.1) ∧ FS E JQ w w' ∧ PA E w' a ia n u L s' er of nu co ro cc := by
  unfold pSemi at hp
  split at hp
  · rename_i p4
    cases hp
    obtain ⟨w2, e2, F2, R2⟩ := h.2.next hN
    refine ⟨w2, ?_, F2.mono JQ2, h.1.fr F2 (by simp), R2⟩
    unfold X9_takeSemicolon_f X9_takeSemicolon
    rw [ob_e h.in_, ob_e h.icl, ob_e h.2.isSemi, if_pos p4, if_neg (by decide), ob_e h.in_, ob_e h.icl, ob_e e2]
  · cases hp
theorem PA.semiF (h : PA E w a ia n u L s er of nu co ro cc) {c o : Nat} (hp : pSemi u L s = .inl (c, o)) : ∃ w', X9_takeSemicolon_f E a w.1 = some (0, w'.1) ∧ FS E JQ w w' ∧ PA E w' a ia n u L s (nI c) (nI o) nu co ro cc := by
  unfold pSemi at hp
  split at hp
  · cases hp
  · rename_i p4
    cases hp
    obtain ⟨w', e, F, P⟩ := h.fl 1
    refine ⟨w', ?_, F, P⟩
    unfold X9_takeSemicolon_f X9_takeSemicolon
    rw [ob_e h.in_, ob_e h.icl, ob_e h.2.isSemi, if_neg p4, if_pos rfl, ob_e h.cl]
    refine (e _).trans ?_
    rw [ob_e gz0']
theorem PA.putNu (h : PA E w a ia n u L s er of nu co ro cc) (x : Int32) : ∃ w', gpf E w.1 a 7 3 (.int x) = some w'.1 ∧ FS E JQ w w' ∧ PA E w' a ia n u L s er of x co ro cc := by
  obtain ⟨e1, O1, F1⟩ := h.1.put (E := E) 3 (.int x) (Nat.le_of_ble_eq_true rfl) (J := fun t => t = (10, 23, 0)) rfl
  exact ⟨_, e1, F1.mono JQ1, O1, h.rt F1⟩
theorem PA.putCo (h : PA E w a ia n u L s er of nu co ro cc) (x : Int32) : ∃ w', gpf E w.1 a 7 4 (.int x) = some w'.1 ∧ FS E JQ w w' ∧ PA E w' a ia n u L s er of nu x ro cc := by
  obtain ⟨e1, O1, F1⟩ := h.1.put (E := E) 4 (.int x) (Nat.le_of_ble_eq_true rfl) (J := fun t => t = (10, 23, 0)) rfl
  exact ⟨_, e1, F1.mono JQ1, O1, h.rt F1⟩
theorem PA.putRo (h : PA E w a ia n u L s er of nu co ro cc) (x : Int32) : ∃ w', gpf E w.1 a 7 5 (.int x) = some w'.1 ∧ FS E JQ w w' ∧ PA E w' a ia n u L s er of nu co x cc := by
  obtain ⟨e1, O1, F1⟩ := h.1.put (E := E) 5 (.int x) (Nat.le_of_ble_eq_true rfl) (J := fun t => t = (10, 23, 0)) rfl
  exact ⟨_, e1, F1.mono JQ1, O1, h.rt F1⟩
theorem PA.putCc (h : PA E w a ia n u L s er of nu co ro cc) (x : Int32) : ∃ w', gpf E w.1 a 7 8 (.int x) = some w'.1 ∧ FS E JQ w w' ∧ PA E w' a ia n u L s er of nu co ro x := by
  obtain ⟨e1, O1, F1⟩ := h.1.put (E := E) 8 (.int x) (Nat.le_of_ble_eq_true rfl) (J := fun t => t = (10, 23, 0)) rfl
  exact ⟨_, e1, F1.mono JQ1, O1, h.rt F1⟩
theorem PA.fr (h : PA E w a ia n u L s er of nu co ro cc) {J : Nat × Nat × Nat → Prop} {w' : gWd} (hF : FS E J w w') (h1 : ¬ J (10, 23, 0)) (h2 : ∀ κ, ¬ J (κ, 22, 0)) : PA E w' a ia n u L s er of nu co ro cc := ⟨h.1.fr hF h1, h.2.fr hF h2⟩
theorem PA.i19 (hN : 100000 ≤ gN E) (h : PA E w a ia n u L s er of nu co ro cc) (b : Int32) (hb : b = 0 ∨ b = 1) {x s' : Nat} (hp : pNum u L 0 9999 s = .inr (x, s')) : ∃ w', X9_takeInteger_19 E a b w.1 = some (1, w'.1) ∧ FS E JQ w w' ∧ PA E w' a ia n u L s' er of (if b = 0 then nI x else -(nI x)) co ro cc := by
  obtain ⟨w1, e1, F1, P1⟩ := h.num hN (lo := 0) (hi := 9999) (by decide) (by decide) hp
  obtain ⟨w2, e2, F2, P2⟩ := P1.putNu (if b = 0 then nI x else -(nI x))
  refine ⟨w2, ?_, F1.trans F2, P2⟩
  unfold X9_takeInteger_19 X9_takeInteger_45
  rw [ob_e h.cl]
  refine (ob_e e1).trans ?_
  rcases hb with hb | hb
  · rw [if_pos hb, ob_e (gfI_o P1.1.2.2 rfl)]
    rw [if_pos hb] at e2
    rw [ob_e e2, ob_e gz1']
  · have hb0 : ¬ b = 0 := by rw [hb]; decide
    rw [if_neg hb0, ob_e (gfI_o P1.1.2.2 rfl)]
    rw [if_neg hb0] at e2
    rw [ob_e e2, ob_e gz1']
theorem PA.i19F (h : PA E w a ia n u L s er of nu co ro cc) (b : Int32) (hb : b = 0 ∨ b = 1) {c o : Nat} (hp : pNum u L 0 9999 s = .inl (c, o)) : ∃ w' nu', X9_takeInteger_19 E a b w.1 = some (0, w'.1) ∧ FS E JQ w w' ∧ PA E w' a ia n u L s (nI c) (nI o) nu' co ro cc := by
  obtain ⟨w1, e1, F1, P1⟩ := h.numF (lo := 0) (hi := 9999) (by decide) (by decide) hp
  obtain ⟨w2, e2, F2, P2⟩ := P1.putNu (if b = 0 then nu else -nu)
  refine ⟨w2, _, ?_, F1.trans F2, P2⟩
  unfold X9_takeInteger_19 X9_takeInteger_45
  rw [ob_e h.cl]
  refine (ob_e e1).trans ?_
  rcases hb with hb | hb
  · rw [if_pos hb, ob_e (gfI_o P1.1.2.2 rfl)]
    rw [if_pos hb] at e2
    rw [ob_e e2, ob_e gz0']
  · have hb0 : ¬ b = 0 := by rw [hb]; decide
    rw [if_neg hb0, ob_e (gfI_o P1.1.2.2 rfl)]
    rw [if_neg hb0] at e2
    rw [ob_e e2, ob_e gz0']
theorem PA.int (hN : 100000 ≤ gN E) (h : PA E w a ia n u L s er of nu co ro cc) {x : Int32} {s' : Nat} (hp : pInt u L s = .inr (x, s')) : ∃ w', X9_takeInteger_f E a w.1 = some (1, w'.1) ∧ FS E JQ w w' ∧ PA E w' a ia n u L s' er of x co ro cc := by
  unfold pInt at hp
  by_cases hk : kd u L s = 5
  · rw [if_pos hk] at hp
    cases hq : pNum u L 0 9999 (tN u L s) with
    | inl e => rw [hq] at hp; cases hp
    | inr r =>
      obtain ⟨y, s2⟩ := r
      rw [hq] at hp
      cases hp
      obtain ⟨w1, e1, F1, R1⟩ := h.2.next hN
      have P1 : PA E w1 a ia n u L (tN u L s) er of nu co ro cc := ⟨h.1.fr F1 (by simp), R1⟩
      obtain ⟨w2, e2, F2, P2⟩ := P1.i19 hN 1 (Or.inr rfl) hq
      refine ⟨w2, ?_, (F1.mono JQ2).trans F2, P2⟩
      unfold X9_takeInteger_f X9_takeInteger
      rw [ob_e h.in_, ob_e h.icl, ob_e h.2.isMinus, if_pos hk, if_neg (by decide), ob_e h.in_, ob_e h.icl, ob_e e1]
      exact e2
  · rw [if_neg hk] at hp
    unfold pInt1 at hp
    cases hq : pNum u L 0 9999 s with
    | inl e => rw [hq] at hp; cases hp
    | inr r =>
      obtain ⟨y, s2⟩ := r
      rw [hq] at hp
      cases hp
      obtain ⟨w2, e2, F2, P2⟩ := h.i19 hN 0 (Or.inl rfl) hq
      refine ⟨w2, ?_, F2, P2⟩
      unfold X9_takeInteger_f X9_takeInteger
      rw [ob_e h.in_, ob_e h.icl, ob_e h.2.isMinus, if_neg hk, if_pos rfl]
      exact e2
theorem PA.intF (hN : 100000 ≤ gN E) (h : PA E w a ia n u L s er of nu co ro cc) {c o : Nat} (hp : pInt u L s = .inl (c, o)) : ∃ w' s' nu', X9_takeInteger_f E a w.1 = some (0, w'.1) ∧ FS E JQ w w' ∧ PA E w' a ia n u L s' (nI c) (nI o) nu' co ro cc := by
  unfold pInt at hp
  by_cases hk : kd u L s = 5
  · rw [if_pos hk] at hp
    cases hq : pNum u L 0 9999 (tN u L s) with
    | inr r => rw [hq] at hp; cases hp
    | inl r =>
      obtain ⟨y, s2⟩ := r
      rw [hq] at hp
      cases hp
      obtain ⟨w1, e1, F1, R1⟩ := h.2.next hN
      have P1 : PA E w1 a ia n u L (tN u L s) er of nu co ro cc := ⟨h.1.fr F1 (by simp), R1⟩
      obtain ⟨w2, nu', e2, F2, P2⟩ := P1.i19F 1 (Or.inr rfl) hq
      refine ⟨w2, _, nu', ?_, (F1.mono JQ2).trans F2, P2⟩
      unfold X9_takeInteger_f X9_takeInteger
      rw [ob_e h.in_, ob_e h.icl, ob_e h.2.isMinus, if_pos hk, if_neg (by decide), ob_e h.in_, ob_e h.icl, ob_e e1]
      exact e2
  · rw [if_neg hk] at hp
    unfold pInt1 at hp
    cases hq : pNum u L 0 9999 s with
    | inr r => rw [hq] at hp; cases hp
    | inl r =>
      obtain ⟨y, s2⟩ := r
      rw [hq] at hp
      cases hp
      obtain ⟨w2, nu', e2, F2, P2⟩ := h.i19F 0 (Or.inl rfl) hq
      refine ⟨w2, _, nu', ?_, F2, P2⟩
      unfold X9_takeInteger_f X9_takeInteger
      rw [ob_e h.in_, ob_e h.icl, ob_e h.2.isMinus, if_neg hk, if_pos rfl]
      exact e2
end PAS
