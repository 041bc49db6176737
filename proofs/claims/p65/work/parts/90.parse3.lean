/-! pure: commands are read -/
def CO (E : gE) (w : gWd) (a i ka : Nat) (x1 x2 x3 x4 : Int32) (g : Nat → Int32) : Prop := Ob w (13, 23, i) (a + 3 + 2 * i) 1 [.ref ka, .int x1, .int x2, .int x3, .int x4, .ref (a + 4 + 2 * i)] ∧ ArI E w (14, 23, i) (a + 4 + 2 * i) 6 g
theorem JQx {κ i : Nat} (h : κ ≠ 10) : ¬ JQ (κ, 23, i) := fun z => z.elim (fun z => h (congrArg Prod.fst z)) (fun z => by cases (congrArg Prod.fst z : (23 : Nat) = 22))
abbrev JM (i : Nat) : Nat × Nat × Nat → Prop := fun t => JQ t ∨ (t.2 = (23, i) ∧ 13 ≤ t.1)
theorem JMQ {i : Nat} (t : Nat × Nat × Nat) (h : JQ t) : JM i t := Or.inl h
theorem JM13 {i : Nat} (t : Nat × Nat × Nat) (h : t = (13, 23, i)) : JM i t := Or.inr (by rw [h]; exact ⟨rfl, Nat.le_of_ble_eq_true rfl⟩)
theorem CO.fr {E : gE} {w w' : gWd} {a i ka : Nat} {x1 x2 x3 x4 : Int32} {g : Nat → Int32} (h : CO E w a i ka x1 x2 x3 x4 g) {J : Nat × Nat × Nat → Prop} (hF : FS E J w w') (h1 : ¬ J (13, 23, i)) (h2 : ¬ J (14, 23, i)) : CO E w' a i ka x1 x2 x3 x4 g := ⟨h.1.fr hF h1, h.2.fr hF h2⟩
theorem CO.frQ {E : gE} {w w' : gWd} {a i ka : Nat} {x1 x2 x3 x4 : Int32} {g : Nat → Int32} (h : CO E w a i ka x1 x2 x3 x4 g) (hF : FS E JQ w w') : CO E w' a i ka x1 x2 x3 x4 g := h.fr hF (JQx (by decide)) (JQx (by decide))
theorem JR14a {i : Nat} : ¬ (JQ (13, 23, i) ∨ ((13, 23, i) : Nat × Nat × Nat) = (14, 23, i)) := fun z => z.elim (JQx (by decide)) (fun z => by cases congrArg Prod.fst z)
/-- the fields that the command needs -/
def cmF (C : Nat) (cm : gCmd) (x1 x2 x3 x4 : Int32) (g : Nat → Int32) : Prop :=
  (cm.1 = 0 → ∀ j, j < C → g j = cm.2.2.2.2.2 j) ∧ ((cm.1 = 1 ∨ cm.1 = 2 ∨ cm.1 = 3 ∨ cm.1 = 4 ∨ cm.1 = 5 ∨ cm.1 = 8) → x1 = nI cm.2.1) ∧ ((cm.1 = 1 ∨ cm.1 = 6) → x2 = nI cm.2.2.1) ∧ ((cm.1 = 1 ∨ cm.1 = 3 ∨ cm.1 = 4 ∨ cm.1 = 5) → x3 = cm.2.2.2.1) ∧ (cm.1 = 2 → x4 = if cm.2.2.2.2.1 = true then 1 else 0)
section PAS3
variable {E : gE} {w : gWd} {a ia n L s C i ka : Nat} {u : Nat → Nat} {er of nu ro cc x1 x2 x3 x4 : Int32} {g : Nat → Int32}
theorem CO.put1 (h : CO E w a i ka x1 x2 x3 x4 g) (hP : PA E w a ia n u L s er of nu (nI C) ro cc) (y : Int32) : ∃ w', gpf E w.1 (a + 3 + 2 * i) 1 1 (.int y) = some w'.1 ∧ FS E (fun t => t = (13, 23, i)) w w' ∧ CO E w' a i ka y x2 x3 x4 g ∧ PA E w' a ia n u L s er of nu (nI C) ro cc := by
  obtain ⟨e1, O1, F1⟩ := h.1.put (E := E) 1 (.int y) (Nat.le_of_ble_eq_true rfl) (J := fun t => t = (13, 23, i)) rfl
  exact ⟨_, e1, F1, ⟨O1, h.2.fr F1 (by simp)⟩, hP.fr F1 (by simp) (fun κ z => by simp at z)⟩
theorem CO.put2 (h : CO E w a i ka x1 x2 x3 x4 g) (hP : PA E w a ia n u L s er of nu (nI C) ro cc) (y : Int32) : ∃ w', gpf E w.1 (a + 3 + 2 * i) 1 2 (.int y) = some w'.1 ∧ FS E (fun t => t = (13, 23, i)) w w' ∧ CO E w' a i ka x1 y x3 x4 g ∧ PA E w' a ia n u L s er of nu (nI C) ro cc := by
  obtain ⟨e1, O1, F1⟩ := h.1.put (E := E) 2 (.int y) (Nat.le_of_ble_eq_true rfl) (J := fun t => t = (13, 23, i)) rfl
  exact ⟨_, e1, F1, ⟨O1, h.2.fr F1 (by simp)⟩, hP.fr F1 (by simp) (fun κ z => by simp at z)⟩
theorem CO.put3 (h : CO E w a i ka x1 x2 x3 x4 g) (hP : PA E w a ia n u L s er of nu (nI C) ro cc) (y : Int32) : ∃ w', gpf E w.1 (a + 3 + 2 * i) 1 3 (.int y) = some w'.1 ∧ FS E (fun t => t = (13, 23, i)) w w' ∧ CO E w' a i ka x1 x2 y x4 g ∧ PA E w' a ia n u L s er of nu (nI C) ro cc := by
  obtain ⟨e1, O1, F1⟩ := h.1.put (E := E) 3 (.int y) (Nat.le_of_ble_eq_true rfl) (J := fun t => t = (13, 23, i)) rfl
  exact ⟨_, e1, F1, ⟨O1, h.2.fr F1 (by simp)⟩, hP.fr F1 (by simp) (fun κ z => by simp at z)⟩
theorem CO.put4 (h : CO E w a i ka x1 x2 x3 x4 g) (hP : PA E w a ia n u L s er of nu (nI C) ro cc) (y : Int32) : ∃ w', gpf E w.1 (a + 3 + 2 * i) 1 4 (.int y) = some w'.1 ∧ FS E (fun t => t = (13, 23, i)) w w' ∧ CO E w' a i ka x1 x2 x3 y g ∧ PA E w' a ia n u L s er of nu (nI C) ro cc := by
  obtain ⟨e1, O1, F1⟩ := h.1.put (E := E) 4 (.int y) (Nat.le_of_ble_eq_true rfl) (J := fun t => t = (13, 23, i)) rfl
  exact ⟨_, e1, F1, ⟨O1, h.2.fr F1 (by simp)⟩, hP.fr F1 (by simp) (fun κ z => by simp at z)⟩
theorem CO.put0 (h : CO E w a i ka x1 x2 x3 x4 g) (hP : PA E w a ia n u L s er of nu (nI C) ro cc) (y : Nat) : ∃ w', gpf E w.1 (a + 3 + 2 * i) 1 0 (.ref y) = some w'.1 ∧ FS E (fun t => t = (13, 23, i)) w w' ∧ CO E w' a i y x1 x2 x3 x4 g ∧ PA E w' a ia n u L s er of nu (nI C) ro cc := by
  obtain ⟨e1, O1, F1⟩ := h.1.put (E := E) 0 (.ref y) (Nat.le_of_ble_eq_true rfl) (J := fun t => t = (13, 23, i)) rfl
  exact ⟨_, e1, F1, ⟨O1, h.2.fr F1 (by simp)⟩, hP.fr F1 (by simp) (fun κ z => by simp at z)⟩
theorem gzb (b : Bool) : gz (if b = true then (1 : Int32) else 0) = some () := by cases b <;> rfl
end PAS3
/-- what reading the arguments leaves -/
def TOK (E : gE) (w w' : gWd) (a ia n : Nat) (u : Nat → Nat) (L s : Nat) (er of : Int32) (C : Nat) (ro cc : Int32) (i q : Nat) (cm : gCmd) : Prop :=
  FS E (JM i) w w' ∧ (∃ nu, PA E w' a ia n u L s er of nu (nI C) ro cc) ∧ ∃ x1 x2 x3 x4 g, CO E w' a i (gst E (30 + q)) x1 x2 x3 x4 g ∧ cmF C cm x1 x2 x3 x4 g
def TNO (E : gE) (w w' : gWd) (a ia n : Nat) (u : Nat → Nat) (L : Nat) (er of : Int32) (C : Nat) (ro cc : Int32) (i q : Nat) : Prop :=
  FS E (JM i) w w' ∧ (∃ s nu, PA E w' a ia n u L s er of nu (nI C) ro cc) ∧ ∃ x1 x2 x3 x4 g, CO E w' a i (gst E (30 + q)) x1 x2 x3 x4 g
section PAS4
variable {E : gE} {w : gWd} {a ia n L s C i : Nat} {u : Nat → Nat} {er of nu ro cc x1 x2 x3 x4 : Int32} {g : Nat → Int32}
theorem pA345 {q : Nat} (hq : q = 3 ∨ q = 4 ∨ q = 5) : pArgs u L C q s = pB (pNum u L 0 (C - 1) s) fun x s1 => pB (pInt u L s1) fun v s2 => .inr ((q, x, 0, v, false, fun _ => 0), s2) := by
  unfold pArgs
  rw [if_neg (by omega), if_neg (by omega), if_neg (by omega), if_neg (by omega), if_neg (by omega), if_neg (by omega)]
end PAS4
