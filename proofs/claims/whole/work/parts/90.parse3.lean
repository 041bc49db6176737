/-! pure: commands are read -/
def CO (E : gE) (w : gWd) (a i ka : Nat) (x1 x2 x3 x4 : Int32) (g : Nat → Int32) : Prop := Ob w (13, 23, i) (a + 3 + 2 * i) 1 [.ref ka, .int x1, .int x2, .int x3, .int x4, .ref (a + 4 + 2 * i)] ∧ ArI E w (14, 23, i) (a + 4 + 2 * i) 6 g
theorem JQx {κ i : Nat} (h : κ ≠ 10) : ¬ JQ (κ, 23, i) := fun z => z.elim (fun z => h (congrArg Prod.fst z)) (fun z => by cases (congrArg Prod.fst z : (23 : Nat) = 22))
abbrev JM (i : Nat) : Nat × Nat × Nat → Prop := fun t => JQ t ∨ (t.2 = (23, i) ∧ 13 ≤ t.1)
theorem JMQ {i : Nat} (t : Nat × Nat × Nat) (h : JQ t) : JM i t := Or.inl h
theorem JM13 {i : Nat} (t : Nat × Nat × Nat) (h : t = (13, 23, i)) : JM i t := Or.inr (by rw [h]; exact ⟨rfl, Nat.le_of_ble_eq_true rfl⟩)
theorem CO.fr {E : gE} {w w' : gWd} {a i ka : Nat} {x1 x2 x3 x4 : Int32} {g : Nat → Int32} (h : CO E w a i ka x1 x2 x3 x4 g) {J : Nat × Nat × Nat → Prop} (hF : FS E J w w') (h1 : ¬ J (13, 23, i)) (h2 : ¬ J (14, 23, i)) : CO E w' a i ka x1 x2 x3 x4 g := ⟨h.1.fr hF h1, h.2.fr hF h2⟩
theorem CO.frQ {E : gE} {w w' : gWd} {a i ka : Nat} {x1 x2 x3 x4 : Int32} {g : Nat → Int32} (h : CO E w a i ka x1 x2 x3 x4 g) (hF : FS E JQ w w') : CO E w' a i ka x1 x2 x3 x4 g := h.fr hF (JQx (by decide)) (JQx (by decide))
theorem JR14a {i : Nat} : ¬ (JQ (13, 23, i) ∨ ((13, 23, i) : Nat × Nat × Nat) = (14, 23, i)) := fun z => z.elim (JQx (by decide)) (fun z => by cases congrArg Prod.fst z)
/-- the fields that the command needs -/
def cmF (C : Nat) (cm : gCmd) (x1 x2 x3 x4 : Int32) (g : Nat → Int32) : Prop :=
  (cm.1 = 0 → ∀ j, j < C → g j = cm.2.2.2.2.2 j) ∧ ((cm.1 = 1 ∨ cm.1 = 2 ∨ cm.1 = 3 ∨ cm.1 = 4 ∨ cm.1 = 5 ∨ cm.1 = 8) → x1 = nI cm.2.1) ∧ ((cm.1 = 1 ∨ cm.1 = 6) → x2 = nI cm.2.2.1) ∧ ((cm.1 = 1 ∨ cm.1 = 3 ∨ cm.1 = 4 ∨ cm.1 = 5) → x3 = cm.2.2.2.1) ∧ (cm.1 = 2 → x4 = if cm.2.2.2.2.1 = true then 1 else 0)
section PAS3
variable {E : gE} {w : gWd} {a ia n L s C i ka : Nat} {u : Nat → Nat} {er of nu ro cc x1 x2 x3 x4 : Int32} {g : Nat → Int32}
theorem CO.put1 (h : CO E w a i ka x1 x2 x3 x4 g) (hP : PA E w a ia n u L s er of nu (nI C) ro cc) (y : Int32) : ∃ w', gpf E w.1 (a + 3 + 2 * i) 1 1 (.int y) = some w'.1 ∧ FS E (fun t => t = (13, 23, i)) w w' ∧ CO E w' a i ka y x2 x3 x4 g ∧ PA E w' a ia n u L s er of nu (nI C) ro cc := by
  obtain ⟨e1, O1, F1⟩ := h.1.put (E := E) 1 (.int y) (Nat.le_of_ble_eq_true rfl) (J := fun t => t = (13, 23, i)) rfl
  exact ⟨_, e1, F1, ⟨O1, h.2.fr F1 (by simp)⟩, hP.fr F1 (by simp) (fun κ z => by simp at z)⟩
theorem CO.put2 (h : CO E w a i ka x1 x2 x3 x4 g) (hP : PA E w a ia n u L s er of nu (nI C) ro cc) (y : Int32) : ∃ w', gpf E w.1 (a + 3 + 2 * i) 1 2 (.int y) = some w'.1 ∧ FS E (fun t => t = (13, 23, i)) w w' ∧ CO E w' a i ka x1 y x3 x4 g ∧ PA E w' a ia n u L s er of nu (nI C) ro cc := by
  obtain ⟨e1, O1, F1⟩ := h.1.put (E := E) 2 (.int y) (Nat.le_of_ble_eq_true rfl) (J := fun t => t = (13, 23, i)) rfl
  exact ⟨_, e1, F1, ⟨O1, h.2.fr F1 (by simp)⟩, hP.fr F1 (by simp) (fun κ z => by simp at z)⟩
theorem CO.put3 (h : CO E w a i ka x1 x2 x3 x4 g) (hP : PA E w a ia n u L s er of nu (nI C) ro cc) (y : Int32) : ∃ w', gpf E w.1 (a + 3 + 2 * i) 1 3 (.int y) = some w'.1 ∧ FS E (fun t => t = (13, 23, i)) w w' ∧ CO E w' a i ka x1 x2 y x4 g ∧ PA E w' a ia n u L s er of nu (nI C) ro cc := by
  obtain ⟨e1, O1, F1⟩ := h.1.put (E := E) 3 (.int y) (Nat.le_of_ble_eq_true rfl) (J := fun t => t = (13, 23, i)) rfl
  exact ⟨_, e1, F1, ⟨O1, h.2.fr F1 (by simp)⟩, hP.fr F1 (by simp) (fun κ z => by simp at z)⟩
theorem CO.put4 (h : CO E w a i ka x1 x2 x3 x4 g) (hP : PA E w a ia n u L s er of nu (nI C) ro cc) (y : Int32) : ∃ w', gpf E w.1 (a + 3 + 2 * i) 1 4 (.int y) = some w'.1 ∧ FS E (fun t => t = (13, 23, i)) w w' ∧ CO E w' a i ka x1 x2 x3 y g ∧ PA E w' a ia n u L s er of nu (nI C) ro cc := by
  obtain ⟨e1, O1, F1⟩ := h.1.put (E := E) 4 (.int y) (Nat.le_of_ble_eq_true rfl) (J := fun t => t = (13, 23, i)) rfl
  exact ⟨_, e1, F1, ⟨O1, h.2.fr F1 (by simp)⟩, hP.fr F1 (by simp) (fun κ z => by simp at z)⟩
theorem CO.put0 (h : CO E w a i ka x1 x2 x3 x4 g) (hP : PA E w a ia n u L s er of nu (nI C) ro cc) (y : Nat) : ∃ w', gpf E w.1 (a + 3 + 2 * i) 1 0 (.ref y) = some w'.1 ∧ FS E (fun t => t = (13, 23, i)) w w' ∧ CO E w' a i y x1 x2 x3 x4 g ∧ PA E w' a ia n u L s er of nu (nI C) ro cc := by
  obtain ⟨e1, O1, F1⟩ := h.1.put (E := E) 0 (.ref y) (Nat.le_of_ble_eq_true rfl) (J := fun t => t = (13, 23, i)) rfl
  exact ⟨_, e1, F1, ⟨O1, h.2.fr F1 (by simp)⟩, hP.fr F1 (by simp) (fun κ z => by simp at z)⟩
theorem CO.col (hN : 100000 ≤ gN E) (h : CO E w a i ka x1 x2 x3 x4 g) (hP : PA E w a ia n u L s er of nu (nI C) ro cc) (hC : 1 ≤ C) (hC6 : C ≤ 6) {x s' : Nat} (hp : pNum u L 0 (C - 1) s = .inr (x, s')) :
    ∃ w', X9_takeColumn_f E a (a + 3 + 2 * i) w.1 = some (1, w'.1) ∧ FS E (JM i) w w' ∧ CO E w' a i ka (nI x) x2 x3 x4 g ∧ PA E w' a ia n u L s' er of (nI x) (nI C) ro cc := by
  obtain ⟨w1, e1, F1, P1⟩ := hP.num hN (lo := 0) (hi := C - 1) (by decide) (by omega) hp
  obtain ⟨w2, e2, F2, C2, P2⟩ := (h.frQ F1).put1 P1 (nI x)
  refine ⟨w2, ?_, (F1.mono JMQ).trans (F2.mono JM13), C2, P2⟩
  unfold X9_takeColumn_f X9_takeColumn
  rw [ob_e (gfI_o hP.1.2.2 rfl), ob_e hP.cl, nI_sub1 (by omega)]
  refine (ob_e e1).trans ?_
  rw [ob_e (gfI_o P1.1.2.2 rfl), ob_e e2, ob_e gz1']
theorem CO.colF (hN : 100000 ≤ gN E) (h : CO E w a i ka x1 x2 x3 x4 g) (hP : PA E w a ia n u L s er of nu (nI C) ro cc) (hC : 1 ≤ C) (hC6 : C ≤ 6) {c o : Nat} (hp : pNum u L 0 (C - 1) s = .inl (c, o)) :
    ∃ w' y, X9_takeColumn_f E a (a + 3 + 2 * i) w.1 = some (0, w'.1) ∧ FS E (JM i) w w' ∧ CO E w' a i ka y x2 x3 x4 g ∧ PA E w' a ia n u L s (nI c) (nI o) nu (nI C) ro cc := by
  obtain ⟨w1, e1, F1, P1⟩ := hP.numF (lo := 0) (hi := C - 1) (by decide) (by omega) hp
  obtain ⟨w2, e2, F2, C2, P2⟩ := (h.frQ F1).put1 P1 nu
  refine ⟨w2, _, ?_, (F1.mono JMQ).trans (F2.mono JM13), C2, P2⟩
  unfold X9_takeColumn_f X9_takeColumn
  rw [ob_e (gfI_o hP.1.2.2 rfl), ob_e hP.cl, nI_sub1 (by omega)]
  refine (ob_e e1).trans ?_
  rw [ob_e (gfI_o P1.1.2.2 rfl), ob_e e2, ob_e gz0']
theorem CO.place (hN : 100000 ≤ gN E) (h : CO E w a i ka x1 x2 x3 x4 g) (hP : PA E w a ia n u L s er of nu (nI C) ro cc) {m : Nat} (hm : 1 ≤ m) (hm6 : m ≤ 60) {x s' : Nat} (hp : pNum u L 0 (m - 1) s = .inr (x, s')) :
    ∃ w', X9_takePlace_f E a (a + 3 + 2 * i) (nI m) w.1 = some (1, w'.1) ∧ FS E (JM i) w w' ∧ CO E w' a i ka x1 (nI x) x3 x4 g ∧ PA E w' a ia n u L s' er of (nI x) (nI C) ro cc := by
  obtain ⟨w1, e1, F1, P1⟩ := hP.num hN (lo := 0) (hi := m - 1) (by decide) (by omega) hp
  obtain ⟨w2, e2, F2, C2, P2⟩ := (h.frQ F1).put2 P1 (nI x)
  refine ⟨w2, ?_, (F1.mono JMQ).trans (F2.mono JM13), C2, P2⟩
  unfold X9_takePlace_f X9_takePlace
  rw [ob_e hP.cl, nI_sub1 (by omega)]
  refine (ob_e e1).trans ?_
  rw [ob_e (gfI_o P1.1.2.2 rfl), ob_e e2, ob_e gz1']
theorem CO.placeF (hN : 100000 ≤ gN E) (h : CO E w a i ka x1 x2 x3 x4 g) (hP : PA E w a ia n u L s er of nu (nI C) ro cc) {m : Nat} (hm : 1 ≤ m) (hm6 : m ≤ 60) {c o : Nat} (hp : pNum u L 0 (m - 1) s = .inl (c, o)) :
    ∃ w' y, X9_takePlace_f E a (a + 3 + 2 * i) (nI m) w.1 = some (0, w'.1) ∧ FS E (JM i) w w' ∧ CO E w' a i ka x1 y x3 x4 g ∧ PA E w' a ia n u L s (nI c) (nI o) nu (nI C) ro cc := by
  obtain ⟨w1, e1, F1, P1⟩ := hP.numF (lo := 0) (hi := m - 1) (by decide) (by omega) hp
  obtain ⟨w2, e2, F2, C2, P2⟩ := (h.frQ F1).put2 P1 nu
  refine ⟨w2, _, ?_, (F1.mono JMQ).trans (F2.mono JM13), C2, P2⟩
  unfold X9_takePlace_f X9_takePlace
  rw [ob_e hP.cl, nI_sub1 (by omega)]
  refine (ob_e e1).trans ?_
  rw [ob_e (gfI_o P1.1.2.2 rfl), ob_e e2, ob_e gz0']
theorem CO.val (hN : 100000 ≤ gN E) (h : CO E w a i ka x1 x2 x3 x4 g) (hP : PA E w a ia n u L s er of nu (nI C) ro cc) {x : Int32} {s' : Nat} (hp : pInt u L s = .inr (x, s')) :
    ∃ w', X9_takeValue_f E a (a + 3 + 2 * i) w.1 = some (1, w'.1) ∧ FS E (JM i) w w' ∧ CO E w' a i ka x1 x2 x x4 g ∧ PA E w' a ia n u L s' er of x (nI C) ro cc := by
  obtain ⟨w1, e1, F1, P1⟩ := hP.int hN hp
  obtain ⟨w2, e2, F2, C2, P2⟩ := (h.frQ F1).put3 P1 x
  refine ⟨w2, ?_, (F1.mono JMQ).trans (F2.mono JM13), C2, P2⟩
  unfold X9_takeValue_f X9_takeValue
  rw [ob_e hP.cl]
  refine (ob_e e1).trans ?_
  rw [ob_e (gfI_o P1.1.2.2 rfl), ob_e e2, ob_e gz1']
theorem CO.valF (hN : 100000 ≤ gN E) (h : CO E w a i ka x1 x2 x3 x4 g) (hP : PA E w a ia n u L s er of nu (nI C) ro cc) {c o : Nat} (hp : pInt u L s = .inl (c, o)) :
    ∃ w' y s' nu', X9_takeValue_f E a (a + 3 + 2 * i) w.1 = some (0, w'.1) ∧ FS E (JM i) w w' ∧ CO E w' a i ka x1 x2 y x4 g ∧ PA E w' a ia n u L s' (nI c) (nI o) nu' (nI C) ro cc := by
  obtain ⟨w1, s', nu', e1, F1, P1⟩ := hP.intF hN hp
  obtain ⟨w2, e2, F2, C2, P2⟩ := (h.frQ F1).put3 P1 nu'
  refine ⟨w2, _, s', nu', ?_, (F1.mono JMQ).trans (F2.mono JM13), C2, P2⟩
  unfold X9_takeValue_f X9_takeValue
  rw [ob_e hP.cl]
  refine (ob_e e1).trans ?_
  rw [ob_e (gfI_o P1.1.2.2 rfl), ob_e e2, ob_e gz0']
theorem gzb (b : Bool) : gz (if b = true then (1 : Int32) else 0) = some () := by cases b <;> rfl
theorem CO.dir (hO : gOK E) (h : CO E w a i ka x1 x2 x3 x4 g) (hP : PA E w a ia n u L s er of nu (nI C) ro cc) :
    ∃ w', X9_takeDirection_f E a (a + 3 + 2 * i) w.1 = some (1, w'.1) ∧ FS E (JM i) w w' ∧ CO E w' a i ka x1 x2 x3 (if isW u L s txtD = true then 1 else 0) g ∧ PA E w' a ia n u L (if isW u L s txtD = true then tN u L s else s) er of nu (nI C) ro cc := by
  have hw := hP.2.isWord hO.1 (hO.2.1 1 (by decide))
  obtain ⟨w2, e2, F2, C2, P2⟩ := h.put4 hP (if isW u L s txtD = true then 1 else 0)
  have hs : ∀ k : Option (Int32 × gS), (if (if isW u L s txtD = true then (1 : Int32) else 0) = 0 then X9_takeDirection_27 E w2.1 else ob (gfR w2.1 a 7 0) fun x11 => ob (gcl w2.1 x11 5) fun _ => ob (X6_next_f E x11 w2.1) fun x13 => X9_takeDirection_27 E x13) = k → X9_takeDirection_f E a (a + 3 + 2 * i) w.1 = k := by
    intro k hk
    unfold X9_takeDirection_f X9_takeDirection
    rw [ob_e hP.in_, ob_e hP.icl]
    refine (ob_e hw).trans ?_
    rw [show txt 1 = txtD from rfl, ob_e (gzb _), ob_e e2, ob_e (gfI_o C2.1.2.2 rfl)]
    exact hk
  cases hb : isW u L s txtD with
  | false =>
    rw [hb] at hs C2
    refine ⟨w2, hs _ ?_, F2.mono JM13, C2, P2⟩
    rw [if_pos (by decide)]
    rfl
  | true =>
    rw [hb] at hs C2
    obtain ⟨w3, e3, F3, R3⟩ := P2.2.next hO.1
    refine ⟨w3, hs _ ?_, (F2.mono JM13).trans (F3.mono (fun t z => JMQ t (JQ2 t z))), C2.fr F3 (by simp) (by simp), P2.1.fr F3 (by simp), R3⟩
    rw [if_neg (by decide), ob_e P2.in_, ob_e P2.icl, ob_e e3]
    rfl
end PAS3
/-- what reading the arguments leaves -/
def TOK (E : gE) (w w' : gWd) (a ia n : Nat) (u : Nat → Nat) (L s : Nat) (er of : Int32) (C : Nat) (ro cc : Int32) (i q : Nat) (cm : gCmd) : Prop :=
  FS E (JM i) w w' ∧ (∃ nu, PA E w' a ia n u L s er of nu (nI C) ro cc) ∧ ∃ x1 x2 x3 x4 g, CO E w' a i (gst E (30 + q)) x1 x2 x3 x4 g ∧ cmF C cm x1 x2 x3 x4 g
def TNO (E : gE) (w w' : gWd) (a ia n : Nat) (u : Nat → Nat) (L : Nat) (er of : Int32) (C : Nat) (ro cc : Int32) (i q : Nat) : Prop :=
  FS E (JM i) w w' ∧ (∃ s nu, PA E w' a ia n u L s er of nu (nI C) ro cc) ∧ ∃ x1 x2 x3 x4 g, CO E w' a i (gst E (30 + q)) x1 x2 x3 x4 g
theorem ordq {E : gE} (hO : gOK E) {σ : gS} {q : Nat} (hq : q < 9) : gxc E (gst E (30 + q)) 101 = some () ∧ Jx29ce0_ordinal_8abf5_f E σ (gst E (30 + q)) = some (nI q) ∧ graI E 0 σ (gst E 42) (nI q) = some (nI (swm.getD q 0)) := by
  obtain ⟨h1, h2, h3, h4, h5, h6, g, h7, h8⟩ := hO
  obtain ⟨k1, k2⟩ := h3 q hq
  refine ⟨gxc_o k1 k2, ?_, ?_⟩
  · unfold Jx29ce0_ordinal_8abf5_f Jx29ce0_ordinal_8abf5
    rw [ob_e (gxI_o k1 k2 rfl)]
  · rw [ro_ld h6 h7 hq (by decide), h8 q hq]
section PAS4
variable {E : gE} {w : gWd} {a ia n L s C i : Nat} {u : Nat → Nat} {er of nu ro cc x1 x2 x3 x4 : Int32} {g : Nat → Int32}
theorem ta_in {q : Nat} (hO : gOK E) (h : CO E w a i (gst E (30 + q)) x1 x2 x3 x4 g) (hq : q < 9) (k : Int32 → Option (Int32 × gS)) : ob (gfR w.1 (a + 3 + 2 * i) 1 0) (fun x9 => ob (gxc E x9 101) fun _ => ob (Jx29ce0_ordinal_8abf5_f E w.1 x9) fun x11 => ob (graI E 0 w.1 (gst E 42) x11) k) = k (nI (swm.getD q 0)) := by
  obtain ⟨o1, o2, o3⟩ := ordq hO (σ := w.1) hq
  rw [ob_e (gfR_o h.1.2.2 rfl), ob_e o1, ob_e o2, ob_e o3]
theorem ta0 (hO : gOK E) (h : CO E w a i (gst E (30 + 0)) x1 x2 x3 x4 g) (hP : PA E w a ia n u L s er of nu (nI C) ro cc) (hC6 : C ≤ 6) {cm : gCmd} {s' : Nat} (hp : pArgs u L C 0 s = .inr (cm, s')) : cm.1 = 0 ∧ ∃ w', X9_takeArguments_f E a (a + 3 + 2 * i) w.1 = some (1, w'.1) ∧ TOK E w w' a ia n u L s' er of C ro cc i 0 cm := by
  unfold pArgs at hp
  rw [if_pos rfl] at hp
  obtain ⟨r, s1, p1, hp⟩ := pB_r hp
  cases hp
  obtain ⟨w1, nu1, e1, F1, P1, A1⟩ := hP.row hO.1 (ta := a + 4 + 2 * i) (first := 0) (nn := 6) (tt := (14, 23, i)) (JQx (by decide)) hC6 (by omega) (by decide) h.2 p1
  refine ⟨rfl, w1, ?_, F1.mono (fun t z => z.elim Or.inl (fun z => Or.inr (by rw [z]; exact ⟨rfl, Nat.le_of_ble_eq_true rfl⟩))), ⟨nu1, P1⟩, x1, x2, x3, x4, _, ⟨h.1.fr F1 JR14a, A1⟩, fun _ j hj => ?_, fun z => ?_, fun z => ?_, fun z => ?_, fun z => ?_⟩
  · unfold X9_takeArguments_f X9_takeArguments
    refine (ta_in hO h (by decide) _).trans ?_
    rw [if_pos (by decide), ob_e (gfR_o h.1.2.2 rfl), ob_e hP.cl]
    refine (ob_e e1).trans ?_
    rw [ob_e gz1']
  · rw [fb_put_in (by omega) (by omega)]
    rfl
  · simp at z
  · simp at z
  · simp at z
  · simp at z
theorem ta0F (hO : gOK E) (h : CO E w a i (gst E (30 + 0)) x1 x2 x3 x4 g) (hP : PA E w a ia n u L s er of nu (nI C) ro cc) (hC6 : C ≤ 6) {c o : Nat} (hp : pArgs u L C 0 s = .inl (c, o)) : ∃ w', X9_takeArguments_f E a (a + 3 + 2 * i) w.1 = some (0, w'.1) ∧ TNO E w w' a ia n u L (nI c) (nI o) C ro cc i 0 := by
  unfold pArgs at hp
  rw [if_pos rfl] at hp
  rcases pB_l hp with p1 | ⟨r, s1, p1, hp⟩
  · obtain ⟨w1, s1, nu1, g1, e1, F1, P1, A1⟩ := hP.rowF hO.1 (ta := a + 4 + 2 * i) (first := 0) (nn := 6) (tt := (14, 23, i)) (JQx (by decide)) hC6 (by omega) (by decide) h.2 p1
    refine ⟨w1, ?_, F1.mono (fun t z => z.elim Or.inl (fun z => Or.inr (by rw [z]; exact ⟨rfl, Nat.le_of_ble_eq_true rfl⟩))), ⟨s1, nu1, P1⟩, x1, x2, x3, x4, g1, ⟨h.1.fr F1 JR14a, A1⟩⟩
    unfold X9_takeArguments_f X9_takeArguments
    refine (ta_in hO h (by decide) _).trans ?_
    rw [if_pos (by decide), ob_e (gfR_o h.1.2.2 rfl), ob_e hP.cl]
    refine (ob_e e1).trans ?_
    rw [ob_e gz0']
  · cases hp
theorem ta1 (hO : gOK E) (h : CO E w a i (gst E (30 + 1)) x1 x2 x3 x4 g) (hP : PA E w a ia n u L s er of nu (nI C) ro cc) (hC : 1 ≤ C) (hC6 : C ≤ 6) {cm : gCmd} {s' : Nat} (hp : pArgs u L C 1 s = .inr (cm, s')) : cm.1 = 1 ∧ ∃ w', X9_takeArguments_f E a (a + 3 + 2 * i) w.1 = some (1, w'.1) ∧ TOK E w w' a ia n u L s' er of C ro cc i 1 cm := by
  unfold pArgs at hp
  rw [if_neg (by decide), if_pos rfl] at hp
  obtain ⟨x, s1, p1, hp⟩ := pB_r hp
  obtain ⟨y, s2, p2, hp⟩ := pB_r hp
  obtain ⟨v, s3, p3, hp⟩ := pB_r hp
  cases hp
  obtain ⟨w1, e1, F1, C1, P1⟩ := h.col hO.1 hP hC hC6 p1
  obtain ⟨w2, e2, F2, C2, P2⟩ := C1.place hO.1 P1 (m := 60) (by decide) (by decide) p2
  obtain ⟨w3, e3, F3, C3, P3⟩ := C2.val hO.1 P2 p3
  refine ⟨rfl, w3, ?_, F1.trans (F2.trans F3), ⟨_, P3⟩, _, _, _, _, g, C3, fun z => ?_, fun _ => rfl, fun _ => rfl, fun _ => rfl, fun z => ?_⟩
  · unfold X9_takeArguments_f X9_takeArguments
    refine (ta_in hO h (by decide) _).trans ?_
    rw [if_neg (by decide), if_pos (by decide), ob_e hP.cl]
    refine (ob_e e1).trans ?_
    rw [if_neg i10, ob_e P1.cl]
    refine (ob_e e2).trans ?_
    rw [if_neg i10, ob_e P2.cl]
    refine (ob_e e3).trans ?_
    rw [if_neg i10]
  · simp at z
  · simp at z
theorem ta1F (hO : gOK E) (h : CO E w a i (gst E (30 + 1)) x1 x2 x3 x4 g) (hP : PA E w a ia n u L s er of nu (nI C) ro cc) (hC : 1 ≤ C) (hC6 : C ≤ 6) {c o : Nat} (hp : pArgs u L C 1 s = .inl (c, o)) : ∃ w', X9_takeArguments_f E a (a + 3 + 2 * i) w.1 = some (0, w'.1) ∧ TNO E w w' a ia n u L (nI c) (nI o) C ro cc i 1 := by
  unfold pArgs at hp
  rw [if_neg (by decide), if_pos rfl] at hp
  have h0 : ∀ k : Option (Int32 × gS), (ob (gcl w.1 a 7) fun _ => ob (X9_takeColumn_f E a (a + 3 + 2 * i) w.1) fun x24 => if x24.1 = 0 then X9_takeArguments_100 E x24.2 else ob (gcl x24.2 a 7) fun _ => ob (X9_takePlace_f E a (a + 3 + 2 * i) (60 : Int32) x24.2) fun x27 => if x27.1 = 0 then X9_takeArguments_100 E x27.2 else ob (gcl x27.2 a 7) fun _ => ob (X9_takeValue_f E a (a + 3 + 2 * i) x27.2) fun x30 => if x30.1 = 0 then X9_takeArguments_100 E x30.2 else some ((1 : Int32), x30.2)) = k → X9_takeArguments_f E a (a + 3 + 2 * i) w.1 = k := by
    intro k hk
    unfold X9_takeArguments_f X9_takeArguments
    refine (ta_in hO h (by decide) _).trans ?_
    rw [if_neg (by decide), if_pos (by decide)]
    exact hk
  rcases pB_l hp with p1 | ⟨x, s1, p1, hp⟩
  · obtain ⟨w1, y, e1, F1, C1, P1⟩ := h.colF hO.1 hP hC hC6 p1
    refine ⟨w1, h0 _ ?_, F1, ⟨_, _, P1⟩, _, _, _, _, _, C1⟩
    rw [ob_e hP.cl]
    refine (ob_e e1).trans ?_
    rw [if_pos rfl]
    rfl
  obtain ⟨w1, e1, F1, C1, P1⟩ := h.col hO.1 hP hC hC6 p1
  rcases pB_l hp with p2 | ⟨y, s2, p2, hp⟩
  · obtain ⟨w2, y, e2, F2, C2, P2⟩ := C1.placeF hO.1 P1 (m := 60) (by decide) (by decide) p2
    refine ⟨w2, h0 _ ?_, F1.trans F2, ⟨_, _, P2⟩, _, _, _, _, _, C2⟩
    rw [ob_e hP.cl]
    refine (ob_e e1).trans ?_
    rw [if_neg i10, ob_e P1.cl]
    refine (ob_e e2).trans ?_
    rw [if_pos rfl]
    rfl
  obtain ⟨w2, e2, F2, C2, P2⟩ := C1.place hO.1 P1 (m := 60) (by decide) (by decide) p2
  rcases pB_l hp with p3 | ⟨v, s3, p3, hp⟩
  · obtain ⟨w3, y, s3, nu3, e3, F3, C3, P3⟩ := C2.valF hO.1 P2 p3
    refine ⟨w3, h0 _ ?_, F1.trans (F2.trans F3), ⟨_, _, P3⟩, _, _, _, _, _, C3⟩
    rw [ob_e hP.cl]
    refine (ob_e e1).trans ?_
    rw [if_neg i10, ob_e P1.cl]
    refine (ob_e e2).trans ?_
    rw [if_neg i10, ob_e P2.cl]
    refine (ob_e e3).trans ?_
    rw [if_pos rfl]
    rfl
  · cases hp
theorem ta2 (hO : gOK E) (h : CO E w a i (gst E (30 + 2)) x1 x2 x3 x4 g) (hP : PA E w a ia n u L s er of nu (nI C) ro cc) (hC : 1 ≤ C) (hC6 : C ≤ 6) {cm : gCmd} {s' : Nat} (hp : pArgs u L C 2 s = .inr (cm, s')) : cm.1 = 2 ∧ ∃ w', X9_takeArguments_f E a (a + 3 + 2 * i) w.1 = some (1, w'.1) ∧ TOK E w w' a ia n u L s' er of C ro cc i 2 cm := by
  unfold pArgs at hp
  rw [if_neg (by decide), if_neg (by decide), if_pos rfl] at hp
  obtain ⟨x, s1, p1, hp⟩ := pB_r hp
  cases hp
  obtain ⟨w1, e1, F1, C1, P1⟩ := h.col hO.1 hP hC hC6 p1
  obtain ⟨w2, e2, F2, C2, P2⟩ := C1.dir hO P1
  refine ⟨rfl, w2, ?_, F1.trans F2, ⟨_, P2⟩, _, _, _, _, g, C2, fun z => ?_, fun _ => rfl, fun z => ?_, fun z => ?_, fun _ => rfl⟩
  · unfold X9_takeArguments_f X9_takeArguments X9_takeArguments_122
    refine (ta_in hO h (by decide) _).trans ?_
    rw [if_neg (by decide), if_neg (by decide), if_neg (by decide), if_neg (by decide), if_neg (by decide), if_neg (by decide), if_pos (by decide), ob_e hP.cl]
    refine (ob_e e1).trans ?_
    rw [if_neg i10, ob_e P1.cl]
    refine (ob_e e2).trans ?_
    rw [if_neg i10]
  · simp at z
  · simp at z
  · simp at z
theorem ta2F (hO : gOK E) (h : CO E w a i (gst E (30 + 2)) x1 x2 x3 x4 g) (hP : PA E w a ia n u L s er of nu (nI C) ro cc) (hC : 1 ≤ C) (hC6 : C ≤ 6) {c o : Nat} (hp : pArgs u L C 2 s = .inl (c, o)) : ∃ w', X9_takeArguments_f E a (a + 3 + 2 * i) w.1 = some (0, w'.1) ∧ TNO E w w' a ia n u L (nI c) (nI o) C ro cc i 2 := by
  unfold pArgs at hp
  rw [if_neg (by decide), if_neg (by decide), if_pos rfl] at hp
  rcases pB_l hp with p1 | ⟨x, s1, p1, hp⟩
  · obtain ⟨w1, y, e1, F1, C1, P1⟩ := h.colF hO.1 hP hC hC6 p1
    refine ⟨w1, ?_, F1, ⟨_, _, P1⟩, _, _, _, _, _, C1⟩
    unfold X9_takeArguments_f X9_takeArguments X9_takeArguments_122
    refine (ta_in hO h (by decide) _).trans ?_
    rw [if_neg (by decide), if_neg (by decide), if_neg (by decide), if_neg (by decide), if_neg (by decide), if_neg (by decide), if_pos (by decide), ob_e hP.cl]
    refine (ob_e e1).trans ?_
    rw [if_pos rfl]
  · cases hp
theorem ta124 (hO : gOK E) {q : Nat} (h : CO E w a i (gst E (30 + q)) x1 x2 x3 x4 g) (hP : PA E w a ia n u L s er of nu (nI C) ro cc) (hC : 1 ≤ C) (hC6 : C ≤ 6) {x v : _} {s1 s' : Nat} (p1 : pNum u L 0 (C - 1) s = .inr (x, s1)) (p2 : pInt u L s1 = .inr (v, s')) (hq : q = 3 ∨ q = 4 ∨ q = 5) : ∃ w', X9_takeArguments_124 E a (a + 3 + 2 * i) w.1 = some (1, w'.1) ∧ TOK E w w' a ia n u L s' er of C ro cc i q (q, x, 0, v, false, fun _ => 0) := by
  obtain ⟨w1, e1, F1, C1, P1⟩ := h.col hO.1 hP hC hC6 p1
  obtain ⟨w2, e2, F2, C2, P2⟩ := C1.val hO.1 P1 p2
  refine ⟨w2, ?_, F1.trans F2, ⟨_, P2⟩, _, _, _, _, g, C2, fun z => ?_, fun _ => rfl, fun z => ?_, fun _ => rfl, fun z => ?_⟩
  · unfold X9_takeArguments_124 X9_takeArguments_144
    rw [ob_e hP.cl]
    refine (ob_e e1).trans ?_
    rw [if_neg i10, ob_e P1.cl]
    refine (ob_e e2).trans ?_
    rw [if_neg i10]
  · have z : q = 0 := z
    omega
  · have z : q = 1 ∨ q = 6 := z
    omega
  · have z : q = 2 := z
    omega
theorem ta124F (hO : gOK E) {q : Nat} (h : CO E w a i (gst E (30 + q)) x1 x2 x3 x4 g) (hP : PA E w a ia n u L s er of nu (nI C) ro cc) (hC : 1 ≤ C) (hC6 : C ≤ 6) {c o : Nat} (hp : pB (pNum u L 0 (C - 1) s) (fun x s1 => pB (pInt u L s1) fun v s2 => .inr (((q, x, 0, v, false, fun _ => 0) : gCmd), s2)) = .inl (c, o)) : ∃ w', X9_takeArguments_124 E a (a + 3 + 2 * i) w.1 = some (0, w'.1) ∧ TNO E w w' a ia n u L (nI c) (nI o) C ro cc i q := by
  rcases pB_l hp with p1 | ⟨x, s1, p1, hp⟩
  · obtain ⟨w1, y, e1, F1, C1, P1⟩ := h.colF hO.1 hP hC hC6 p1
    refine ⟨w1, ?_, F1, ⟨_, _, P1⟩, _, _, _, _, _, C1⟩
    unfold X9_takeArguments_124 X9_takeArguments_144
    rw [ob_e hP.cl]
    refine (ob_e e1).trans ?_
    rw [if_pos rfl]
  obtain ⟨w1, e1, F1, C1, P1⟩ := h.col hO.1 hP hC hC6 p1
  rcases pB_l hp with p2 | ⟨v, s2, p2, hp⟩
  · obtain ⟨w2, y, s2, nu2, e2, F2, C2, P2⟩ := C1.valF hO.1 P1 p2
    refine ⟨w2, ?_, F1.trans F2, ⟨_, _, P2⟩, _, _, _, _, _, C2⟩
    unfold X9_takeArguments_124 X9_takeArguments_144
    rw [ob_e hP.cl]
    refine (ob_e e1).trans ?_
    rw [if_neg i10, ob_e P1.cl]
    refine (ob_e e2).trans ?_
    rw [if_pos rfl]
  · cases hp
theorem ta345 (hO : gOK E) {q : Nat} (hq : q = 3 ∨ q = 4 ∨ q = 5) (h : CO E w a i (gst E (30 + q)) x1 x2 x3 x4 g) : X9_takeArguments_f E a (a + 3 + 2 * i) w.1 = X9_takeArguments_124 E a (a + 3 + 2 * i) w.1 := by
  unfold X9_takeArguments_f X9_takeArguments
  refine (ta_in hO h (by omega) _).trans ?_
  rcases hq with rfl | rfl | rfl
  · rw [if_neg (by decide), if_neg (by decide), if_pos (by decide)]
  · rw [if_neg (by decide), if_neg (by decide), if_neg (by decide), if_pos (by decide)]
  · rw [if_neg (by decide), if_neg (by decide), if_neg (by decide), if_neg (by decide), if_pos (by decide)]
theorem pA345 {q : Nat} (hq : q = 3 ∨ q = 4 ∨ q = 5) : pArgs u L C q s = pB (pNum u L 0 (C - 1) s) fun x s1 => pB (pInt u L s1) fun v s2 => .inr ((q, x, 0, v, false, fun _ => 0), s2) := by
  unfold pArgs
  rw [if_neg (by omega), if_neg (by omega), if_neg (by omega), if_neg (by omega), if_neg (by omega), if_neg (by omega)]
theorem ta3 (hO : gOK E) {q : Nat} (hq : q = 3 ∨ q = 4 ∨ q = 5) (h : CO E w a i (gst E (30 + q)) x1 x2 x3 x4 g) (hP : PA E w a ia n u L s er of nu (nI C) ro cc) (hC : 1 ≤ C) (hC6 : C ≤ 6) {cm : gCmd} {s' : Nat} (hp : pArgs u L C q s = .inr (cm, s')) : cm.1 = q ∧ ∃ w', X9_takeArguments_f E a (a + 3 + 2 * i) w.1 = some (1, w'.1) ∧ TOK E w w' a ia n u L s' er of C ro cc i q cm := by
  rw [pA345 hq] at hp
  obtain ⟨x, s1, p1, hp⟩ := pB_r hp
  obtain ⟨v, s2, p2, hp⟩ := pB_r hp
  cases hp
  rw [ta345 hO hq h]
  exact ⟨rfl, ta124 hO h hP hC hC6 p1 p2 hq⟩
theorem ta3F (hO : gOK E) {q : Nat} (hq : q = 3 ∨ q = 4 ∨ q = 5) (h : CO E w a i (gst E (30 + q)) x1 x2 x3 x4 g) (hP : PA E w a ia n u L s er of nu (nI C) ro cc) (hC : 1 ≤ C) (hC6 : C ≤ 6) {c o : Nat} (hp : pArgs u L C q s = .inl (c, o)) : ∃ w', X9_takeArguments_f E a (a + 3 + 2 * i) w.1 = some (0, w'.1) ∧ TNO E w w' a ia n u L (nI c) (nI o) C ro cc i q := by
  rw [pA345 hq] at hp
  rw [ta345 hO hq h]
  exact ta124F hO h hP hC hC6 hp
theorem ta6 (hO : gOK E) (h : CO E w a i (gst E (30 + 6)) x1 x2 x3 x4 g) (hP : PA E w a ia n u L s er of nu (nI C) ro cc) {cm : gCmd} {s' : Nat} (hp : pArgs u L C 6 s = .inr (cm, s')) : cm.1 = 6 ∧ ∃ w', X9_takeArguments_f E a (a + 3 + 2 * i) w.1 = some (1, w'.1) ∧ TOK E w w' a ia n u L s' er of C ro cc i 6 cm := by
  unfold pArgs at hp
  rw [if_neg (by decide), if_neg (by decide), if_neg (by decide), if_pos rfl] at hp
  obtain ⟨x, s1, p1, hp⟩ := pB_r hp
  cases hp
  obtain ⟨w1, e1, F1, C1, P1⟩ := h.place hO.1 hP (m := 8) (by decide) (by decide) p1
  refine ⟨rfl, w1, ?_, F1, ⟨_, P1⟩, _, _, _, _, g, C1, fun z => ?_, fun z => ?_, fun _ => rfl, fun z => ?_, fun z => ?_⟩
  · unfold X9_takeArguments_f X9_takeArguments
    refine (ta_in hO h (by decide) _).trans ?_
    rw [if_neg (by decide), if_neg (by decide), if_neg (by decide), if_neg (by decide), if_neg (by decide), if_pos (by decide), ob_e hP.cl]
    refine (ob_e e1).trans ?_
    rw [ob_e gz1']
  · simp at z
  · simp at z
  · simp at z
  · simp at z
theorem ta6F (hO : gOK E) (h : CO E w a i (gst E (30 + 6)) x1 x2 x3 x4 g) (hP : PA E w a ia n u L s er of nu (nI C) ro cc) {c o : Nat} (hp : pArgs u L C 6 s = .inl (c, o)) : ∃ w', X9_takeArguments_f E a (a + 3 + 2 * i) w.1 = some (0, w'.1) ∧ TNO E w w' a ia n u L (nI c) (nI o) C ro cc i 6 := by
  unfold pArgs at hp
  rw [if_neg (by decide), if_neg (by decide), if_neg (by decide), if_pos rfl] at hp
  rcases pB_l hp with p1 | ⟨x, s1, p1, hp⟩
  · obtain ⟨w1, y, e1, F1, C1, P1⟩ := h.placeF hO.1 hP (m := 8) (by decide) (by decide) p1
    refine ⟨w1, ?_, F1, ⟨_, _, P1⟩, _, _, _, _, _, C1⟩
    unfold X9_takeArguments_f X9_takeArguments
    refine (ta_in hO h (by decide) _).trans ?_
    rw [if_neg (by decide), if_neg (by decide), if_neg (by decide), if_neg (by decide), if_neg (by decide), if_pos (by decide), ob_e hP.cl]
    refine (ob_e e1).trans ?_
    rw [ob_e gz0']
  · cases hp
theorem ta7 (hO : gOK E) (h : CO E w a i (gst E (30 + 7)) x1 x2 x3 x4 g) (hP : PA E w a ia n u L s er of nu (nI C) ro cc) {cm : gCmd} {s' : Nat} (hp : pArgs u L C 7 s = .inr (cm, s')) : cm.1 = 7 ∧ ∃ w', X9_takeArguments_f E a (a + 3 + 2 * i) w.1 = some (1, w'.1) ∧ TOK E w w' a ia n u L s' er of C ro cc i 7 cm := by
  unfold pArgs at hp
  rw [if_neg (by decide), if_neg (by decide), if_neg (by decide), if_neg (by decide), if_pos rfl] at hp
  cases hp
  refine ⟨rfl, w, ?_, FS.rf, ⟨_, hP⟩, _, _, _, _, g, h, fun z => ?_, fun z => ?_, fun z => ?_, fun z => ?_, fun z => ?_⟩
  · unfold X9_takeArguments_f X9_takeArguments X9_takeArguments_160
    refine (ta_in hO h (by decide) _).trans ?_
    rw [if_neg (by decide), if_neg (by decide), if_neg (by decide), if_neg (by decide), if_neg (by decide), if_neg (by decide), if_neg (by decide), if_pos (by decide)]
  · simp at z
  · simp at z
  · simp at z
  · simp at z
  · simp at z
theorem ta8 (hO : gOK E) (h : CO E w a i (gst E (30 + 8)) x1 x2 x3 x4 g) (hP : PA E w a ia n u L s er of nu (nI C) ro cc) (hC : 1 ≤ C) (hC6 : C ≤ 6) {cm : gCmd} {s' : Nat} (hp : pArgs u L C 8 s = .inr (cm, s')) : cm.1 = 8 ∧ ∃ w', X9_takeArguments_f E a (a + 3 + 2 * i) w.1 = some (1, w'.1) ∧ TOK E w w' a ia n u L s' er of C ro cc i 8 cm := by
  unfold pArgs at hp
  rw [if_neg (by decide), if_neg (by decide), if_neg (by decide), if_neg (by decide), if_neg (by decide), if_pos rfl] at hp
  obtain ⟨x, s1, p1, hp⟩ := pB_r hp
  cases hp
  obtain ⟨w1, e1, F1, C1, P1⟩ := h.col hO.1 hP hC hC6 p1
  refine ⟨rfl, w1, ?_, F1, ⟨_, P1⟩, _, _, _, _, g, C1, fun z => ?_, fun _ => rfl, fun z => ?_, fun z => ?_, fun z => ?_⟩
  · unfold X9_takeArguments_f X9_takeArguments
    refine (ta_in hO h (by decide) _).trans ?_
    rw [if_neg (by decide), if_neg (by decide), if_neg (by decide), if_neg (by decide), if_neg (by decide), if_neg (by decide), if_neg (by decide), if_neg (by decide), if_pos (by decide), ob_e hP.cl]
    refine (ob_e e1).trans ?_
    rw [ob_e gz1']
  · simp at z
  · simp at z
  · simp at z
  · simp at z
theorem ta8F (hO : gOK E) (h : CO E w a i (gst E (30 + 8)) x1 x2 x3 x4 g) (hP : PA E w a ia n u L s er of nu (nI C) ro cc) (hC : 1 ≤ C) (hC6 : C ≤ 6) {c o : Nat} (hp : pArgs u L C 8 s = .inl (c, o)) : ∃ w', X9_takeArguments_f E a (a + 3 + 2 * i) w.1 = some (0, w'.1) ∧ TNO E w w' a ia n u L (nI c) (nI o) C ro cc i 8 := by
  unfold pArgs at hp
  rw [if_neg (by decide), if_neg (by decide), if_neg (by decide), if_neg (by decide), if_neg (by decide), if_pos rfl] at hp
  rcases pB_l hp with p1 | ⟨x, s1, p1, hp⟩
  · obtain ⟨w1, y, e1, F1, C1, P1⟩ := h.colF hO.1 hP hC hC6 p1
    refine ⟨w1, ?_, F1, ⟨_, _, P1⟩, _, _, _, _, _, C1⟩
    unfold X9_takeArguments_f X9_takeArguments
    refine (ta_in hO h (by decide) _).trans ?_
    rw [if_neg (by decide), if_neg (by decide), if_neg (by decide), if_neg (by decide), if_neg (by decide), if_neg (by decide), if_neg (by decide), if_neg (by decide), if_pos (by decide), ob_e hP.cl]
    refine (ob_e e1).trans ?_
    rw [ob_e gz0']
  · cases hp
theorem ta (hO : gOK E) {q : Nat} (hq : q < 9) (h : CO E w a i (gst E (30 + q)) x1 x2 x3 x4 g) (hP : PA E w a ia n u L s er of nu (nI C) ro cc) (hC : 1 ≤ C) (hC6 : C ≤ 6) {cm : gCmd} {s' : Nat} (hp : pArgs u L C q s = .inr (cm, s')) : cm.1 = q ∧ ∃ w', X9_takeArguments_f E a (a + 3 + 2 * i) w.1 = some (1, w'.1) ∧ TOK E w w' a ia n u L s' er of C ro cc i q cm := by
  by_cases h3 : q = 3 ∨ q = 4 ∨ q = 5
  · exact ta3 hO h3 h hP hC hC6 hp
  · obtain rfl | rfl | rfl | rfl | rfl | rfl : q = 0 ∨ q = 1 ∨ q = 2 ∨ q = 6 ∨ q = 7 ∨ q = 8 := by omega
    · exact ta0 hO h hP hC6 hp
    · exact ta1 hO h hP hC hC6 hp
    · exact ta2 hO h hP hC hC6 hp
    · exact ta6 hO h hP hp
    · exact ta7 hO h hP hp
    · exact ta8 hO h hP hC hC6 hp
theorem taF (hO : gOK E) {q : Nat} (hq : q < 9) (h : CO E w a i (gst E (30 + q)) x1 x2 x3 x4 g) (hP : PA E w a ia n u L s er of nu (nI C) ro cc) (hC : 1 ≤ C) (hC6 : C ≤ 6) {c o : Nat} (hp : pArgs u L C q s = .inl (c, o)) : ∃ w', X9_takeArguments_f E a (a + 3 + 2 * i) w.1 = some (0, w'.1) ∧ TNO E w w' a ia n u L (nI c) (nI o) C ro cc i q := by
  by_cases h3 : q = 3 ∨ q = 4 ∨ q = 5
  · exact ta3F hO h3 h hP hC hC6 hp
  · obtain rfl | rfl | rfl | rfl | rfl | rfl : q = 0 ∨ q = 1 ∨ q = 2 ∨ q = 6 ∨ q = 7 ∨ q = 8 := by omega
    · exact ta0F hO h hP hC6 hp
    · exact ta1F hO h hP hC hC6 hp
    · exact ta2F hO h hP hC hC6 hp
    · exact ta6F hO h hP hp
    · unfold pArgs at hp
      rw [if_neg (by decide), if_neg (by decide), if_neg (by decide), if_neg (by decide), if_pos rfl] at hp
      cases hp
    · exact ta8F hO h hP hC hC6 hp
end PAS4
