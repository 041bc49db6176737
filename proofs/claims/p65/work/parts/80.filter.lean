/-! pure: the filter -/
/-- the filter of store j at a: k conditions -/
def RF (E : gE) (w : gWd) (a j k : Nat) (fc : Nat → Nat) (fv fd : Nat → Int32) : Prop :=
  Ob w (2, j, 0) a 3 [.ref (a + 1), .ref (a + 2), .ref (a + 3), .int (nI k)] ∧ k ≤ 8 ∧ (∃ g, ArI E w (3, j, 0) (a + 1) 8 g ∧ ∀ i, i < k → g i = nI (fc i)) ∧ (∃ g, ArI E w (4, j, 0) (a + 2) 8 g ∧ ∀ i, i < k → g i = fv i) ∧ ∃ g, ArI E w (5, j, 0) (a + 3) 8 g ∧ ∀ i, i < k → g i = fd i
theorem RF.fr {E : gE} {J : Nat × Nat × Nat → Prop} {w w' : gWd} {a j k : Nat} {fc : Nat → Nat} {fv fd : Nat → Int32} (h : RF E w a j k fc fv fd) (hF : FS E J w w') (hJ : ∀ κ, 2 ≤ κ → κ < 6 → ¬ J (κ, j, 0)) : RF E w' a j k fc fv fd := by
  obtain ⟨h1, h2, ⟨g1, a1, b1⟩, ⟨g2, a2, b2⟩, g3, a3, b3⟩ := h
  exact ⟨h1.fr hF (hJ _ (by decide) (by decide)), h2, ⟨g1, a1.fr hF (hJ _ (by decide) (by decide)), b1⟩, ⟨g2, a2.fr hF (hJ _ (by decide) (by decide)), b2⟩, g3, a3.fr hF (hJ _ (by decide) (by decide)), b3⟩
theorem RF.size {E : gE} {w : gWd} {a j k : Nat} {fc : Nat → Nat} {fv fd : Nat → Int32} (h : RF E w a j k fc fv fd) : X4_size_f E w.1 a = some (nI k) := by
  unfold X4_size_f X4_size
  rw [ob_e (gfI_o h.1.2.2 rfl)]
theorem RF.full {E : gE} {w : gWd} {a j k : Nat} {fc : Nat → Nat} {fv fd : Nat → Int32} (h : RF E w a j k fc fv fd) : X4_isFull_f E w.1 a = some (if k = 8 then 1 else 0) := by
  have := h.2.1
  unfold X4_isFull_f X4_isFull
  rw [ob_e (gfI_o h.1.2.2 rfl)]
  by_cases hk : k = 8
  · rw [if_pos (by rw [hk]; rfl), if_pos hk]
  · rw [if_neg (show ¬ nI k = (8 : Int32) from fun z => hk ((nI_eqI (a := k) (b := 8) (by omega) (by omega)).mp z)), if_neg hk]
theorem RF.has {E : gE} {w : gWd} {a j k : Nat} {fc : Nat → Nat} {fv fd : Nat → Int32} (h : RF E w a j k fc fv fd) (x : Int32) : X4_has_f E w.1 a x = some (if 0 ≤ x.toInt ∧ x.toInt < k then 1 else 0) := by
  have := h.2.1
  unfold X4_has_f X4_has X4_has_16
  by_cases hx : x < 0
  · rw [if_pos hx, if_neg]
    rw [fa_lt] at hx
    have e : (0 : Int32).toInt = 0 := rfl
    omega
  · rw [if_neg hx, ob_e (gfI_o h.1.2.2 rfl)]
    rw [fa_lt] at hx
    have e : (0 : Int32).toInt = 0 := rfl
    by_cases hk : nI k ≤ x
    · rw [if_pos hk, if_neg]
      rw [fa_le, nI_toInt (by omega)] at hk
      omega
    · rw [if_neg hk, if_pos]
      rw [fa_le, nI_toInt (by omega)] at hk
      omega
theorem RF.col {E : gE} {w : gWd} {a j k i : Nat} {fc : Nat → Nat} {fv fd : Nat → Int32} (h : RF E w a j k fc fv fd) (hi : i < k) : X4_columnOf_f E w.1 a (nI i) = some (nI (fc i)) := by
  obtain ⟨h1, h2, ⟨g1, a1, b1⟩, -⟩ := h
  unfold X4_columnOf_f X4_columnOf
  rw [ob_e (gfR_o h1.2.2 rfl), ob_e (a1.2.2.ld (show i < 8 by omega) (by omega)), b1 i hi]
theorem RF.val {E : gE} {w : gWd} {a j k i : Nat} {fc : Nat → Nat} {fv fd : Nat → Int32} (h : RF E w a j k fc fv fd) (hi : i < k) : X4_valueOf_f E w.1 a (nI i) = some (fv i) := by
  obtain ⟨h1, h2, -, ⟨g1, a1, b1⟩, -⟩ := h
  unfold X4_valueOf_f X4_valueOf
  rw [ob_e (gfR_o h1.2.2 rfl), ob_e (a1.2.2.ld (show i < 8 by omega) (by omega)), b1 i hi]
theorem RF.dir {E : gE} {w : gWd} {a j k i : Nat} {fc : Nat → Nat} {fv fd : Nat → Int32} (h : RF E w a j k fc fv fd) (hi : i < k) : X4_directionOf_f E w.1 a (nI i) = some (fd i) := by
  obtain ⟨h1, h2, -, -, g1, a1, b1⟩ := h
  unfold X4_directionOf_f X4_directionOf
  rw [ob_e (gfR_o h1.2.2 rfl), ob_e (a1.2.2.ld (show i < 8 by omega) (by omega)), b1 i hi]
/-- does x fulfill a condition -/
def gful (x y d : Int32) : Bool := if d < 0 then decide (x < y) else if 0 < d then decide (y < x) else decide (x = y)
def dOK (d : Int32) : Prop := d = -1 ∨ d = 0 ∨ d = 1
theorem sgn_f {E : gE} {σ : gS} {x : Int32} : J6_signum_0f7a4_f E σ x = some (if x < 0 then -1 else if x = 0 then 0 else 1) := by
  unfold J6_signum_0f7a4_f J6_signum_0f7a4
  congr 1
  apply b_ext
  intro i hi
  rw [b_or, show ((31 : Int32) &&& 31) = (nI 31 &&& 31) from rfl, b_sshr 31 (by omega) x hi]
  have hu : bt (gushr (-x) 31) i = bt (-x) (31 + i) := b_ushr 31 (by omega) (-x) i
  rw [hu]
  have h31 : ∀ z : Int32, bt z 31 = decide (z < 0) := by
    intro z
    rw [show bt z 31 = z.toBitVec.getLsbD 31 from rfl]
    have h1 : z.toBitVec.msb = z.toBitVec.getLsbD 31 := by simp [BitVec.msb_eq_getLsbD_last]
    rw [← h1, BitVec.msb_eq_toInt, decide_eq_decide, fa_lt]
    exact Iff.rfl
  have e31 : (if 31 + i < 32 then bt x (31 + i) else bt x 31) = decide (x < 0) := by
    by_cases h0 : i = 0
    · rw [h0, if_pos (by omega)]
      exact h31 x
    · rw [if_neg (by omega)]
      exact h31 x
  rw [e31]
  by_cases hx : x < 0
  · rw [if_pos hx, b_m1 i hi]
    simp [hx]
  · rw [if_neg hx]
    by_cases h0 : i = 0
    · rw [h0]
      rw [h31 (-x)]
      by_cases hz : x = 0
      · rw [if_pos hz, b_0, hz]
        rfl
      · rw [if_neg hz, show bt (1 : Int32) 0 = true from rfl]
        have hneg : (-x) < 0 := by
          rw [fa_lt] at hx ⊢
          have e0 : (0 : Int32).toInt = 0 := rfl
          have hz2 : x.toInt ≠ 0 := fun z => hz (Int32.toInt_inj.mp (z.trans e0.symm))
          have hr : (-x).toInt = -x.toInt := by
            rw [Int32.toInt_neg]
            have b1 := x.toInt_lt
            apply Int.bmod_eq_of_le <;> omega
          omega
        simp [hneg]
    · have hbig : bt (-x) (31 + i) = false := b_big (by omega)
      rw [hbig]
      by_cases hz : x = 0
      · rw [if_pos hz, b_0]
        simp [hx]
      · rw [if_neg hz]
        have h1 : bt (1 : Int32) i = false := by
          have : ∀ i, i < 32 → i ≠ 0 → bt (1 : Int32) i = false := by decide +kernel
          exact this i hi h0
        rw [h1]
        simp [hx]
theorem RF.allows {E : gE} {w : gWd} {a j k i : Nat} {fc : Nat → Nat} {fv fd : Nat → Int32} {x : Int32} (h : RF E w a j k fc fv fd) (hi : i < k) (hx : vIn x) (hv : vIn (fv i)) (hd : dOK (fd i)) : X4_allows_f E w.1 a (nI i) x = some (if gful x (fv i) (fd i) = true then 1 else 0) := by
  obtain ⟨h1, h2, -, ⟨g1, a1, b1⟩, g2, a2, b2⟩ := h
  unfold X4_allows_f X4_allows
  rw [ob_e (gfR_o h1.2.2 rfl), ob_e (a1.2.2.ld (show i < 8 by omega) (by omega)), b1 i hi, ob_e sgn_f, ob_e (gfR_o h1.2.2 rfl), ob_e (a2.2.2.ld (show i < 8 by omega) (by omega)), b2 i hi]
  have hs : (x - fv i).toInt = x.toInt - (fv i).toInt := by
    have q1 := hx.1
    have q2 := hx.2
    have q3 := hv.1
    have q4 := hv.2
    rw [Int32.toInt_sub]
    apply Int.bmod_eq_of_le <;> omega
  have e0 : (0 : Int32).toInt = 0 := rfl
  have c1 : x - fv i < 0 ↔ x < fv i := by rw [fa_lt, fa_lt, hs, e0]; omega
  have c2 : x - fv i = 0 ↔ x = fv i := by rw [fa_eq, fa_eq, hs, e0]; omega
  have c3 : (x < fv i ∧ ¬ x = fv i ∧ ¬ fv i < x) ∨ (¬ x < fv i ∧ x = fv i ∧ ¬ fv i < x) ∨ (¬ x < fv i ∧ ¬ x = fv i ∧ fv i < x) := by
    rw [fa_lt, fa_lt, fa_eq]
    omega
  unfold gful
  rcases c3 with ⟨p1, p2, p3⟩ | ⟨p1, p2, p3⟩ | ⟨p1, p2, p3⟩
  · have p1 := eq_true p1; have p2 := eq_false p2; have p3 := eq_false p3
    rcases hd with hd | hd | hd <;> rw [hd] <;> simp only [c1, c2, p1, p2, p3, if_true, if_false] <;> decide
  · have p1 := eq_false p1; have p2 := eq_true p2; have p3 := eq_false p3
    rcases hd with hd | hd | hd <;> rw [hd] <;> simp only [c1, c2, p1, p2, p3, if_true, if_false] <;> decide
  · have p1 := eq_false p1; have p2 := eq_false p2; have p3 := eq_true p3
    rcases hd with hd | hd | hd <;> rw [hd] <;> simp only [c1, c2, p1, p2, p3, if_true, if_false] <;> decide
theorem RF.clear {E : gE} {w : gWd} {a j k : Nat} {fc : Nat → Nat} {fv fd : Nat → Int32} (h : RF E w a j k fc fv fd) {J : Nat × Nat × Nat → Prop} (hJ : J (2, j, 0)) :
    ∃ w' : gWd, X4_clear_f E a w.1 = some w'.1 ∧ FS E J w w' ∧ RF E w' a j 0 fc fv fd := by
  obtain ⟨h1, h2, ⟨g1, a1, b1⟩, ⟨g2, a2, b2⟩, g3, a3, b3⟩ := h
  obtain ⟨e1, O1, F1⟩ := h1.put (E := E) 3 (.int 0) (Nat.le_of_ble_eq_true rfl) (J := fun t => t = (2, j, 0)) rfl
  refine ⟨_, ?_, F1.mono (fun t e => by rw [e]; exact hJ), O1, by omega, ⟨g1, a1.fr F1 (t3_ne (by decide)), fun i hi => by omega⟩, ⟨g2, a2.fr F1 (t3_ne (by decide)), fun i hi => by omega⟩, g3, a3.fr F1 (t3_ne (by decide)), fun i hi => by omega⟩
  unfold X4_clear_f X4_clear
  rw [ob_e e1]
theorem RF.add {E : gE} {w : gWd} {a j k cc : Nat} {fc : Nat → Nat} {fv fd : Nat → Int32} {y d : Int32} (h : RF E w a j k fc fv fd) (hk : k < 8) {J : Nat × Nat × Nat → Prop} (hJ : ∀ κ, 2 ≤ κ → κ < 6 → J (κ, j, 0)) :
    ∃ w' : gWd, X4_add_f E a (nI cc) y d w.1 = some w'.1 ∧ FS E J w w' ∧ RF E w' a j (k + 1) (updN fc k cc) (upd fv k y) (upd fd k d) := by
  obtain ⟨h1, h2, ⟨g1, a1, b1⟩, ⟨g2, a2, b2⟩, g3, a3, b3⟩ := h
  obtain ⟨e1, A1, F1⟩ := a1.st (i := k) (by omega) (by omega) (nI cc) (J := fun t => t = (3, j, 0)) rfl
  have O1 := h1.fr F1 (t3_ne (by decide))
  have a2 := a2.fr F1 (t3_ne (by decide))
  have a3 := a3.fr F1 (t3_ne (by decide))
  obtain ⟨e2, A2, F2⟩ := a2.st (i := k) (by omega) (by omega) y (J := fun t => t = (4, j, 0)) rfl
  have O2 := O1.fr F2 (t3_ne (by decide))
  have A1 := A1.fr F2 (t3_ne (by decide))
  have a3 := a3.fr F2 (t3_ne (by decide))
  obtain ⟨e3, A3, F3⟩ := a3.st (i := k) (by omega) (by omega) d (J := fun t => t = (5, j, 0)) rfl
  have O3 := O2.fr F3 (t3_ne (by decide))
  have A1 := A1.fr F3 (t3_ne (by decide))
  have A2 := A2.fr F3 (t3_ne (by decide))
  obtain ⟨e4, O4, F4⟩ := O3.put (E := E) 3 (.int (nI (k + 1))) (Nat.le_of_ble_eq_true rfl) (J := fun t => t = (2, j, 0)) rfl
  refine ⟨_, ?_, (F1.mono (fun t e => by rw [e]; exact hJ _ (by decide) (by decide))).trans ((F2.mono (fun t e => by rw [e]; exact hJ _ (by decide) (by decide))).trans ((F3.mono (fun t e => by rw [e]; exact hJ _ (by decide) (by decide))).trans (F4.mono (fun t e => by rw [e]; exact hJ _ (by decide) (by decide))))), O4, by omega, ⟨_, A1.fr F4 (t3_ne (by decide)), fun i hi => ?_⟩, ⟨_, A2.fr F4 (t3_ne (by decide)), fun i hi => ?_⟩, _, A3.fr F4 (t3_ne (by decide)), fun i hi => ?_⟩
  · unfold X4_add_f X4_add
    rw [ob_e (gfI_o h1.2.2 rfl), if_neg (show ¬ (8 : Int32) ≤ nI k from nI_ge (a := k) (b := 8) hk (by omega)), ob_e (gfR_o h1.2.2 rfl), ob_e (gfI_o h1.2.2 rfl), ob_e e1, ob_e (gfR_o O1.2.2 rfl), ob_e (gfI_o O1.2.2 rfl), ob_e e2, ob_e (gfR_o O2.2.2 rfl), ob_e (gfI_o O2.2.2 rfl), ob_e e3, ob_e (gfI_o O3.2.2 rfl), ← nI_succ, ob_e e4]
  · unfold upd updN
    by_cases hz : i = k
    · rw [if_pos hz, if_pos hz]
    · rw [if_neg hz, if_neg hz]; exact b1 i (by omega)
  · unfold upd
    by_cases hz : i = k
    · rw [if_pos hz, if_pos hz]
    · rw [if_neg hz, if_neg hz]; exact b2 i (by omega)
  · unfold upd
    by_cases hz : i = k
    · rw [if_pos hz, if_pos hz]
    · rw [if_neg hz, if_neg hz]; exact b3 i (by omega)
/-- without the row q -/
def gdel {α : Type} (f : Nat → α) (q : Nat) : Nat → α := fun i => if i < q then f i else f (i + 1)
/-- the rows from q up to r have moved down -/
def gsh {α : Type} (f : Nat → α) (q r : Nat) : Nat → α := fun i => if q ≤ i ∧ i + 1 < r then f (i + 1) else f i
theorem rm_loop {E : gE} {a j k q : Nat} {fc : Nat → Nat} {fv fd : Nat → Int32} (hq : q < k) : ∀ (n r m : Nat) (w : gWd), r + n = k → q < r → n < m → RF E w a j k (gsh fc q r) (gsh fv q r) (gsh fd q r) →
    ∃ w' : gWd, X4_remove_4 E m a (nI r) w.1 = some w'.1 ∧ FS E (fun t => t.2 = (j, 0) ∧ 2 ≤ t.1 ∧ t.1 < 6) w w' ∧ RF E w' a j (k - 1) (gdel fc q) (gdel fv q) (gdel fd q) := by
  intro n
  induction n with
  | zero =>
    intro r m w hr hq2 hm h
    obtain ⟨m, rfl⟩ : ∃ z, m = z + 1 := ⟨m - 1, by omega⟩
    obtain ⟨h1, h2, ⟨g1, a1, b1⟩, ⟨g2, a2, b2⟩, g3, a3, b3⟩ := h
    obtain ⟨e4, O4, F4⟩ := h1.put (E := E) 3 (.int (nI (k - 1))) (Nat.le_of_ble_eq_true rfl) (J := fun t => t = (2, j, 0)) rfl
    have sh : ∀ {α : Type} (f : Nat → α) (i : Nat), i < k - 1 → gsh f q r i = gdel f q i := by
      intro α f i hi
      unfold gsh gdel
      by_cases hz : i < q
      · rw [if_neg (by omega), if_pos hz]
      · rw [if_pos (by omega), if_neg hz]
    refine ⟨_, ?_, F4.mono (fun t e => by subst e; exact ⟨rfl, Nat.le_refl _, Nat.le_of_ble_eq_true rfl⟩), O4, by omega, ⟨g1, a1.fr F4 (t3_ne (by decide)), fun i hi => ?_⟩, ⟨g2, a2.fr F4 (t3_ne (by decide)), fun i hi => ?_⟩, g3, a3.fr F4 (t3_ne (by decide)), fun i hi => ?_⟩
    · show X4_remove_4_s E (X4_remove_4 E m) a (nI r) w.1 = _
      unfold X4_remove_4_s
      rw [ob_e (gfI_o h1.2.2 rfl), if_pos (nI_le (by omega) (by omega)), ob_e (gfI_o h1.2.2 rfl), nI_sub1 (by omega), ob_e e4]
    · rw [b1 i (by omega), sh fc i hi]
    · rw [b2 i (by omega), sh fv i hi]
    · rw [b3 i (by omega), sh fd i hi]
  | succ n ih =>
    intro r m w hr hq2 hm h
    obtain ⟨m, rfl⟩ : ∃ z, m = z + 1 := ⟨m - 1, by omega⟩
    obtain ⟨h1, h2, ⟨g1, a1, b1⟩, ⟨g2, a2, b2⟩, g3, a3, b3⟩ := h
    obtain ⟨e1, A1, F1⟩ := a1.st (i := r - 1) (by omega) (by omega) (g1 r) (J := fun t => t = (3, j, 0)) rfl
    have O1 := h1.fr F1 (t3_ne (by decide))
    have a2 := a2.fr F1 (t3_ne (by decide))
    have a3 := a3.fr F1 (t3_ne (by decide))
    obtain ⟨e2, A2, F2⟩ := a2.st (i := r - 1) (by omega) (by omega) (g2 r) (J := fun t => t = (4, j, 0)) rfl
    have O2 := O1.fr F2 (t3_ne (by decide))
    have A1 := A1.fr F2 (t3_ne (by decide))
    have a3 := a3.fr F2 (t3_ne (by decide))
    obtain ⟨e3, A3, F3⟩ := a3.st (i := r - 1) (by omega) (by omega) (g3 r) (J := fun t => t = (5, j, 0)) rfl
    have O3 := O2.fr F3 (t3_ne (by decide))
    have A1 := A1.fr F3 (t3_ne (by decide))
    have A2 := A2.fr F3 (t3_ne (by decide))
    have sh : ∀ {α : Type} (f : Nat → α) (i : Nat), i < k → gsh f q (r + 1) i = if i = r - 1 then gsh f q r r else gsh f q r i := by
      intro α f i hi
      unfold gsh
      by_cases hz : i = r - 1
      · rw [if_pos hz, if_pos (by omega), if_neg (by omega), hz]
        congr 1
        omega
      · rw [if_neg hz]
        by_cases hy : q ≤ i ∧ i + 1 < r
        · rw [if_pos hy, if_pos (by omega)]
        · rw [if_neg hy, if_neg (by omega)]
    obtain ⟨w', e5, F5, R5⟩ := ih (r + 1) m _ (by omega) (by omega) (by omega) ⟨O3, h2, ⟨_, A1, fun i hi => by
      rw [sh fc i hi]
      unfold upd
      by_cases hz : i = r - 1
      · rw [if_pos hz, if_pos hz]; exact b1 r (by omega)
      · rw [if_neg hz, if_neg hz]; exact b1 i hi⟩, ⟨_, A2, fun i hi => by
      rw [sh fv i hi]
      unfold upd
      by_cases hz : i = r - 1
      · rw [if_pos hz, if_pos hz]; exact b2 r (by omega)
      · rw [if_neg hz, if_neg hz]; exact b2 i hi⟩, _, A3, fun i hi => by
      rw [sh fd i hi]
      unfold upd
      by_cases hz : i = r - 1
      · rw [if_pos hz, if_pos hz]; exact b3 r (by omega)
      · rw [if_neg hz, if_neg hz]; exact b3 i hi⟩
    refine ⟨w', ?_, (F1.mono (fun t e => by subst e; exact ⟨rfl, Nat.le_of_ble_eq_true rfl, Nat.le_of_ble_eq_true rfl⟩)).trans ((F2.mono (fun t e => by subst e; exact ⟨rfl, Nat.le_of_ble_eq_true rfl, Nat.le_of_ble_eq_true rfl⟩)).trans ((F3.mono (fun t e => by subst e; exact ⟨rfl, Nat.le_of_ble_eq_true rfl, Nat.le_of_ble_eq_true rfl⟩)).trans F5)), R5⟩
    show X4_remove_4_s E (X4_remove_4 E m) a (nI r) w.1 = _
    unfold X4_remove_4_s
    rw [ob_e (gfI_o h1.2.2 rfl), if_neg (nI_ge (by omega) (by omega)), ob_e (gfR_o h1.2.2 rfl), ob_e (gfR_o h1.2.2 rfl), ob_e (a1.2.2.ld (show r < 8 by omega) (by omega)), nI_sub1 (by omega), ob_e e1, ob_e (gfR_o O1.2.2 rfl), ob_e (gfR_o O1.2.2 rfl), ob_e (a2.2.2.ld (show r < 8 by omega) (by omega)), ob_e e2, ob_e (gfR_o O2.2.2 rfl), ob_e (gfR_o O2.2.2 rfl), ob_e (a3.2.2.ld (show r < 8 by omega) (by omega)), ob_e e3, ← nI_succ]
    exact e5
theorem RF.remove {E : gE} {w : gWd} {a j k q : Nat} {fc : Nat → Nat} {fv fd : Nat → Int32} (hN : 100000 ≤ gN E) (h : RF E w a j k fc fv fd) (hq : q < k) {J : Nat × Nat × Nat → Prop} (hJ : ∀ κ, 2 ≤ κ → κ < 6 → J (κ, j, 0)) :
    ∃ w' : gWd, X4_remove_f E a (nI q) w.1 = some w'.1 ∧ FS E J w w' ∧ RF E w' a j (k - 1) (gdel fc q) (gdel fv q) (gdel fd q) := by
  have h8 := h.2.1
  have sh : ∀ {α : Type} (f : Nat → α), gsh f q (q + 1) = f := by
    intro α f
    funext i
    unfold gsh
    rw [if_neg (by omega)]
  obtain ⟨w', e5, F5, R5⟩ := rm_loop (E := E) (fc := fc) (fv := fv) (fd := fd) hq (k - (q + 1)) (q + 1) (gN E) w (by omega) (by omega) (by omega) (by rw [sh, sh, sh]; exact h)
  refine ⟨w', ?_, F5.mono (fun t e => by obtain ⟨e1, e2, e3⟩ := e; obtain ⟨t1, t2⟩ := t; simp only at e1; subst e1; exact hJ _ e2 e3), R5⟩
  unfold X4_remove_f X4_remove
  rw [← nI_succ]
  exact e5
theorem RF.copy {E : gE} {w : gWd} {a b j j' k k' : Nat} {fc fc' : Nat → Nat} {fv fd fv' fd' : Nat → Int32} (hne : ¬ j' = j) (h : RF E w a j k fc fv fd) (h' : RF E w b j' k' fc' fv' fd') {J : Nat × Nat × Nat → Prop} (hJ : ∀ κ, 2 ≤ κ → κ < 6 → J (κ, j, 0)) :
    ∃ w' : gWd, X4_copyFrom_f E a b w.1 = some w'.1 ∧ FS E J w w' ∧ RF E w' a j k' fc' fv' fd' := by
  have hx : ∀ κ κ' : Nat, ¬ ((κ, j', 0) : Nat × Nat × Nat) = (κ', j, 0) := fun κ κ' e => hne (congrArg (fun t => t.2.1) e)
  obtain ⟨h1, h2, ⟨g1, a1, b1⟩, ⟨g2, a2, b2⟩, g3, a3, b3⟩ := h
  obtain ⟨h1', h2', ⟨g1', a1', b1'⟩, ⟨g2', a2', b2'⟩, g3', a3', b3'⟩ := h'
  obtain ⟨e0, O0, F0⟩ := h1.put (E := E) 3 (.int (nI k')) (Nat.le_of_ble_eq_true rfl) (J := fun t => t = (2, j, 0)) rfl
  have p1 := a1.fr F0 (t3_ne (by decide)); have p2 := a2.fr F0 (t3_ne (by decide)); have p3 := a3.fr F0 (t3_ne (by decide))
  have q0 := h1'.fr F0 (hx _ _); have q1 := a1'.fr F0 (hx _ _); have q2 := a2'.fr F0 (hx _ _); have q3 := a3'.fr F0 (hx _ _)
  obtain ⟨e1, A1, F1⟩ := ArI.cp (J := fun t => t = (3, j, 0)) (sp := 0) (dp := 0) (n := k') q1 p1 (by omega) (by omega) (by omega) (by omega) rfl
  have O1 := O0.fr F1 (t3_ne (by decide)); have p2 := p2.fr F1 (t3_ne (by decide)); have p3 := p3.fr F1 (t3_ne (by decide))
  have q0' := q0.fr F1 (hx _ _); have q2 := q2.fr F1 (hx _ _); have q3 := q3.fr F1 (hx _ _)
  obtain ⟨e2, A2, F2⟩ := ArI.cp (J := fun t => t = (4, j, 0)) (sp := 0) (dp := 0) (n := k') q2 p2 (by omega) (by omega) (by omega) (by omega) rfl
  have O2 := O1.fr F2 (t3_ne (by decide)); have A1 := A1.fr F2 (t3_ne (by decide)); have p3 := p3.fr F2 (t3_ne (by decide))
  have q0'' := q0'.fr F2 (hx _ _); have q3 := q3.fr F2 (hx _ _)
  obtain ⟨e3, A3, F3⟩ := ArI.cp (J := fun t => t = (5, j, 0)) (sp := 0) (dp := 0) (n := k') q3 p3 (by omega) (by omega) (by omega) (by omega) rfl
  have cpy : ∀ (f g : Nat → Int32) (i : Nat), i < k' → va_cpy f g 0 0 k' i = f i := by
    intro f g i hi
    simp only [va_cpy, Nat.zero_add, Nat.zero_le, true_and, Nat.sub_zero]
    rw [if_pos hi]
  refine ⟨_, ?_, (F0.mono (fun t e => by rw [e]; exact hJ _ (by decide) (by decide))).trans ((F1.mono (fun t e => by rw [e]; exact hJ _ (by decide) (by decide))).trans ((F2.mono (fun t e => by rw [e]; exact hJ _ (by decide) (by decide))).trans (F3.mono (fun t e => by rw [e]; exact hJ _ (by decide) (by decide))))), O2.fr F3 (t3_ne (by decide)), h2', ⟨_, A1.fr F3 (t3_ne (by decide)), fun i hi => by rw [cpy _ _ i hi]; exact b1' i hi⟩, ⟨_, A2.fr F3 (t3_ne (by decide)), fun i hi => by rw [cpy _ _ i hi]; exact b2' i hi⟩, _, A3, fun i hi => by rw [cpy _ _ i hi]; exact b3' i hi⟩
  unfold X4_copyFrom_f X4_copyFrom
  rw [ob_e (gfI_o h1'.2.2 rfl), ob_e e0, ob_e (gfR_o q0.2.2 rfl), ob_e (gfR_o O0.2.2 rfl), ob_e (gfI_o O0.2.2 rfl)]
  refine (ob_e e1).trans ?_
  rw [ob_e (gfR_o q0'.2.2 rfl), ob_e (gfR_o O1.2.2 rfl), ob_e (gfI_o O1.2.2 rfl)]
  refine (ob_e e2).trans ?_
  rw [ob_e (gfR_o q0''.2.2 rfl), ob_e (gfR_o O2.2.2 rfl), ob_e (gfI_o O2.2.2 rfl)]
  exact (ob_e e3).trans rfl
