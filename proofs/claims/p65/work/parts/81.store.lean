/-! pure: stores -/
/-- a column: its length, its values, its dictionary -/
abbrev gCol : Type := Nat × (Nat → Int32) × (Nat → Bool)
/-- a table: columns, the columns, conditions, their columns, values, directions -/
abbrev gT : Type := Nat × (Nat → gCol) × Nat × (Nat → Nat) × (Nat → Int32) × (Nat → Int32)
def tR (S : gT) : Nat := (S.2.1 0).1
abbrev tV (S : gT) (c : Nat) : Nat → Int32 := (S.2.1 c).2.1
abbrev tD (S : gT) (c : Nat) : Nat → Bool := (S.2.1 c).2.2
abbrev tK (S : gT) : Nat := S.2.2.1
abbrev tFc (S : gT) : Nat → Nat := S.2.2.2.1
abbrev tFv (S : gT) : Nat → Int32 := S.2.2.2.2.1
abbrev tFd (S : gT) : Nat → Int32 := S.2.2.2.2.2
def RS (E : gE) (w : gWd) (a j : Nat) (S : gT) : Prop :=
  Ob w (0, j, 0) a 9 [.ref (a + 1), .int (nI S.1), .ref (a + 2)] ∧ (∃ g, ArR E w (1, j, 0) 4 (a + 1) 6 g ∧ ∀ c, c < 6 → g c = some (a + 6 + 4 * c)) ∧ RF E w (a + 2) j (tK S) (tFc S) (tFv S) (tFd S) ∧ ∀ c, c < 6 → RC E w (a + 6 + 4 * c) j c (S.2.1 c).1 (tV S c) (tD S c)
/-- what is store j's -/
abbrev Js (j : Nat) : Nat × Nat × Nat → Prop := fun t => t.2.1 = j
abbrev Jc (j c : Nat) : Nat × Nat × Nat → Prop := fun t => t.2 = (j, c) ∧ 6 ≤ t.1
theorem Jc_s {j c : Nat} (t : Nat × Nat × Nat) (h : Jc j c t) : Js j t := by
  show t.2.1 = j
  rw [h.1]
theorem Jc_k {j c : Nat} (κ : Nat) (h : 6 ≤ κ) : Jc j c (κ, j, c) := ⟨rfl, h⟩
theorem RS.fr {E : gE} {J : Nat × Nat × Nat → Prop} {w w' : gWd} {a j : Nat} {S : gT} (h : RS E w a j S) (hF : FS E J w w') (hJ : ∀ κ c, ¬ J (κ, j, c)) : RS E w' a j S := by
  obtain ⟨h1, ⟨g, h2, h3⟩, h4, h5⟩ := h
  exact ⟨h1.fr hF (hJ _ _), ⟨g, h2.fr hF (hJ _ _), h3⟩, h4.fr hF (fun κ _ _ => hJ _ _), fun c hc => (h5 c hc).fr hF (fun κ _ => hJ _ _)⟩
def setC (S : gT) (c : Nat) (x : gCol) : gT := (S.1, fun c' => if c' = c then x else S.2.1 c', S.2.2)
def mapC (op : Nat → gCol → gCol) (m : Nat) (S : gT) : gT := (S.1, fun c => if c < m then op c (S.2.1 c) else S.2.1 c, S.2.2)
theorem mapC_0 (op : Nat → gCol → gCol) (S : gT) : mapC op 0 S = S := by
  unfold mapC
  simp
theorem mapC_s (op : Nat → gCol → gCol) (c : Nat) (S : gT) : setC (mapC op c S) c (op c (S.2.1 c)) = mapC op (c + 1) S := by
  unfold setC mapC
  simp only
  congr 2
  funext c'
  by_cases h : c' = c
  · rw [if_pos h, if_pos (by omega), h]
  · rw [if_neg h]
    by_cases h2 : c' < c
    · rw [if_pos h2, if_pos (by omega)]
    · rw [if_neg h2, if_neg (by omega)]
theorem mapC_at (op : Nat → gCol → gCol) (c : Nat) (S : gT) : (mapC op c S).2.1 c = S.2.1 c := by
  unfold mapC
  simp
theorem RS.colup {E : gE} {w w' : gWd} {a j c : Nat} {S : gT} {x : gCol} (h : RS E w a j S) (hF : FS E (Jc j c) w w') (hx : RC E w' (a + 6 + 4 * c) j c x.1 x.2.1 x.2.2) : RS E w' a j (setC S c x) := by
  obtain ⟨h1, ⟨g, h2, h3⟩, h4, h5⟩ := h
  refine ⟨h1.fr hF (fun z => by have := z.2; simp at this), ⟨g, h2.fr hF (fun z => by have := z.2; simp at this), h3⟩, h4.fr hF (fun κ q1 q2 z => by have : 6 ≤ κ := z.2; omega), fun c' hc' => ?_⟩
  show RC E w' (a + 6 + 4 * c') j c' (if c' = c then x else S.2.1 c').1 (if c' = c then x else S.2.1 c').2.1 (if c' = c then x else S.2.1 c').2.2
  by_cases hz : c' = c
  · rw [if_pos hz, hz]
    exact hx
  · rw [if_neg hz]
    exact (h5 c' hc').fr hF (fun κ _ z => hz (congrArg Prod.snd z.1))
theorem RS.cnt {E : gE} {w : gWd} {a j : Nat} {S : gT} (h : RS E w a j S) : gfI w.1 a 9 1 = some (nI S.1) := gfI_o h.1.2.2 rfl
theorem RS.tab {E : gE} {w : gWd} {a j : Nat} {S : gT} (h : RS E w a j S) : gfR w.1 a 9 0 = some (a + 1) := gfR_o h.1.2.2 rfl
theorem RS.fil {E : gE} {w : gWd} {a j : Nat} {S : gT} (h : RS E w a j S) : gfR w.1 a 9 2 = some (a + 2) := gfR_o h.1.2.2 rfl
theorem RS.cl {E : gE} {w : gWd} {a j : Nat} {S : gT} (h : RS E w a j S) : gcl w.1 a 9 = some () := gcl_o h.1.2.2
theorem RS.fcl {E : gE} {w : gWd} {a j : Nat} {S : gT} (h : RS E w a j S) : gcl w.1 (a + 2) 3 = some () := gcl_o h.2.2.1.1.2.2
theorem RS.ref {E : gE} {w : gWd} {a j c : Nat} {S : gT} (h : RS E w a j S) (hc : c < 6) : graR E 4 w.1 (a + 1) (nI c) = some (a + 6 + 4 * c) := by
  obtain ⟨g, h2, h3⟩ := h.2.1
  exact h2.2.2.ld hc (by omega) (h3 c hc)
theorem RS.ccl {E : gE} {w : gWd} {a j c : Nat} {S : gT} (h : RS E w a j S) (hc : c < 6) : gcl w.1 (a + 6 + 4 * c) 0 = some () := gcl_o (h.2.2.2 c hc).1.1.2.2
theorem RS.dcl {E : gE} {w : gWd} {a j c : Nat} {S : gT} (h : RS E w a j S) (hc : c < 6) : gcl w.1 (a + 6 + 4 * c + 2) 2 = some () := by
  obtain ⟨-, en, g, hO, -⟩ := (h.2.2.2 c hc).2
  exact gcl_o hO.2.2
theorem RS.columns {E : gE} {w : gWd} {a j : Nat} {S : gT} (h : RS E w a j S) : X11_columns_f E w.1 a = some (nI S.1) := by
  unfold X11_columns_f X11_columns
  rw [ob_e h.cnt]
theorem RS.rows {E : gE} {w : gWd} {a j : Nat} {S : gT} (h : RS E w a j S) : X11_rows_f E w.1 a = some (nI (tR S)) := by
  unfold X11_rows_f X11_rows
  have h0 := h.ref (c := 0) (by omega)
  have h1 := (h.2.2.2 0 (by omega)).1.length
  have h2 := h.ccl (c := 0) (by omega)
  rw [ob_e h.tab, show (0 : Int32) = nI 0 from rfl, ob_e h0, ob_e h2, ob_e h1]
  rfl
theorem RS.n60 {E : gE} {w : gWd} {a j c : Nat} {S : gT} (h : RS E w a j S) (hc : c < 6) : (S.2.1 c).1 ≤ 60 := (h.2.2.2 c hc).1.2.1
theorem RS.column {E : gE} {w : gWd} {a j c : Nat} {S : gT} (h : RS E w a j S) (hc : c < 6) : X11_column_f E w.1 a (nI c) = some (a + 6 + 4 * c) := by
  unfold X11_column_f X11_column
  rw [ob_e h.tab, ob_e (h.ref hc)]
theorem RS.dict {E : gE} {w : gWd} {a j c : Nat} {S : gT} (h : RS E w a j S) (hc : c < 6) : X11_dictionary_f E w.1 a (nI c) = some (a + 6 + 4 * c + 2) := by
  unfold X11_dictionary_f X11_dictionary
  rw [ob_e h.tab, ob_e (h.ref hc), ob_e (h.ccl hc), ob_e (h.2.2.2 c hc).1.dict]
theorem RS.filter {E : gE} {w : gWd} {a j : Nat} {S : gT} (h : RS E w a j S) : X11_filter_f E w.1 a = some (a + 2) := by
  unfold X11_filter_f X11_filter
  rw [ob_e h.fil]
theorem RS.full {E : gE} {w : gWd} {a j : Nat} {S : gT} (h : RS E w a j S) : X11_isFull_f E w.1 a = some (if tR S < 60 then 0 else 1) := by
  have h6 := h.n60 (c := 0) (by omega)
  have : tR S ≤ 60 := h6
  unfold X11_isFull_f X11_isFull
  rw [ob_e h.cl, ob_e h.rows]
  by_cases hz : tR S < 60
  · rw [if_pos (show nI (tR S) < (60 : Int32) from nI_lt (b := 60) hz (by omega)), if_pos hz]
  · rw [if_neg (show ¬ nI (tR S) < (60 : Int32) from nI_nlt (b := 60) (by omega) (by omega)), if_neg hz]
theorem RS.has {E : gE} {w : gWd} {a j : Nat} {S : gT} (h : RS E w a j S) (x : Int32) : X11_hasRow_f E w.1 a x = some (if 0 ≤ x.toInt ∧ x.toInt < tR S then 1 else 0) := by
  have h6 := h.n60 (c := 0) (by omega)
  have h7 : tR S ≤ 60 := h6
  have e : (0 : Int32).toInt = 0 := rfl
  unfold X11_hasRow_f X11_hasRow X11_hasRow_16
  by_cases hx : x < 0
  · rw [if_pos hx, if_neg]
    rw [fa_lt] at hx
    omega
  · rw [if_neg hx, ob_e h.cl, ob_e h.rows]
    rw [fa_lt] at hx
    by_cases hk : nI (tR S) ≤ x
    · rw [if_pos hk, if_neg]
      rw [fa_le, nI_toInt (by omega)] at hk
      omega
    · rw [if_neg hk, if_pos]
      rw [fa_le, nI_toInt (by omega)] at hk
      omega
/-! a table that is as it should be -/
def GS (S : gT) : Prop := 1 ≤ S.1 ∧ S.1 ≤ 6 ∧ (∀ c, c < S.1 → (S.2.1 c).1 = tR S) ∧ tR S ≤ 60 ∧ (∀ c r, c < S.1 → r < tR S → vIn (tV S c r) ∧ tD S c (px (tV S c r)) = true) ∧ tK S ≤ 8 ∧ ∀ i, i < tK S → tFc S i < S.1 ∧ vIn (tFv S i) ∧ dOK (tFd S i)
/-- row r fulfills condition i -/
def sful (S : gT) (r i : Nat) : Bool := gful (tV S (tFc S i) r) (tFv S i) (tFd S i)
/-- the first condition that the row doesn't fulfill -/
def srej (S : gT) (r : Nat) : Nat := fa_first (fun i => !sful S r i) (tK S)
def ssel (S : gT) (r : Nat) : Bool := decide (srej S r = tK S)
theorem RS.ful {E : gE} {w : gWd} {a j r i : Nat} {S : gT} (h : RS E w a j S) (hG : GS S) (hr : r < tR S) (hi : i < tK S) : X11_fulfills_f E w.1 a (nI r) (nI i) = some (if sful S r i = true then 1 else 0) := by
  obtain ⟨g1, g2, g3, g4, g5, g6, g7⟩ := hG
  obtain ⟨k1, k2, k3⟩ := g7 i hi
  have hn := g3 _ k1
  have hA := h.2.2.1.allows (x := tV S (tFc S i) r) hi (g5 _ r k1 hr).1 k2 k3
  have hV := (h.2.2.2 (tFc S i) (by omega)).1.at (r := r) (by omega)
  unfold X11_fulfills_f X11_fulfills
  rw [ob_e h.fil, ob_e h.tab, ob_e h.fil, ob_e h.fcl, ob_e (h.2.2.1.col hi), ob_e (h.ref (by omega)), ob_e (h.ccl (by omega)), ob_e hV, ob_e h.fcl, ob_e hA]
  unfold sful
  cases gful (tV S (tFc S i) r) (tFv S i) (tFd S i) <;> rfl
theorem rf_loop {E : gE} {w : gWd} {a j i : Nat} {S : gT} (h : RS E w a j S) (hG : GS S) (hi : i < tK S) : ∀ (k r m : Nat), r + k = tR S → k < m → X11_rowsFulfilling_4 E w.1 m a (nI i) (nI (fb_ct (fun r => sful S r i) r)) (nI r) = some (nI (fb_ct (fun r => sful S r i) (tR S))) := by
  have h6 : tR S ≤ 60 := hG.2.2.2.1
  intro k
  induction k with
  | zero =>
    intro r m hr hm
    obtain ⟨m, rfl⟩ : ∃ q, m = q + 1 := ⟨m - 1, by omega⟩
    show X11_rowsFulfilling_4_s E w.1 (X11_rowsFulfilling_4 E w.1 m) a _ _ (nI r) = _
    unfold X11_rowsFulfilling_4_s
    rw [ob_e h.cl, ob_e h.rows, if_pos (nI_le (by omega) (by omega)), show r = tR S by omega]
  | succ k ih =>
    intro r m hr hm
    obtain ⟨m, rfl⟩ : ∃ q, m = q + 1 := ⟨m - 1, by omega⟩
    have hI := ih (r + 1) m (by omega) (by omega)
    rw [fb_ct_succ] at hI
    show X11_rowsFulfilling_4_s E w.1 (X11_rowsFulfilling_4 E w.1 m) a _ _ (nI r) = _
    unfold X11_rowsFulfilling_4_s X11_rowsFulfilling_24
    rw [ob_e h.cl, ob_e h.rows, if_neg (nI_ge (by omega) (by omega)), ob_e h.cl, ob_e (h.ful hG (by omega) hi), ← hI]
    cases sful S r i with
    | true =>
      rw [if_neg (by decide)]
      simp only [if_true, nI_succ]
    | false =>
      rw [if_pos (by decide)]
      simp only [Bool.false_eq_true, if_false, Nat.add_zero, nI_succ]
theorem RS.matches {E : gE} {w : gWd} {a j i : Nat} {S : gT} (hN : 100000 ≤ gN E) (h : RS E w a j S) (hG : GS S) (hi : i < tK S) : X11_rowsFulfilling_f E w.1 a (nI i) = some (nI (fb_ct (fun r => sful S r i) (tR S))) := by
  have h6 : tR S ≤ 60 := hG.2.2.2.1
  exact rf_loop h hG hi (tR S) 0 (gN E) (by omega) (by omega)
theorem fr_loop {E : gE} {w : gWd} {a j r : Nat} {S : gT} (h : RS E w a j S) (hG : GS S) (hr : r < tR S) : ∀ (k i m : Nat), i + k = tK S → k < m → (∀ q, q < i → sful S r q = true) → X11_firstRejecting_2 E w.1 m a (nI r) (nI i) = some (if srej S r < tK S then nI (srej S r) else -1) := by
  have h6 : tK S ≤ 8 := hG.2.2.2.2.2.1
  intro k
  induction k with
  | zero =>
    intro i m hi hm hq
    obtain ⟨m, rfl⟩ : ∃ q, m = q + 1 := ⟨m - 1, by omega⟩
    show X11_firstRejecting_2_s E w.1 (X11_firstRejecting_2 E w.1 m) a _ (nI i) = _
    unfold X11_firstRejecting_2_s
    have he : srej S r = tK S := fa_first_succ (fun q hz => by rw [hq q (by omega)]; rfl) (Or.inr rfl) (Nat.le_refl _)
    rw [ob_e h.fil, ob_e h.fcl, ob_e h.2.2.1.size, if_pos (nI_le (by omega) (by omega)), if_neg (by omega)]
  | succ k ih =>
    intro i m hi hm hq
    obtain ⟨m, rfl⟩ : ∃ q, m = q + 1 := ⟨m - 1, by omega⟩
    show X11_firstRejecting_2_s E w.1 (X11_firstRejecting_2 E w.1 m) a _ (nI i) = _
    unfold X11_firstRejecting_2_s
    rw [ob_e h.fil, ob_e h.fcl, ob_e h.2.2.1.size, if_neg (nI_ge (by omega) (by omega)), ob_e h.cl, ob_e (h.ful hG hr (by omega))]
    cases hs : sful S r i with
    | true =>
      rw [if_neg (by decide), ← nI_succ]
      exact ih (i + 1) m (by omega) (by omega) (fun q hz => by
        by_cases hy : q = i
        · rw [hy]; exact hs
        · exact hq q (by omega))
    | false =>
      have he : srej S r = i := fa_first_succ (fun q hz => by rw [hq q (by omega)]; rfl) (Or.inl (by rw [hs]; rfl)) (by omega)
      rw [if_pos (by decide), he, if_pos (by omega)]
theorem RS.rej {E : gE} {w : gWd} {a j r : Nat} {S : gT} (hN : 100000 ≤ gN E) (h : RS E w a j S) (hG : GS S) (hr : r < tR S) : X11_firstRejecting_f E w.1 a (nI r) = some (if srej S r < tK S then nI (srej S r) else -1) := by
  have h6 : tK S ≤ 8 := hG.2.2.2.2.2.1
  exact fr_loop h hG hr (tK S) 0 (gN E) (by omega) (by omega) (fun q hz => by omega)
theorem RS.sel {E : gE} {w : gWd} {a j r : Nat} {S : gT} (hN : 100000 ≤ gN E) (h : RS E w a j S) (hG : GS S) (hr : r < tR S) : X11_selects_f E w.1 a (nI r) = some (if ssel S r = true then 1 else 0) := by
  have h6 : tK S ≤ 8 := hG.2.2.2.2.2.1
  have h7 : srej S r ≤ tK S := fa_first_le _ _
  unfold X11_selects_f X11_selects
  rw [ob_e h.cl, ob_e (h.rej hN hG hr)]
  unfold ssel
  by_cases hz : srej S r < tK S
  · rw [if_pos hz, if_pos (nI_pos' (by omega))]
    simp [show ¬ srej S r = tK S by omega]
  · rw [if_neg hz, if_neg (by decide)]
    simp [show srej S r = tK S by omega]
theorem sr_loop {E : gE} {w : gWd} {a j : Nat} {S : gT} (hN : 100000 ≤ gN E) (h : RS E w a j S) (hG : GS S) : ∀ (k r m : Nat), r + k = tR S → k < m → X11_selectedRows_4 E w.1 m a (nI (fb_ct (ssel S) r)) (nI r) = some (nI (fb_ct (ssel S) (tR S))) := by
  have h6 : tR S ≤ 60 := hG.2.2.2.1
  intro k
  induction k with
  | zero =>
    intro r m hr hm
    obtain ⟨m, rfl⟩ : ∃ q, m = q + 1 := ⟨m - 1, by omega⟩
    show X11_selectedRows_4_s E w.1 (X11_selectedRows_4 E w.1 m) a _ (nI r) = _
    unfold X11_selectedRows_4_s
    rw [ob_e h.cl, ob_e h.rows, if_pos (nI_le (by omega) (by omega)), show r = tR S by omega]
  | succ k ih =>
    intro r m hr hm
    obtain ⟨m, rfl⟩ : ∃ q, m = q + 1 := ⟨m - 1, by omega⟩
    have hI := ih (r + 1) m (by omega) (by omega)
    rw [fb_ct_succ] at hI
    show X11_selectedRows_4_s E w.1 (X11_selectedRows_4 E w.1 m) a _ (nI r) = _
    unfold X11_selectedRows_4_s X11_selectedRows_23
    rw [ob_e h.cl, ob_e h.rows, if_neg (nI_ge (by omega) (by omega)), ob_e h.cl, ob_e (h.sel hN hG (by omega)), ← hI]
    cases ssel S r with
    | true =>
      rw [if_neg (by decide)]
      simp only [if_true, nI_succ]
    | false =>
      rw [if_pos (by decide)]
      simp only [Bool.false_eq_true, if_false, Nat.add_zero, nI_succ]
theorem RS.nsel {E : gE} {w : gWd} {a j : Nat} {S : gT} (hN : 100000 ≤ gN E) (h : RS E w a j S) (hG : GS S) : X11_selectedRows_f E w.1 a = some (nI (fb_ct (ssel S) (tR S))) := by
  have h6 : tR S ≤ 60 := hG.2.2.2.1
  exact sr_loop hN h hG (tR S) 0 (gN E) (by omega) (by omega)
