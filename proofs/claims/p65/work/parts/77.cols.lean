/-! pure: widths, columns -/
theorem nI_dec (n : Nat) : nI (n + 1) + (-1 : Int32) = nI n := by
  rw [nI_succ, Int32.add_assoc]
  rw [show (1 : Int32) + (-1) = 0 from rfl, Int32.add_zero]
theorem nI_sub1 {n : Nat} (h : 0 < n) : nI n - (1 : Int32) = nI (n - 1) := by
  obtain ⟨m, rfl⟩ : ∃ m, n = m + 1 := ⟨n - 1, by omega⟩
  exact nI_pred m
/-- the least width that tells n values apart -/
def gwid (n : Nat) : Nat := fa_first (fun k => decide (n ≤ 2 ^ k)) 31
theorem fa_first_succ {p : Nat → Bool} {n k : Nat} (h1 : ∀ i, i < k → p i = false) (h2 : p k = true ∨ k = n) (hk : k ≤ n) : fa_first p n = k := by
  have a := fa_first_no p n
  have b := fa_first_yes p n
  have c := fa_first_le p n
  rcases Nat.lt_trichotomy (fa_first p n) k with h | h | h
  · have := b (by omega)
    rw [h1 _ h] at this
    cases this
  · exact h
  · rcases h2 with h2 | h2
    · have := a k h
      rw [h2] at this
      cases this
    · omega
theorem gwid_no {n i : Nat} (h : i < gwid n) : 2 ^ i < n := by
  have := fa_first_no (fun k => decide (n ≤ 2 ^ k)) 31 i h
  simp at this
  exact this
theorem gwid_le (n : Nat) : gwid n ≤ 31 := fa_first_le _ _
theorem gwid_yes {n : Nat} (hn : n ≤ 2 ^ 30) : n ≤ 2 ^ gwid n ∧ gwid n ≤ 30 := by
  by_cases h : gwid n < 31
  · have := fa_first_yes (fun k => decide (n ≤ 2 ^ k)) 31 h
    simp at this
    exact ⟨this, by omega⟩
  · exfalso
    have := gwid_no (n := n) (i := 30) (by omega)
    omega
theorem wid_loop {E : gE} {σ : gS} {n : Nat} (hn : n ≤ 2 ^ 30) : ∀ (k i m : Nat), i + k = gwid n → k < m → X3_widthFor_2 E σ m (nI n) (nI i) = some (nI (gwid n)) := by
  have hg := gwid_yes hn
  intro k
  induction k with
  | zero =>
    intro i m hi hm
    obtain ⟨m, rfl⟩ : ∃ q, m = q + 1 := ⟨m - 1, by omega⟩
    show X3_widthFor_2_s E σ (X3_widthFor_2 E σ m) (nI n) (nI i) = _
    unfold X3_widthFor_2_s
    have hp : 2 ^ gwid n ≤ 2 ^ 30 := Nat.pow_le_pow_right (by decide) hg.2
    rw [if_neg (show ¬ (31 : Int32) ≤ nI i from nI_ge (a := i) (b := 31) (by omega) (by omega)), if_pos]
    · unfold X3_widthFor_23
      rw [show i = gwid n by omega]
    · rw [lg_cmp_ge, nI_l (by omega)]
      show lN n ≤ lN 1 <<< ((nI i).toInt64 &&& 63)
      rw [wb_shl 1 (by omega), Nat.one_mul]
      exact (lN_le (by omega) (by rw [show i = gwid n by omega]; omega)).mpr (by rw [show i = gwid n by omega]; exact hg.1)
  | succ k ih =>
    intro i m hi hm
    obtain ⟨m, rfl⟩ : ∃ q, m = q + 1 := ⟨m - 1, by omega⟩
    show X3_widthFor_2_s E σ (X3_widthFor_2 E σ m) (nI n) (nI i) = _
    unfold X3_widthFor_2_s
    have hl := gwid_no (n := n) (i := i) (by omega)
    rw [if_neg (show ¬ (31 : Int32) ≤ nI i from nI_ge (a := i) (b := 31) (by omega) (by omega)), if_neg]
    · rw [← nI_succ]
      exact ih (i + 1) m (by omega) (by omega)
    · rw [lg_cmp_ge, nI_l (by omega)]
      show ¬ lN n ≤ lN 1 <<< ((nI i).toInt64 &&& 63)
      rw [wb_shl 1 (by omega), Nat.one_mul, lN_le (by omega) (by omega)]
      omega
theorem wid_f {E : gE} {σ : gS} {n : Nat} (hN : 100000 ≤ gN E) (hn : n ≤ 2 ^ 30) : X3_widthFor_f E σ (nI n) = some (nI (gwid n)) := by
  have := gwid_le n
  exact wid_loop hn (gwid n) 0 (gN E) (by omega) (by omega)
theorem RD.width {E : gE} {w : gWd} {a j c : Nat} {f : Nat → Bool} (hN : 100000 ≤ gN E) (h : RD E w a j c f) : X3_width_f E w.1 a = some (nI (gwid (dsz f))) := by
  have h7 := dsz_le f
  obtain ⟨h0, en, g, h1, h2, h3, h4, h5⟩ := h
  unfold X3_width_f X3_width
  rw [ob_e (gfI_o h1.2.2 rfl), ob_e (wid_f hN (by omega))]
/-- the values of column c of store j -/
def RV (E : gE) (w : gWd) (a j c n : Nat) (v : Nat → Int32) : Prop :=
  Ob w (6, j, c) a 0 [.ref (a + 1), .ref (a + 2), .int (nI n)] ∧ n ≤ 60 ∧ ∃ g, ArI E w (7, j, c) (a + 1) 60 g ∧ ∀ r, r < n → g r = v r
theorem RV.fr {E : gE} {J : Nat × Nat × Nat → Prop} {w w' : gWd} {a j c n : Nat} {v : Nat → Int32} (h : RV E w a j c n v) (hF : FS E J w w') (h6 : ¬ J (6, j, c)) (h7 : ¬ J (7, j, c)) : RV E w' a j c n v := by
  obtain ⟨h1, h2, g, h3, h4⟩ := h
  exact ⟨h1.fr hF h6, h2, g, h3.fr hF h7, h4⟩
theorem RV.cong {E : gE} {w : gWd} {a j c n : Nat} {v v' : Nat → Int32} (h : RV E w a j c n v) (hv : ∀ r, r < n → v r = v' r) : RV E w a j c n v' := by
  obtain ⟨h1, h2, g, h3, h4⟩ := h
  exact ⟨h1, h2, g, h3, fun r hr => (h4 r hr).trans (hv r hr)⟩
theorem RV.length {E : gE} {w : gWd} {a j c n : Nat} {v : Nat → Int32} (h : RV E w a j c n v) : X1_length_f E w.1 a = some (nI n) := by
  unfold X1_length_f X1_length
  rw [ob_e (gfI_o h.1.2.2 rfl)]
theorem RV.dict {E : gE} {w : gWd} {a j c n : Nat} {v : Nat → Int32} (h : RV E w a j c n v) : X1_dictionary_f E w.1 a = some (a + 2) := by
  unfold X1_dictionary_f X1_dictionary
  rw [ob_e (gfR_o h.1.2.2 rfl)]
theorem RV.ld {E : gE} {w : gWd} {a j c n r : Nat} {v : Nat → Int32} (h : RV E w a j c n v) (hr : r < n) : graI E 0 w.1 (a + 1) (nI r) = some (v r) := by
  obtain ⟨h1, h2, g, h3, h4⟩ := h
  rw [← h4 r hr]
  exact h3.2.2.ld (by omega) (by omega)
theorem RV.at {E : gE} {w : gWd} {a j c n r : Nat} {v : Nat → Int32} (h : RV E w a j c n v) (hr : r < n) : X1_valueAt_f E w.1 a (nI r) = some (v r) := by
  unfold X1_valueAt_f X1_valueAt
  rw [ob_e (gfR_o h.1.2.2 rfl), ob_e (h.ld hr)]
theorem RV.codeAt {E : gE} {w : gWd} {a j c n r : Nat} {v : Nat → Int32} {f : Nat → Bool} (hN : 100000 ≤ gN E) (h : RV E w a j c n v) (hD : RD E w (a + 2) j c f) (hr : r < n) : X1_codeAt_f E w.1 a (nI r) = some (if dmem f (v r) = true then nI (fb_ct f (px (v r))) else -1) := by
  obtain ⟨-, en, g, hO, -⟩ := id hD
  unfold X1_codeAt_f X1_codeAt
  rw [ob_e (gfR_o h.1.2.2 rfl), ob_e (gfR_o h.1.2.2 rfl), ob_e (h.ld hr), ob_e (gcl_o hO.2.2), ob_e (hD.find hN (v r))]
theorem occ_loop {E : gE} {w : gWd} {a j c n : Nat} {v : Nat → Int32} (h : RV E w a j c n v) (x : Int32) : ∀ (k r m : Nat), r + k = n → k < m → X1_occurrences_4 E w.1 m a x (nI (fb_ct (fun i => decide (v i = x)) r)) (nI r) = some (nI (fb_ct (fun i => decide (v i = x)) n)) := by
  have h2 := h.2.1
  intro k
  induction k with
  | zero =>
    intro r m hr hm
    obtain ⟨m, rfl⟩ : ∃ q, m = q + 1 := ⟨m - 1, by omega⟩
    show X1_occurrences_4_s E w.1 (X1_occurrences_4 E w.1 m) a x _ (nI r) = _
    unfold X1_occurrences_4_s
    rw [ob_e (gfI_o h.1.2.2 rfl), if_pos (nI_le (by omega) (by omega)), show r = n by omega]
  | succ k ih =>
    intro r m hr hm
    obtain ⟨m, rfl⟩ : ∃ q, m = q + 1 := ⟨m - 1, by omega⟩
    show X1_occurrences_4_s E w.1 (X1_occurrences_4 E w.1 m) a x _ (nI r) = _
    unfold X1_occurrences_4_s X1_occurrences_25
    have hI := ih (r + 1) m (by omega) (by omega)
    rw [fb_ct_succ, nI_succ] at hI
    rw [ob_e (gfI_o h.1.2.2 rfl), if_neg (nI_ge (by omega) (by omega)), ob_e (gfR_o h.1.2.2 rfl), ob_e (h.ld (by omega))]
    by_cases hv : v r = x
    · rw [if_pos hv, ← hI]
      simp only [hv, decide_true, if_true, nI_succ]
    · rw [if_neg hv, ← hI]
      simp only [hv, decide_false, Bool.false_eq_true, if_false, Nat.add_zero]
theorem RV.occ {E : gE} {w : gWd} {a j c n : Nat} {v : Nat → Int32} (hN : 100000 ≤ gN E) (h : RV E w a j c n v) (x : Int32) : X1_occurrences_f E w.1 a x = some (nI (fb_ct (fun i => decide (v i = x)) n)) := by
  have h2 := h.2.1
  exact occ_loop h x n 0 (gN E) (by omega) (by omega)
/-- the longest run up to a row, and the run that goes on there -/
def grun (v : Nat → Int32) : Nat → Nat × Nat
  | 0 => (0, 0)
  | r + 1 =>
    let cur := if 0 < r ∧ v r = v (r - 1) then (grun v r).2 + 1 else 1
    (max (grun v r).1 cur, cur)
theorem grun_le (v : Nat → Int32) : ∀ r, (grun v r).1 ≤ r ∧ (grun v r).2 ≤ r
  | 0 => ⟨Nat.le_refl _, Nat.le_refl _⟩
  | r + 1 => by
    have ih := grun_le v r
    unfold grun
    dsimp only
    by_cases h : 0 < r ∧ v r = v (r - 1)
    · rw [if_pos h]
      omega
    · rw [if_neg h]
      omega
theorem gmax_nI {a b : Nat} (ha : a < 2 ^ 31) (hb : b < 2 ^ 31) : gmax (nI a) (nI b) = nI (max a b) := by
  unfold gmax
  by_cases h : a < b
  · rw [if_pos (nI_lt h hb), Nat.max_eq_right (by omega)]
  · rw [if_neg (nI_nlt (by omega) ha), Nat.max_eq_left (by omega)]
theorem gmin_nI {a b : Nat} (ha : a < 2 ^ 31) (hb : b < 2 ^ 31) : gmin (nI a) (nI b) = nI (min a b) := by
  unfold gmin
  by_cases h : b < a
  · rw [if_pos (nI_lt h ha), Nat.min_eq_right (by omega)]
  · rw [if_neg (nI_nlt (by omega) hb), Nat.min_eq_left (by omega)]
theorem run_loop {E : gE} {w : gWd} {a j c n : Nat} {v : Nat → Int32} (h : RV E w a j c n v) : ∀ (k r m : Nat), r + k = n → k < m → X1_greatestRun_6 E w.1 m a (nI (grun v r).1) (nI (grun v r).2) (nI r) = some (nI (grun v n).1) := by
  have h2 := h.2.1
  intro k
  induction k with
  | zero =>
    intro r m hr hm
    obtain ⟨m, rfl⟩ : ∃ q, m = q + 1 := ⟨m - 1, by omega⟩
    show X1_greatestRun_6_s E w.1 (X1_greatestRun_6 E w.1 m) a _ _ (nI r) = _
    unfold X1_greatestRun_6_s
    rw [ob_e (gfI_o h.1.2.2 rfl), if_pos (nI_le (by omega) (by omega)), show r = n by omega]
  | succ k ih =>
    intro r m hr hm
    obtain ⟨m, rfl⟩ : ∃ q, m = q + 1 := ⟨m - 1, by omega⟩
    have hle := grun_le v r
    have hI := ih (r + 1) m (by omega) (by omega)
    show X1_greatestRun_6_s E w.1 (X1_greatestRun_6 E w.1 m) a _ _ (nI r) = _
    unfold X1_greatestRun_6_s
    rw [ob_e (gfI_o h.1.2.2 rfl), if_neg (nI_ge (by omega) (by omega))]
    have e39 : ¬ (0 < r ∧ v r = v (r - 1)) → X1_greatestRun_39 E w.1 (X1_greatestRun_6 E w.1 m) a (nI (grun v r).1) (nI (grun v r).2) (nI r) = some (nI (grun v n).1) := by
      intro hc
      unfold X1_greatestRun_39 X1_greatestRun_40 X1_greatestRun_54
      rw [if_pos rfl, ← nI_succ]
      rw [grun] at hI
      dsimp only at hI
      rw [if_neg hc] at hI
      rw [← hI, ← gmax_nI (by omega) (by omega)]
      rfl
    by_cases h0 : r = 0
    · rw [if_pos (by rw [h0]; decide)]
      exact e39 (by omega)
    · rw [if_neg (nI_nle (by omega) (by omega)), ob_e (gfR_o h.1.2.2 rfl), ob_e (h.ld (by omega)), ob_e (gfR_o h.1.2.2 rfl), nI_sub1 (by omega), ob_e (h.ld (by omega))]
      by_cases hv : v r = v (r - 1)
      · rw [if_pos hv]
        unfold X1_greatestRun_40 X1_greatestRun_54
        rw [if_neg (by decide), ← nI_succ]
        rw [grun] at hI
        dsimp only at hI
        rw [if_pos ⟨by omega, hv⟩] at hI
        rw [← hI, ← gmax_nI (by omega) (by omega)]
        simp only [nI_succ]
      · rw [if_neg hv]
        exact e39 (fun z => hv z.2)
theorem RV.run {E : gE} {w : gWd} {a j c n : Nat} {v : Nat → Int32} (hN : 100000 ≤ gN E) (h : RV E w a j c n v) : X1_greatestRun_f E w.1 a = some (nI (grun v n).1) := by
  have h2 := h.2.1
  exact run_loop h n 0 (gN E) (by omega) (by omega)
/-- ascending up to n -/
def gasc (v : Nat → Int32) (n : Nat) : Prop := ∀ r, 0 < r → r < n → v (r - 1) ≤ v r
theorem asc_loop {E : gE} {w : gWd} {a j c n : Nat} {v : Nat → Int32} (h : RV E w a j c n v) : ∀ (k r m : Nat), n ≤ r + k → r + k ≤ n + 1 → 0 < r → k < m → gasc v r → ∃ b : Int32, X1_isAscending_2 E w.1 m a (nI r) = some b ∧ (b = 1 ∧ gasc v n ∨ b = 0 ∧ ¬ gasc v n) := by
  have h2 := h.2.1
  intro k
  induction k with
  | zero =>
    intro r m hr hr2 h0 hm ha
    obtain ⟨m, rfl⟩ : ∃ q, m = q + 1 := ⟨m - 1, by omega⟩
    refine ⟨1, ?_, Or.inl ⟨rfl, fun i hi hi2 => ha i hi (by omega)⟩⟩
    show X1_isAscending_2_s E w.1 (X1_isAscending_2 E w.1 m) a (nI r) = _
    unfold X1_isAscending_2_s
    rw [ob_e (gfI_o h.1.2.2 rfl), if_pos (nI_le (by omega) (by omega))]
  | succ k ih =>
    intro r m hr hr2 h0 hm ha
    obtain ⟨m, rfl⟩ : ∃ q, m = q + 1 := ⟨m - 1, by omega⟩
    by_cases hle : n ≤ r
    · refine ⟨1, ?_, Or.inl ⟨rfl, fun i hi hi2 => ha i hi (by omega)⟩⟩
      show X1_isAscending_2_s E w.1 (X1_isAscending_2 E w.1 m) a (nI r) = _
      unfold X1_isAscending_2_s
      rw [ob_e (gfI_o h.1.2.2 rfl), if_pos (nI_le (by omega) (by omega))]
    · have hs : X1_isAscending_2 E w.1 (m + 1) a (nI r) = if v (r - 1) ≤ v r then X1_isAscending_2 E w.1 m a (nI (r + 1)) else some 0 := by
        show X1_isAscending_2_s E w.1 (X1_isAscending_2 E w.1 m) a (nI r) = _
        unfold X1_isAscending_2_s
        rw [ob_e (gfI_o h.1.2.2 rfl), if_neg (nI_ge (by omega) (by omega)), ob_e (gfR_o h.1.2.2 rfl), ob_e (h.ld (by omega)), ob_e (gfR_o h.1.2.2 rfl), nI_sub1 h0, ob_e (h.ld (by omega)), nI_succ]
      by_cases hv : v (r - 1) ≤ v r
      · obtain ⟨b, hb, hb2⟩ := ih (r + 1) m (by omega) (by omega) (by omega) (by omega) (fun i hi hi2 => by
          by_cases he : i = r
          · rw [he]; exact hv
          · exact ha i hi (by omega))
        exact ⟨b, by rw [hs, if_pos hv]; exact hb, hb2⟩
      · exact ⟨0, by rw [hs, if_neg hv], Or.inr ⟨rfl, fun z => hv (z r h0 (by omega))⟩⟩
theorem RV.asc {E : gE} {w : gWd} {a j c n : Nat} {v : Nat → Int32} (hN : 100000 ≤ gN E) (h : RV E w a j c n v) : ∃ b : Int32, X1_isAscending_f E w.1 a = some b ∧ (b = 1 ∧ gasc v n ∨ b = 0 ∧ ¬ gasc v n) := by
  have h2 := h.2.1
  exact asc_loop h n 1 (gN E) (by omega) (by omega) (by omega) (by omega) (fun i hi hi2 => by omega)
