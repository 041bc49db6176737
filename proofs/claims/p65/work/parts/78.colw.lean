/-! pure: columns are written -/
theorem t3_ne {a b j c : Nat} (h : a ≠ b) : ¬ ((a, j, c) : Nat × Nat × Nat) = (b, j, c) := fun e => h (congrArg Prod.fst e)
/-- column c of store j: its values and its dictionary -/
def RC (E : gE) (w : gWd) (a j c n : Nat) (v : Nat → Int32) (f : Nat → Bool) : Prop := RV E w a j c n v ∧ RD E w (a + 2) j c f
theorem RC.fr {E : gE} {J : Nat × Nat × Nat → Prop} {w w' : gWd} {a j c n : Nat} {v : Nat → Int32} {f : Nat → Bool} (h : RC E w a j c n v f) (hF : FS E J w w') (hJ : ∀ κ, 6 ≤ κ → ¬ J (κ, j, c)) : RC E w' a j c n v f := ⟨h.1.fr hF (hJ _ (by decide)) (hJ _ (by decide)), h.2.fr hF (hJ _ (by decide)) (hJ _ (by decide))⟩
theorem RC.clear {E : gE} {w : gWd} {a j c n : Nat} {v : Nat → Int32} {f : Nat → Bool} (h : RC E w a j c n v f) {J : Nat × Nat × Nat → Prop} (hJ : ∀ κ, 6 ≤ κ → J (κ, j, c)) :
    ∃ w' : gWd, X1_clear_f E a w.1 = some w'.1 ∧ FS E J w w' ∧ RC E w' a j c 0 v (fun _ => false) := by
  obtain ⟨⟨h1, h2, g, h3, h4⟩, hD⟩ := h
  obtain ⟨e1, O1, F1⟩ := h1.put (E := E) 2 (.int 0) (Nat.le_of_ble_eq_true rfl) (J := fun t => t = (6, j, c)) rfl
  have D1 := hD.fr F1 (t3_ne (by decide)) (t3_ne (by decide))
  have A1 := h3.fr F1 (t3_ne (by decide))
  obtain ⟨w', e2, F2, hw2, D2⟩ := D1.clear (J := fun t => t = (8, j, c)) rfl
  have O2 := O1.fr F2 (t3_ne (by decide))
  have A2 := A1.fr F2 (t3_ne (by decide))
  obtain ⟨-, en, g0, hO, -⟩ := id D1
  refine ⟨w', ?_, (F1.mono (fun t e => by rw [e]; exact hJ _ (by decide))).trans (F2.mono (fun t e => by rw [e]; exact hJ _ (by decide))), ⟨O2, by omega, g, A2, fun r hr => by omega⟩, D2⟩
  unfold X1_clear_f X1_clear
  rw [ob_e e1, ob_e (gfR_o O1.2.2 rfl), ob_e (gcl_o hO.2.2), ob_e e2]
theorem RC.append {E : gE} {w : gWd} {a j c n x : Nat} {v : Nat → Int32} {f : Nat → Bool} {y : Int32} (hN : 100000 ≤ gN E) (h : RC E w a j c n v f) (hn : n < 60) (hy : vIn y) (hj : j < 11) (hc : c < 6) (hR : RM E w x) {J : Nat × Nat × Nat → Prop} (hJ : ∀ κ, 6 ≤ κ → J (κ, j, c)) :
    ∃ w' : gWd, X1_append_f E a y w.1 = some w'.1 ∧ FS E J w w' ∧ RC E w' a j c (n + 1) (upd v n y) (dins f (px y)) := by
  obtain ⟨⟨h1, h2, g, h3, h4⟩, hD⟩ := h
  obtain ⟨e1, A1, F1⟩ := h3.st (i := n) (by omega) (by omega) y (J := fun t => t = (7, j, c)) rfl
  have O1 := h1.fr F1 (t3_ne (by decide))
  have D1 := hD.fr F1 (t3_ne (by decide)) (t3_ne (by decide))
  obtain ⟨e2, O2, F2⟩ := O1.put (E := E) 2 (.int (nI (n + 1))) (Nat.le_of_ble_eq_true rfl) (J := fun t => t = (6, j, c)) rfl
  have A2 := A1.fr F2 (t3_ne (by decide))
  have D2 := D1.fr F2 (t3_ne (by decide)) (t3_ne (by decide))
  obtain ⟨w', e3, F3, D3⟩ := D2.insert hN hy hj hc (F2.2.2.2 x (F1.2.2.2 x hR)) (J := fun t => t = (8, j, c) ∨ t = (9, j, c)) (Or.inl rfl) (Or.inr rfl)
  have O3 := O2.fr F3 (fun z => z.elim (t3_ne (by decide)) (t3_ne (by decide)))
  have A3 := A2.fr F3 (fun z => z.elim (t3_ne (by decide)) (t3_ne (by decide)))
  obtain ⟨-, en, g0, hO, -⟩ := id D2
  refine ⟨w', ?_, (F1.mono (fun t e => by rw [e]; exact hJ _ (by decide))).trans ((F2.mono (fun t e => by rw [e]; exact hJ _ (by decide))).trans (F3.mono (fun t e => by rcases e with rfl | rfl <;> exact hJ _ (by decide)))), ⟨O3, by omega, _, A3, fun r hr => ?_⟩, D3⟩
  · unfold X1_append_f X1_append
    rw [ob_e (gfI_o h1.2.2 rfl), if_neg (show ¬ (60 : Int32) ≤ nI n from nI_ge (a := n) (b := 60) hn (by omega)), ob_e (gfR_o h1.2.2 rfl), ob_e (gfI_o h1.2.2 rfl), ob_e e1, ob_e (gfI_o O1.2.2 rfl), ← nI_succ, ob_e e2, ob_e (gfR_o O2.2.2 rfl), ob_e (gcl_o hO.2.2), ob_e e3]
  · unfold upd
    by_cases hrn : r = n
    · rw [if_pos hrn, if_pos hrn]
    · rw [if_neg hrn, if_neg hrn]
      exact h4 r (by omega)
theorem RC.put {E : gE} {w : gWd} {a j c n x r : Nat} {v : Nat → Int32} {f : Nat → Bool} {y : Int32} (hN : 100000 ≤ gN E) (h : RC E w a j c n v f) (hr : r < n) (hy : vIn y) (hj : j < 11) (hc : c < 6) (hR : RM E w x) {J : Nat × Nat × Nat → Prop} (hJ : ∀ κ, 6 ≤ κ → J (κ, j, c)) :
    ∃ w' : gWd, X1_put_f E a (nI r) y w.1 = some w'.1 ∧ FS E J w w' ∧ RC E w' a j c n (upd v r y) (dins f (px y)) := by
  obtain ⟨⟨h1, h2, g, h3, h4⟩, hD⟩ := h
  obtain ⟨e1, A1, F1⟩ := h3.st (i := r) (by omega) (by omega) y (J := fun t => t = (7, j, c)) rfl
  have O1 := h1.fr F1 (t3_ne (by decide))
  have D1 := hD.fr F1 (t3_ne (by decide)) (t3_ne (by decide))
  obtain ⟨w', e3, F3, D3⟩ := D1.insert hN hy hj hc (F1.2.2.2 x hR) (J := fun t => t = (8, j, c) ∨ t = (9, j, c)) (Or.inl rfl) (Or.inr rfl)
  have O3 := O1.fr F3 (fun z => z.elim (t3_ne (by decide)) (t3_ne (by decide)))
  have A3 := A1.fr F3 (fun z => z.elim (t3_ne (by decide)) (t3_ne (by decide)))
  obtain ⟨-, en, g0, hO, -⟩ := id D1
  refine ⟨w', ?_, (F1.mono (fun t e => by rw [e]; exact hJ _ (by decide))).trans (F3.mono (fun t e => by rcases e with rfl | rfl <;> exact hJ _ (by decide))), ⟨O3, by omega, _, A3, fun i hi => ?_⟩, D3⟩
  · unfold X1_put_f X1_put
    rw [ob_e (gfR_o h1.2.2 rfl), ob_e e1, ob_e (gfR_o O1.2.2 rfl), ob_e (gcl_o hO.2.2), ob_e e3]
  · unfold upd
    by_cases hrn : i = r
    · rw [if_pos hrn, if_pos hrn]
    · rw [if_neg hrn, if_neg hrn]
      exact h4 i hi
theorem RC.move {E : gE} {w : gWd} {a j c n r s : Nat} {v : Nat → Int32} {f : Nat → Bool} (h : RC E w a j c n v f) (hr : r < n) (hs : s < n) {J : Nat × Nat × Nat → Prop} (hJ : ∀ κ, 6 ≤ κ → J (κ, j, c)) :
    ∃ w' : gWd, X1_move_f E a (nI r) (nI s) w.1 = some w'.1 ∧ FS E J w w' ∧ RC E w' a j c n (upd v s (v r)) f := by
  obtain ⟨⟨h1, h2, g, h3, h4⟩, hD⟩ := h
  obtain ⟨e1, A1, F1⟩ := h3.st (i := s) (by omega) (by omega) (v r) (J := fun t => t = (7, j, c)) rfl
  have O1 := h1.fr F1 (t3_ne (by decide))
  have D1 := hD.fr F1 (t3_ne (by decide)) (t3_ne (by decide))
  refine ⟨_, ?_, F1.mono (fun t e => by rw [e]; exact hJ _ (by decide)), ⟨O1, by omega, _, A1, fun i hi => ?_⟩, D1⟩
  · unfold X1_move_f X1_move
    rw [ob_e (gfR_o h1.2.2 rfl), ob_e (gfR_o h1.2.2 rfl), ob_e (h3.2.2.ld (show r < 60 by omega) (by omega)), h4 r hr, ob_e e1]
  · unfold upd
    by_cases hrn : i = s
    · rw [if_pos hrn, if_pos hrn]
    · rw [if_neg hrn, if_neg hrn]
      exact h4 i hi
theorem RC.shorten {E : gE} {w : gWd} {a j c n m : Nat} {v : Nat → Int32} {f : Nat → Bool} (h : RC E w a j c n v f) (hm : m ≤ n) {J : Nat × Nat × Nat → Prop} (hJ : ∀ κ, 6 ≤ κ → J (κ, j, c)) :
    ∃ w' : gWd, X1_shorten_f E a (nI m) w.1 = some w'.1 ∧ FS E J w w' ∧ RC E w' a j c m v f := by
  obtain ⟨⟨h1, h2, g, h3, h4⟩, hD⟩ := h
  obtain ⟨e1, O1, F1⟩ := h1.put (E := E) 2 (.int (nI m)) (Nat.le_of_ble_eq_true rfl) (J := fun t => t = (6, j, c)) rfl
  have D1 := hD.fr F1 (t3_ne (by decide)) (t3_ne (by decide))
  have A1 := h3.fr F1 (t3_ne (by decide))
  refine ⟨_, ?_, F1.mono (fun t e => by rw [e]; exact hJ _ (by decide)), ⟨O1, by omega, g, A1, fun i hi => h4 i (by omega)⟩, D1⟩
  unfold X1_shorten_f X1_shorten
  rw [ob_e e1]
/-- the values that occur in the first n rows -/
def dcol (v : Nat → Int32) : Nat → Nat → Bool
  | 0 => fun _ => false
  | r + 1 => dins (dcol v r) (px (v r))
theorem dcol_iff (v : Nat → Int32) (p : Nat) : ∀ n, dcol v n p = true ↔ ∃ r, r < n ∧ px (v r) = p
  | 0 => by simp [dcol]
  | n + 1 => by
    have ih := dcol_iff v p n
    unfold dcol dins
    by_cases h : p = px (v n)
    · rw [if_pos h]
      exact ⟨fun _ => ⟨n, by omega, h.symm⟩, fun _ => rfl⟩
    · rw [if_neg h, ih]
      constructor
      · rintro ⟨r, h1, h2⟩
        exact ⟨r, by omega, h2⟩
      · rintro ⟨r, h1, h2⟩
        by_cases hr : r = n
        · exact absurd (by rw [← h2, hr]) h
        · exact ⟨r, by omega, h2⟩
theorem col_loop {E : gE} {a b j c j' c' n : Nat} {v : Nat → Int32} (hN : 100000 ≤ gN E) (hv : ∀ r, r < n → vIn (v r)) (hj : j' < 11) (hc : c' < 6) {J : Nat × Nat × Nat → Prop} (hJ : ∀ κ, 6 ≤ κ → J (κ, j', c')) : ∀ (k r m : Nat) (w : gWd) (x : Nat), r + k = n → k < m → RM E w x → RV E w a j c n v → RD E w b j' c' (dcol v r) →
    ∃ w' : gWd, X1_collectInto_6 E m a b (nI r) w.1 = some w'.1 ∧ FS E J w w' ∧ RV E w' a j c n v ∧ RD E w' b j' c' (dcol v n) := by
  intro k
  induction k with
  | zero =>
    intro r m w x hr hm hR h hD
    obtain ⟨m, rfl⟩ : ∃ q, m = q + 1 := ⟨m - 1, by omega⟩
    have h2 := h.2.1
    refine ⟨w, ?_, FS.rf, h, by rw [show n = r by omega]; exact hD⟩
    show X1_collectInto_6_s E (X1_collectInto_6 E m) a b (nI r) w.1 = _
    unfold X1_collectInto_6_s
    rw [ob_e (gfI_o h.1.2.2 rfl), if_pos (nI_le (by omega) (by omega))]
  | succ k ih =>
    intro r m w x hr hm hR h hD
    obtain ⟨m, rfl⟩ : ∃ q, m = q + 1 := ⟨m - 1, by omega⟩
    have h2 := h.2.1
    obtain ⟨w1, e1, F1, D1⟩ := hD.insert hN (hv r (by omega)) hj hc hR (J := fun t => t = (8, j', c') ∨ t = (9, j', c')) (Or.inl rfl) (Or.inr rfl)
    have V1 := h.fr F1 (fun z => z.elim (fun e => by cases congrArg Prod.fst e) (fun e => by cases congrArg Prod.fst e)) (fun z => z.elim (fun e => by cases congrArg Prod.fst e) (fun e => by cases congrArg Prod.fst e))
    obtain ⟨w', e2, F2, V2, D2⟩ := ih (r + 1) m w1 x (by omega) (by omega) (F1.2.2.2 x hR) V1 D1
    obtain ⟨-, en, g0, hO, -⟩ := id hD
    refine ⟨w', ?_, (F1.mono (fun t e => by rcases e with rfl | rfl <;> exact hJ _ (by decide))).trans F2, V2, D2⟩
    show X1_collectInto_6_s E (X1_collectInto_6 E m) a b (nI r) w.1 = _
    unfold X1_collectInto_6_s
    rw [ob_e (gfI_o h.1.2.2 rfl), if_neg (nI_ge (by omega) (by omega)), ob_e (gfR_o h.1.2.2 rfl), ob_e (h.ld (by omega)), ob_e (gcl_o hO.2.2), ob_e e1, ← nI_succ]
    exact e2
theorem RV.collect {E : gE} {w : gWd} {a b j c j' c' n x : Nat} {v : Nat → Int32} {f : Nat → Bool} (hN : 100000 ≤ gN E) (h : RV E w a j c n v) (hD : RD E w b j' c' f) (hv : ∀ r, r < n → vIn (v r)) (hj : j' < 11) (hc : c' < 6) (hR : RM E w x) {J : Nat × Nat × Nat → Prop} (hJ : ∀ κ, 6 ≤ κ → J (κ, j', c')) :
    ∃ w' : gWd, X1_collectInto_f E a b w.1 = some w'.1 ∧ FS E J w w' ∧ RV E w' a j c n v ∧ RD E w' b j' c' (dcol v n) := by
  have h2 := h.2.1
  obtain ⟨w1, e1, F1, hw1, D1⟩ := hD.clear (J := fun t => t = (8, j', c')) rfl
  have V1 := h.fr F1 (fun e => by cases congrArg Prod.fst e) (fun e => by cases congrArg Prod.fst e)
  obtain ⟨w', e2, F2, V2, D2⟩ := col_loop hN hv hj hc hJ n 0 (gN E) w1 x (by omega) (by omega) (F1.2.2.2 x hR) V1 D1
  obtain ⟨-, en, g0, hO, -⟩ := id hD
  refine ⟨w', ?_, (F1.mono (fun t e => by rw [e]; exact hJ _ (by decide))).trans F2, V2, D2⟩
  unfold X1_collectInto_f X1_collectInto
  rw [ob_e (gcl_o hO.2.2), ob_e e1]
  exact e2
theorem RC.drop {E : gE} {w : gWd} {a j c n x : Nat} {v : Nat → Int32} {f : Nat → Bool} (hN : 100000 ≤ gN E) (h : RC E w a j c n v f) (hv : ∀ r, r < n → vIn (v r)) (hj : j < 11) (hc : c < 6) (hR : RM E w x) {J : Nat × Nat × Nat → Prop} (hJ : ∀ κ, 6 ≤ κ → J (κ, j, c)) :
    ∃ w' : gWd, X1_dropStale_f E a w.1 = some w'.1 ∧ FS E J w w' ∧ RC E w' a j c n v (dcol v n) := by
  obtain ⟨w', e2, F2, V2, D2⟩ := h.1.collect hN h.2 hv hj hc hR hJ
  refine ⟨w', ?_, F2, V2, D2⟩
  unfold X1_dropStale_f X1_dropStale
  rw [ob_e (gfR_o h.1.1.2.2 rfl), ob_e (gcl_o h.1.1.2.2), ob_e e2]
theorem RC.copy {E : gE} {w : gWd} {a b j c j' c' n n' x : Nat} {v v' : Nat → Int32} {f f' : Nat → Bool} (hne : ¬ (j', c') = (j, c)) (h : RC E w a j c n v f) (h' : RC E w b j' c' n' v' f') (hj : j < 11) (hc : c < 6) (hR : RM E w x) {J : Nat × Nat × Nat → Prop} (hJ : ∀ κ, 6 ≤ κ → J (κ, j, c)) :
    ∃ w' : gWd, X1_copyFrom_f E a b w.1 = some w'.1 ∧ FS E J w w' ∧ RC E w' a j c n' v' f' := by
  obtain ⟨⟨h1, h2, g, h3, h4⟩, hD⟩ := h
  obtain ⟨⟨h1', h2', g', h3', h4'⟩, hD'⟩ := h'
  have hx : ∀ κ κ' : Nat, ¬ ((κ, j', c') : Nat × Nat × Nat) = (κ', j, c) := fun κ κ' e => hne (congrArg Prod.snd e)
  obtain ⟨e1, A1, F1⟩ := ArI.cp (J := fun t => t = (7, j, c)) (sp := 0) (dp := 0) (n := n') h3' h3 (by omega) (by omega) (by omega) (by omega) rfl
  have O1 := h1.fr F1 (t3_ne (by decide))
  have D1 := hD.fr F1 (t3_ne (by decide)) (t3_ne (by decide))
  have O1' := h1'.fr F1 (hx _ _)
  have D1' := hD'.fr F1 (hx _ _) (hx _ _)
  obtain ⟨e2, O2, F2⟩ := O1.put (E := E) 2 (.int (nI n')) (Nat.le_of_ble_eq_true rfl) (J := fun t => t = (6, j, c)) rfl
  have A2 := A1.fr F2 (t3_ne (by decide))
  have D2 := D1.fr F2 (t3_ne (by decide)) (t3_ne (by decide))
  have O2' := O1'.fr F2 (hx _ _)
  have D2' := D1'.fr F2 (hx _ _) (hx _ _)
  obtain ⟨w', e3, F3, D3⟩ := D2.copy hne D2' hj hc (F2.2.2.2 x (F1.2.2.2 x hR)) (J := fun t => t = (8, j, c) ∨ t = (9, j, c)) (Or.inl rfl) (Or.inr rfl)
  have O3 := O2.fr F3 (fun z => z.elim (t3_ne (by decide)) (t3_ne (by decide)))
  have A3 := A2.fr F3 (fun z => z.elim (t3_ne (by decide)) (t3_ne (by decide)))
  obtain ⟨-, en, g0, hO, -⟩ := id D2
  refine ⟨w', ?_, (F1.mono (fun t e => by rw [e]; exact hJ _ (by decide))).trans ((F2.mono (fun t e => by rw [e]; exact hJ _ (by decide))).trans (F3.mono (fun t e => by rcases e with rfl | rfl <;> exact hJ _ (by decide)))), ⟨O3, h2', _, A3, fun r hr => ?_⟩, D3⟩
  · unfold X1_copyFrom_f X1_copyFrom
    rw [ob_e (gfR_o h1'.2.2 rfl), ob_e (gfR_o h1.2.2 rfl), ob_e (gfI_o h1'.2.2 rfl)]
    refine (ob_e e1).trans ?_
    rw [ob_e (gfI_o O1'.2.2 rfl), ob_e e2, ob_e (gfR_o O2.2.2 rfl), ob_e (gfR_o O2'.2.2 rfl), ob_e (gcl_o hO.2.2), ob_e e3]
  · simp only [va_cpy, Nat.zero_add, Nat.zero_le, true_and, Nat.sub_zero]
    rw [if_pos hr]
    exact h4' r hr
