/-! pure: dictionaries are written -/
theorem tg_ne {j c : Nat} : ¬ ((8, j, c) : Nat × Nat × Nat) = (9, j, c) := by simp
theorem tg_ne' {j c : Nat} : ¬ ((9, j, c) : Nat × Nat × Nat) = (8, j, c) := by simp
theorem ins54 {E : gE} {w : gWd} {a j c en n m cap : Nat} {g : Nat → Int32} {v : Int32} (h1 : Ob w (8, j, c) a 2 [.ref en, .int (nI n)]) (h2 : ArI E w (9, j, c) en cap g) (hn : n < cap) (hm : m ≤ n) (hcap : cap ≤ 32768) {J : Nat × Nat × Nat → Prop} (hJ8 : J (8, j, c)) (hJ9 : J (9, j, c)) :
    ∃ w' : gWd, X3_insert_54 E a v (nI m) w.1 = some w'.1 ∧ FS E J w w' ∧ w'.2 = w.2 ∧ Ob w' (8, j, c) a 2 [.ref en, .int (nI (n + 1))] ∧ ArI E w' (9, j, c) en cap (upd (va_cpy g g m (m + 1) (n - m)) m v) := by
  obtain ⟨e1, A1, F1⟩ := ArI.cp (J := fun t => t = (9, j, c)) (sp := m) (dp := m + 1) (n := n - m) h2 h2 (by omega) (by omega) (by omega) (by omega) rfl
  have O1 := h1.fr F1 tg_ne
  obtain ⟨e2, A2, F2⟩ := A1.st (i := m) (by omega) (by omega) v (J := fun t => t = (9, j, c)) rfl
  have O2 := O1.fr F2 tg_ne
  obtain ⟨e3, O3, F3⟩ := O2.put (E := E) 1 (.int (nI (n + 1))) (Nat.le_of_ble_eq_true rfl) (J := fun t => t = (8, j, c)) rfl
  have A3 := A2.fr F3 tg_ne'
  refine ⟨_, ?_, (F1.mono (fun t e => by rw [e]; exact hJ9)).trans ((F2.mono (fun t e => by rw [e]; exact hJ9)).trans (F3.mono (fun t e => by rw [e]; exact hJ8))), rfl, O3, A3⟩
  unfold X3_insert_54
  rw [ob_e (gfR_o h1.2.2 rfl), ob_e (gfR_o h1.2.2 rfl), ob_e (gfI_o h1.2.2 rfl), ← nI_succ, nI_sub hm, ob_e e1, ob_e (gfR_o O1.2.2 rfl), ob_e e2, ob_e (gfI_o O2.2.2 rfl), ← nI_succ, ob_e e3]
theorem RD.insert {E : gE} {w : gWd} {a j c x : Nat} {f : Nat → Bool} {v : Int32} (hN : 100000 ≤ gN E) (h : RD E w a j c f) (hv : vIn v) (hj : j < 11) (hc : c < 6) (hR : RM E w x) {J : Nat × Nat × Nat → Prop} (hJ8 : J (8, j, c)) (hJ9 : J (9, j, c)) :
    ∃ w' : gWd, X3_insert_f E a v w.1 = some w'.1 ∧ FS E J w w' ∧ RD E w' a j c (dins f (px v)) := by
  have hB := h.below hN v
  have hsz := ct_le h.1 (px v)
  have hs19 := dsz_le f
  obtain ⟨h0, en, g, h1, h2, h3, h4, h5⟩ := h
  have hcl := h3.le
  have heq := en_eq h5 v
  by_cases hm : dmem f v = true
  · have hz := heq.mpr hm
    have hfp : f (px v) = true := by
      unfold dmem at hm
      simp only [Bool.and_eq_true] at hm
      exact hm.2
    refine ⟨w, ?_, FS.rf, by rw [dins_same hfp]; exact ⟨h0, en, g, h1, h2, h3, h4, h5⟩⟩
    unfold X3_insert_f X3_insert
    rw [ob_e (gcl_o h1.2.2), ob_e hB, ob_e (gfI_o h1.2.2 rfl), if_neg (nI_ge hz.1 (by omega)), ob_e (gfR_o h1.2.2 rfl), ob_e (h2.2.2.ld (by omega) (by omega)), if_pos hz.2]
  · have hmf : dmem f v = false := by
      cases hq : dmem f v
      · rfl
      · exact absurd hq hm
    obtain ⟨hd1, hd2⟩ := en_ins h5 hv hmf rfl
    have hd3 := dins_ok h0 (px_lt hv)
    have hgo : ∀ k : Option gS, X3_insert_25 E a v (nI (fb_ct f (px v))) w.1 = k → X3_insert_f E a v w.1 = k := by
      intro k hk
      unfold X3_insert_f X3_insert
      rw [ob_e (gcl_o h1.2.2), ob_e hB, ob_e (gfI_o h1.2.2 rfl)]
      by_cases hlt : dsz f ≤ fb_ct f (px v)
      · rw [if_pos (nI_le hlt (by omega))]
        exact hk
      · rw [if_neg (nI_ge (by omega) (by omega)), ob_e (gfR_o h1.2.2 rfl), ob_e (h2.2.2.ld (by omega) (by omega)), if_neg (fun z => hm (heq.mp ⟨by omega, z⟩))]
        exact hk
    by_cases hfull : dsz f = w.2.2 j c
    · -- the entries are full: a row of twice the length
      have hdb := h3.dbl (by omega)
      obtain ⟨w1, e1, F1, A1, hcp, hold⟩ := grow (n := 2 * w.2.2 j c) hR hj hc (Nat.le_refl _) hdb.2 hcl.1 (J := fun t => t = (9, j, c)) rfl
      have O1 := h1.fr F1 tg_ne
      have A0 : oI E w1.1 en (w.2.2 j c) g := ⟨h2.2.2.1, by rw [hold en h2.2.1]; exact h2.2.2.2⟩
      have A0' : ArI E w1 (9, j, c) en (w.2.2 j c) g := ⟨(F1.2.1 en h2.2.1).1.trans h2.1, Nat.lt_of_lt_of_le h2.2.1 F1.1, A0⟩
      obtain ⟨e2, A2, F2⟩ := ArI.cp (J := fun t => t = (9, j, c)) (sp := 0) (dp := 0) (n := w.2.2 j c) A0' A1 (by omega) (by omega) (by omega) (by omega) rfl
      have O2 := O1.fr F2 tg_ne
      obtain ⟨e3, O3, F3⟩ := O2.put (E := E) 0 (.ref w.1.2.1) (Nat.le_of_ble_eq_true rfl) (J := fun t => t = (8, j, c)) rfl
      have A3 := A2.fr F3 tg_ne'
      obtain ⟨w', e4, F4, hw2, O4, A4⟩ := ins54 (v := v) (m := fb_ct f (px v)) (n := dsz f) O3 A3 (by omega) hsz (by omega) hJ8 hJ9
      have hcpw : w'.2.2 j c = 2 * w.2.2 j c := by rw [hw2]; exact hcp
      refine ⟨w', hgo _ ?_, (F1.mono (fun t e => by rw [e]; exact hJ9)).trans ((F2.mono (fun t e => by rw [e]; exact hJ9)).trans ((F3.mono (fun t e => by rw [e]; exact hJ8)).trans F4)), hd3, w.1.2.1, _, by rw [hd1]; exact O4, by rw [hcpw]; exact A4, by rw [hcpw]; exact hdb.1, by rw [hcpw, hd1]; omega, ?_⟩
      · have hJ7 : J7_copyOf_59c91_f E en (nI (2 * w.2.2 j c)) w.1 = some (w.1.2.1, (wUp w1 w.1.2.1 (.inl (gcy E 0, 2 * w.2.2 j c, .inl (va_cpy g (fun _ => 0) 0 0 (w.2.2 j c))))).1) := by
          unfold J7_copyOf_59c91_f J7_copyOf_59c91
          have hmin : gmin (nI (w.2.2 j c)) (nI (2 * w.2.2 j c)) = nI (w.2.2 j c) := by
            unfold gmin
            rw [if_neg (nI_nlt (by omega) (by omega))]
          rw [ob_e h2.2.2.len, if_neg (fun z => by have := (nI_eqI (by omega) (by omega)).mp z; omega), ob_e e1, ob_e A0.len, hmin]
          exact ob_e e2
        unfold X3_insert_25
        rw [ob_e (gfI_o h1.2.2 rfl), ob_e (gfR_o h1.2.2 rfl), ob_e h2.2.2.len, if_pos (by rw [hfull]), ob_e (gfR_o h1.2.2 rfl), ob_e (gfI_o h1.2.2 rfl)]
        rw [show (2 : Int32) * nI (dsz f) = nI (2 * w.2.2 j c) by rw [show (2 : Int32) = nI 2 from rfl, nI_mul, hfull], ob_e hJ7]
        dsimp only
        rw [ob_e e3]
        exact e4
      · intro i hi
        have hi2 := hd2 i hi
        rw [hd1] at hi
        obtain ⟨p, q1, q2, q3, q4⟩ := hi2
        refine ⟨p, q1, q2, q3, ?_⟩
        rw [← q4]
        by_cases hie : i = fb_ct f (px v)
        · simp [upd, hie]
        · simp only [upd, if_neg hie, va_cpy, Nat.zero_add, Nat.zero_le, true_and, Nat.sub_zero]
          by_cases hib : fb_ct f (px v) + 1 ≤ i ∧ i < fb_ct f (px v) + 1 + (dsz f - fb_ct f (px v))
          · rw [if_pos hib, if_pos hib, if_pos (by omega)]
          · rw [if_neg hib, if_neg hib, if_pos (by omega)]
    · obtain ⟨w', e4, F4, hw2, O4, A4⟩ := ins54 (v := v) (m := fb_ct f (px v)) (n := dsz f) h1 h2 (by omega) hsz hcl.2 hJ8 hJ9
      refine ⟨w', hgo _ ?_, F4, hd3, en, _, by rw [hd1]; exact O4, by rw [hw2]; exact A4, by rw [hw2]; exact h3, by rw [hw2, hd1]; omega, hd2⟩
      unfold X3_insert_25
      rw [ob_e (gfI_o h1.2.2 rfl), ob_e (gfR_o h1.2.2 rfl), ob_e h2.2.2.len, if_neg (fun z => hfull ((nI_eqI (by omega) (by omega)).mp z))]
      exact e4
theorem dsz_none : dsz (fun _ => false) = 0 := fb_ct_zero.mpr fun _ _ => rfl
theorem RD.clear {E : gE} {w : gWd} {a j c : Nat} {f : Nat → Bool} (h : RD E w a j c f) {J : Nat × Nat × Nat → Prop} (hJ8 : J (8, j, c)) :
    ∃ w' : gWd, X3_clear_f E a w.1 = some w'.1 ∧ FS E J w w' ∧ w'.2 = w.2 ∧ RD E w' a j c (fun _ => false) := by
  obtain ⟨h0, en, g, h1, h2, h3, h4, h5⟩ := h
  obtain ⟨e1, O1, F1⟩ := h1.put (E := E) 1 (.int 0) (Nat.le_of_ble_eq_true rfl) (J := fun t => t = (8, j, c)) rfl
  have A1 := h2.fr F1 tg_ne'
  refine ⟨_, ?_, F1.mono (fun t e => by rw [e]; exact hJ8), rfl, fun _ _ => rfl, en, g, by rw [dsz_none]; exact O1, A1, h3, by rw [dsz_none]; exact Nat.zero_le _, fun i hi => by rw [dsz_none] at hi; omega⟩
  unfold X3_clear_f X3_clear
  rw [ob_e e1]
theorem cpF23 {E : gE} {w : gWd} {a b j c j' c' en en' n cap cap' : Nat} {g g' : Nat → Int32} {z : Int32} (hne : ¬ (j', c') = (j, c)) (h1 : Ob w (8, j, c) a 2 [.ref en, .int z]) (h2 : ArI E w (9, j, c) en cap g) (h1' : Ob w (8, j', c') b 2 [.ref en', .int (nI n)]) (h2' : ArI E w (9, j', c') en' cap' g') (hn : n ≤ cap) (hn' : n ≤ cap') (hcap : cap ≤ 32768) (hcap' : cap' ≤ 32768) {J : Nat × Nat × Nat → Prop} (hJ8 : J (8, j, c)) (hJ9 : J (9, j, c)) :
    ∃ w' : gWd, X3_copyFrom_23 E a b w.1 = some w'.1 ∧ FS E J w w' ∧ w'.2 = w.2 ∧ Ob w' (8, j, c) a 2 [.ref en, .int (nI n)] ∧ ArI E w' (9, j, c) en cap (va_cpy g' g 0 0 n) := by
  obtain ⟨e1, A1, F1⟩ := ArI.cp (J := fun t => t = (9, j, c)) (sp := 0) (dp := 0) (n := n) h2' h2 (by omega) (by omega) (by omega) (by omega) rfl
  have O1 := h1.fr F1 tg_ne
  have O1' := h1'.fr F1 (by simp)
  obtain ⟨e3, O3, F3⟩ := O1.put (E := E) 1 (.int (nI n)) (Nat.le_of_ble_eq_true rfl) (J := fun t => t = (8, j, c)) rfl
  have A3 := A1.fr F3 tg_ne'
  refine ⟨_, ?_, (F1.mono (fun t e => by rw [e]; exact hJ9)).trans (F3.mono (fun t e => by rw [e]; exact hJ8)), rfl, O3, A3⟩
  unfold X3_copyFrom_23
  rw [ob_e (gfR_o h1'.2.2 rfl), ob_e (gfR_o h1.2.2 rfl), ob_e (gfI_o h1'.2.2 rfl)]
  refine (ob_e e1).trans ?_
  rw [ob_e (gfI_o O1'.2.2 rfl), ob_e e3]
theorem RD.copy {E : gE} {w : gWd} {a b j c j' c' x : Nat} {f f' : Nat → Bool} (hne : ¬ (j', c') = (j, c)) (h : RD E w a j c f) (h' : RD E w b j' c' f') (hj : j < 11) (hc : c < 6) (hR : RM E w x) {J : Nat × Nat × Nat → Prop} (hJ8 : J (8, j, c)) (hJ9 : J (9, j, c)) :
    ∃ w' : gWd, X3_copyFrom_f E a b w.1 = some w'.1 ∧ FS E J w w' ∧ RD E w' a j c f' := by
  obtain ⟨h0, en, g, h1, h2, h3, h4, h5⟩ := h
  obtain ⟨h0', en', g', h1', h2', h3', h4', h5'⟩ := h'
  have hcl := h3.le
  have hcl' := h3'.le
  have hen : ∀ g0 : Nat → Int32, enOK f' (va_cpy g' g0 0 0 (dsz f')) := by
    intro g0 i hi
    obtain ⟨p, q1, q2, q3, q4⟩ := h5' i hi
    refine ⟨p, q1, q2, q3, ?_⟩
    rw [← q4]
    simp only [va_cpy, Nat.zero_add, Nat.zero_le, true_and, Nat.sub_zero]
    rw [if_pos hi]
  by_cases hle : dsz f' ≤ w.2.2 j c
  · obtain ⟨w', e1, F1, hw2, O1, A1⟩ := cpF23 hne h1 h2 h1' h2' hle h4' hcl.2 hcl'.2 hJ8 hJ9
    refine ⟨w', ?_, F1, h0', en, _, O1, by rw [hw2]; exact A1, by rw [hw2]; exact h3, by rw [hw2]; exact hle, hen _⟩
    unfold X3_copyFrom_f X3_copyFrom
    rw [ob_e (gfR_o h1.2.2 rfl), ob_e h2.2.2.len, ob_e (gfI_o h1'.2.2 rfl), if_pos (nI_le hle (by omega))]
    exact e1
  · have hlt := capOK.lt h3 h3' (by omega)
    obtain ⟨w1, e1, F1, A1, hcp, hold⟩ := grow (n := w.2.2 j' c') hR hj hc hlt hcl'.2 hcl.1 (J := fun t => t = (9, j, c)) rfl
    have O1 := h1.fr F1 tg_ne
    have O1' := h1'.fr F1 (by simp)
    have A1' := h2'.fr F1 (by simpa using hne)
    obtain ⟨e2, O2, F2⟩ := O1.put (E := E) 0 (.ref w.1.2.1) (Nat.le_of_ble_eq_true rfl) (J := fun t => t = (8, j, c)) rfl
    have A2 := A1.fr F2 tg_ne'
    have O2' := O1'.fr F2 (by simpa using hne)
    have A2' := A1'.fr F2 (by simp)
    obtain ⟨w', e3, F3, hw2, O3, A3⟩ := cpF23 hne O2 A2 O2' A2' (by omega) h4' (by omega) (by omega) hJ8 hJ9
    have hcpw : w'.2.2 j c = w.2.2 j' c' := by rw [hw2]; exact hcp
    refine ⟨w', ?_, (F1.mono (fun t e => by rw [e]; exact hJ9)).trans ((F2.mono (fun t e => by rw [e]; exact hJ8)).trans F3), h0', w.1.2.1, _, O3, by rw [hcpw]; exact A3, by rw [hcpw]; exact h3', by rw [hcpw]; exact h4', hen _⟩
    unfold X3_copyFrom_f X3_copyFrom
    rw [ob_e (gfR_o h1.2.2 rfl), ob_e h2.2.2.len, ob_e (gfI_o h1'.2.2 rfl), if_neg (nI_ge (by omega) (by omega)), ob_e (gfR_o h1'.2.2 rfl), ob_e h2'.2.2.len, ob_e e1]
    dsimp only
    rw [ob_e e2]
    exact e3
