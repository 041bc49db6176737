/-! pure: the input's tokens -/
theorem sb_dig : ∀ b, 48 ≤ b → b ≤ 57 → sb b = nI b := by
  intro b h1 h2
  have := sb_tab b (by omega)
  rw [if_pos (by omega)] at this
  exact this
theorem kd_dig {u : Nat → Nat} {L p : Nat} (h : kd u L p = 3) : p < L ∧ 48 ≤ u p ∧ u p ≤ 57 := by
  unfold kd bk at h
  by_cases hp : p < L
  · rw [if_pos hp] at h
    refine ⟨hp, ?_⟩
    repeat' split at h
    all_goals omega
  · rw [if_neg hp] at h
    cases h
theorem kd_lt {u : Nat → Nat} {L p : Nat} (h : kd u L p ≠ 0) (hp : p ≤ L) : p < L := by
  have := (kd_end (u := u) hp)
  by_cases hz : p = L
  · exact absurd (this.mpr hz) h
  · omega
theorem nx108 {E : gE} {a n s : Nat} {u : Nat → Nat} {L F : Nat} (hs : s ≤ L) (hF : F = if kd u L s = 2 ∨ kd u L s = 3 then L else min (s + 1) L) : ∀ (t i m : Nat) (w : gWd), F - (s + i) ≤ t → t < m → s + i ≤ F → (∀ j, j < i → kd u L (s + j) = kd u L s) → RI E w a n u L (kd u L s) s (s + i) (if kd u L s = 3 then dg u s i else 0) →
    ∃ w' : gWd, X6_next_108 E m a (nI F) w.1 = some w'.1 ∧ FS E J22 w w' ∧ RI E w' a n u L (kd u L s) s (tE u L s) (tNum u L s) := by
  have hFL : F ≤ L := by rw [hF]; split <;> omega
  have fin : ∀ i, s + i ≤ F → (∀ j, j < i → kd u L (s + j) = kd u L s) → (s + i = F ∨ kd u L (s + i) ≠ kd u L s) → tE u L s = s + i := by
    intro i h1 h2 h3
    unfold tE
    by_cases hk : kd u L s = 2 ∨ kd u L s = 3
    · rw [if_pos hk]
      rw [if_pos hk] at hF
      congr 1
      refine fa_first_succ (fun j hj => by simp [h2 j hj]) ?_ (by omega)
      rcases h3 with h3 | h3
      · exact Or.inr (by omega)
      · exact Or.inl (by simp [h3])
    · rw [if_neg hk]
      rw [if_neg hk] at hF
      rcases h3 with h3 | h3
      · omega
      · by_cases hi : i = 0
        · rw [hi] at h3
          exact absurd rfl h3
        · omega
  intro t
  induction t with
  | zero =>
    intro i m w ht hm hi hj h
    obtain ⟨m, rfl⟩ : ∃ q, m = q + 1 := ⟨m - 1, by omega⟩
    have h7 := h.2.1
    have h8 := h.2.2.2.1
    have he := fin i hi hj (Or.inl (by omega))
    refine ⟨w, ?_, FS.rf, ?_⟩
    · show X6_next_108_s E (X6_next_108 E m) a (nI F) w.1 = _
      unfold X6_next_108_s
      rw [ob_e (gfI_o h.1.2.2 rfl), if_pos (nI_le (by omega) (by omega))]
    · unfold tNum
      rw [he, show s + i - s = i by omega]
      exact h
  | succ t ih =>
    intro i m w ht hm hi hj h
    obtain ⟨m, rfl⟩ : ∃ q, m = q + 1 := ⟨m - 1, by omega⟩
    have h7 := h.2.1
    have h8 := h.2.2.2.1
    have h6 := h.2.2.2.2
    by_cases hend : s + i = F
    · have he := fin i hi hj (Or.inl hend)
      refine ⟨w, ?_, FS.rf, ?_⟩
      · show X6_next_108_s E (X6_next_108 E m) a (nI F) w.1 = _
        unfold X6_next_108_s
        rw [ob_e (gfI_o h.1.2.2 rfl), if_pos (nI_le (by omega) (by omega))]
      · unfold tNum
        rw [he, show s + i - s = i by omega]
        exact h
    · have hk := h.kind (p := s + i) (by omega)
      have kl := kd_le u L (s + i)
      have kl2 := kd_le u L s
      by_cases hkk : kd u L (s + i) = kd u L s
      · have step : ∀ (q' : Nat) (w1 : gWd), RI E w1 a n u L (kd u L s) s (s + i) q' → q' = (if kd u L s = 3 then dg u s (i + 1) else 0) → ∃ w' : gWd, X6_next_172 E (X6_next_108 E m) a (nI F) w1.1 = some w'.1 ∧ FS E J22 w1 w' ∧ RI E w' a n u L (kd u L s) s (tE u L s) (tNum u L s) := by
          intro q' w1 h1 hq
          obtain ⟨w2, e2, F2, h2⟩ := h1.put 5 (s + (i + 1)) (by omega)
          simp only [if_true, show ¬ (5 : Nat) = 3 by decide, show ¬ (5 : Nat) = 4 by decide, show ¬ (5 : Nat) = 6 by decide, if_false] at h2
          rw [hq] at h2
          obtain ⟨w3, e3, F3, h3⟩ := ih (i + 1) m w2 (by omega) (by omega) (by omega) (fun j hjj => by
            by_cases hz : j = i
            · rw [hz]; exact hkk
            · exact hj j (by omega)) h2
          refine ⟨w3, ?_, F2.trans F3, h3⟩
          unfold X6_next_172
          rw [ob_e (gfI_o h1.1.2.2 rfl), ← nI_succ]
          rw [show s + i + 1 = s + (i + 1) by omega, ob_e e2]
          exact e3
        have hgo : ∀ k : Option gS, (if kd u L s = 3 then (if 100000 ≤ dg u s i then X6_next_172 E (X6_next_108 E m) a (nI F) w.1 else ob (gpf E w.1 a 5 6 (.int (nI (10 * dg u s i + (u (s + i) - 48))))) (fun σ => X6_next_172 E (X6_next_108 E m) a (nI F) σ)) else X6_next_172 E (X6_next_108 E m) a (nI F) w.1) = k → X6_next_108 E (m + 1) a (nI F) w.1 = k := by
          intro k hkq
          show X6_next_108_s E (X6_next_108 E m) a (nI F) w.1 = _
          unfold X6_next_108_s
          rw [ob_e (gfI_o h.1.2.2 rfl), if_neg (nI_ge (by omega) (by omega)), ob_e (gfI_o h.1.2.2 rfl), ob_e (gcl_o h.1.2.2), ob_e hk, ob_e (gfI_o h.1.2.2 rfl), if_pos (by rw [hkk]), ob_e (gfI_o h.1.2.2 rfl)]
          by_cases h3 : kd u L s = 3
          · rw [if_pos h3] at hkq
            have hdl := dg_le u s h6 i
            obtain ⟨d1, d2, d3⟩ := kd_dig (hkk.trans h3)
            rw [if_pos (by rw [h3]; rfl), ob_e (gfI_o h.1.2.2 rfl)]
            simp only [if_pos h3]
            by_cases hb : 100000 ≤ dg u s i
            · rw [if_pos hb] at hkq
              rw [if_pos (show (100000 : Int32) ≤ nI (dg u s i) from nI_le (a := 100000) hb (by omega))]
              exact hkq
            · rw [if_neg hb] at hkq
              obtain ⟨h1, h2, ⟨g, h3', h4⟩, h5, -⟩ := h
              rw [if_neg (show ¬ (100000 : Int32) ≤ nI (dg u s i) from nI_ge (b := 100000) (by omega) (by omega)), ob_e (gfI_o h1.2.2 rfl), ob_e (gfR_o h1.2.2 rfl), ob_e (gfI_o h1.2.2 rfl), ob_e (h3'.2.2.ld (show s + i < 700 by omega) (by omega)), h4 _ (by omega), sb_dig _ d2 d3]
              simp only [if_pos h3]
              have e9 : (10 : Int32) * nI (dg u s i) + nI (u (s + i)) - (48 : Int32) = nI (10 * dg u s i + (u (s + i) - 48)) := by
                rw [show (10 : Int32) = nI 10 from rfl, nI_mul, nI_add, show (48 : Int32) = nI 48 from rfl, nI_sub (by omega)]
                congr 1
                omega
              rw [e9]
              exact hkq
          · rw [if_neg h3] at hkq
            rw [if_neg (show ¬ nI (kd u L s) = (3 : Int32) from fun z => h3 ((nI_eqI (b := 3) (by omega) (by omega)).mp z))]
            exact hkq
        by_cases h3 : kd u L s = 3
        · by_cases hb : 100000 ≤ dg u s i
          · obtain ⟨w', e1, F1, h1⟩ := step _ w h (by
              rw [if_pos h3, if_pos h3]
              show _ = (if dg u s i < 100000 then _ else _)
              rw [if_neg (by omega)])
            exact ⟨w', hgo _ (by rw [if_pos h3, if_pos hb]; exact e1), F1, h1⟩
          · obtain ⟨w1, e1, F1, h1⟩ := h.put 6 (10 * dg u s i + (u (s + i) - 48)) (by omega)
            simp only [if_true, show ¬ (6 : Nat) = 3 by decide, show ¬ (6 : Nat) = 4 by decide, show ¬ (6 : Nat) = 5 by decide, if_false] at h1
            obtain ⟨w', e2, F2, h2⟩ := step _ w1 h1 (by
              rw [if_pos h3]
              show _ = (if dg u s i < 100000 then _ else _)
              rw [if_pos (by omega)])
            refine ⟨w', hgo _ ?_, F1.trans F2, h2⟩
            rw [if_pos h3, if_neg hb, ob_e e1]
            exact e2
        · obtain ⟨w', e1, F1, h1⟩ := step _ w h (by rw [if_neg h3, if_neg h3])
          exact ⟨w', hgo _ (by rw [if_neg h3]; exact e1), F1, h1⟩
      · have he := fin i hi hj (Or.inr hkk)
        refine ⟨w, ?_, FS.rf, ?_⟩
        · show X6_next_108_s E (X6_next_108 E m) a (nI F) w.1 = _
          unfold X6_next_108_s
          rw [ob_e (gfI_o h.1.2.2 rfl), if_neg (nI_ge (by omega) (by omega)), ob_e (gfI_o h.1.2.2 rfl), ob_e (gcl_o h.1.2.2), ob_e hk, ob_e (gfI_o h.1.2.2 rfl), if_neg (fun z => hkk ((nI_eqI (by omega) (by omega)).mp z))]
        · unfold tNum
          rw [he, show s + i - s = i by omega]
          exact h
theorem nx36 {E : gE} {a n k s0 s q : Nat} {u : Nat → Nat} {L : Nat} {w : gWd} (hN : 100000 ≤ gN E) (h : RI E w a n u L k s0 s q) (hs : s ≤ L) (hk1 : kd u L s ≠ 1) :
    ∃ w' : gWd, X6_next_36 E a w.1 = some w'.1 ∧ FS E J22 w w' ∧ RT E w' a n u L s := by
  have h7 := h.2.1
  have h8 := h.2.2.2.1
  have kl := kd_le u L s
  obtain ⟨w1, e1, F1, h1⟩ := h.put 4 s (by omega)
  simp only [if_true, show ¬ (4 : Nat) = 3 by decide, show ¬ (4 : Nat) = 5 by decide, show ¬ (4 : Nat) = 6 by decide, if_false] at h1
  have hk := h1.kind (p := s) (by omega)
  obtain ⟨w2, e2, F2, h2⟩ := h1.put 3 (kd u L s) (by omega)
  simp only [if_true, show ¬ (3 : Nat) = 4 by decide, show ¬ (3 : Nat) = 5 by decide, show ¬ (3 : Nat) = 6 by decide, if_false] at h2
  obtain ⟨w3, e3, F3, h3⟩ := h2.put 6 0 (by omega)
  simp only [if_true, show ¬ (6 : Nat) = 3 by decide, show ¬ (6 : Nat) = 4 by decide, show ¬ (6 : Nat) = 5 by decide, if_false] at h3
  have h3' : RI E w3 a n u L (kd u L s) s (s + 0) (if kd u L s = 3 then dg u s 0 else 0) := by
    have : (if kd u L s = 3 then dg u s 0 else 0) = 0 := by split <;> rfl
    rw [this]
    exact h3
  have main : ∀ F, F = (if kd u L s = 2 ∨ kd u L s = 3 then L else min (s + 1) L) → ∃ w' : gWd, X6_next_107 E a (nI F) w3.1 = some w'.1 ∧ FS E J22 w3 w' ∧ RT E w' a n u L s := by
    intro F hF
    have hsF : s ≤ F := by rw [hF]; split <;> omega
    have hFL : F ≤ L := by rw [hF]; split <;> omega
    obtain ⟨w', e4, F4, h4⟩ := nx108 (E := E) hs hF (F - s) 0 (gN E) w3 (by omega) (by omega) (by omega) (fun j hj => by omega) h3'
    exact ⟨w', e4, F4, h4, hs, hk1⟩
  have hgo : ∀ k : Option gS, (if kd u L s = 2 ∨ kd u L s = 3 then X6_next_107 E a (nI L) w3.1 else X6_next_107 E a (nI (min (s + 1) L)) w3.1) = k → X6_next_36 E a w.1 = k := by
    intro kk hkk
    unfold X6_next_36
    rw [ob_e (gfI_o h.1.2.2 rfl), ob_e e1, ob_e (gfI_o h1.1.2.2 rfl), ob_e (gcl_o h1.1.2.2), ob_e hk, ob_e e2]
    refine (ob_e e3).trans ?_
    rw [ob_e (gfI_o h3.1.2.2 rfl)]
    have yes : kd u L s = 2 ∨ kd u L s = 3 → X6_next_77 E a w3.1 = kk := by
      intro hy
      rw [if_pos hy] at hkk
      unfold X6_next_77 X6_next_82
      rw [if_neg (by decide), ob_e (gfI_o h3.1.2.2 rfl)]
      exact hkk
    by_cases a2 : kd u L s = 2
    · rw [if_pos (by rw [a2]; rfl)]
      exact yes (Or.inl a2)
    · rw [if_neg (show ¬ nI (kd u L s) = (2 : Int32) from fun z => a2 ((nI_eqI (b := 2) (by omega) (by omega)).mp z)), ob_e (gfI_o h3.1.2.2 rfl)]
      by_cases a3 : kd u L s = 3
      · rw [if_pos (by rw [a3]; rfl)]
        exact yes (Or.inr a3)
      · rw [if_neg (show ¬ nI (kd u L s) = (3 : Int32) from fun z => a3 ((nI_eqI (b := 3) (by omega) (by omega)).mp z))]
        rw [if_neg (by omega)] at hkk
        unfold X6_next_82
        rw [if_pos rfl, ob_e (gfI_o h3.1.2.2 rfl), ob_e (gfI_o h3.1.2.2 rfl), ← nI_succ, gmin_nI (by omega) (by omega)]
        exact hkk
  by_cases hy : kd u L s = 2 ∨ kd u L s = 3
  · obtain ⟨w', e4, F4, h4⟩ := main L (by rw [if_pos hy])
    exact ⟨w', hgo _ (by rw [if_pos hy]; exact e4), F1.trans (F2.trans (F3.trans F4)), h4⟩
  · obtain ⟨w', e4, F4, h4⟩ := main (min (s + 1) L) (by rw [if_neg hy])
    exact ⟨w', hgo _ (by rw [if_neg hy]; exact e4), F1.trans (F2.trans (F3.trans F4)), h4⟩
theorem nx0 {E : gE} {a n k s0 q e : Nat} {u : Nat → Nat} {L : Nat} (hN : 100000 ≤ gN E) (he : e ≤ L) : ∀ (t i m : Nat) (w : gWd), L - (e + i) ≤ t → t < m → e + i ≤ L → (∀ j, j < i → kd u L (e + j) = 1) → RI E w a n u L k s0 (e + i) q →
    ∃ w' : gWd, X6_next_0 E m a w.1 = some w'.1 ∧ FS E J22 w w' ∧ RT E w' a n u L (tS u L e) := by
  have fin : ∀ i, e + i ≤ L → (∀ j, j < i → kd u L (e + j) = 1) → (e + i = L ∨ kd u L (e + i) ≠ 1) → tS u L e = e + i := by
    intro i h1 h2 h3
    unfold tS
    congr 1
    refine fa_first_succ (fun j hj => by simp [h2 j hj]) ?_ (by omega)
    rcases h3 with h3 | h3
    · exact Or.inr (by omega)
    · exact Or.inl (by simp [h3])
  have stop : ∀ (i m : Nat) (w : gWd), e + i ≤ L → (∀ j, j < i → kd u L (e + j) = 1) → RI E w a n u L k s0 (e + i) q → (e + i = L ∨ kd u L (e + i) ≠ 1) → (∀ kk : Option gS, X6_next_36 E a w.1 = kk → X6_next_0 E m a w.1 = kk) → ∃ w' : gWd, X6_next_0 E m a w.1 = some w'.1 ∧ FS E J22 w w' ∧ RT E w' a n u L (tS u L e) := by
    intro i m w hi hj h hor hk
    have ht := fin i hi hj hor
    have hk1 : kd u L (e + i) ≠ 1 := by
      rw [← ht]
      exact tS_kd he
    obtain ⟨w', e1, F1, h1⟩ := nx36 hN h hi hk1
    exact ⟨w', hk _ e1, F1, by rw [ht]; exact h1⟩
  intro t
  induction t with
  | zero =>
    intro i m w ht hm hi hj h
    obtain ⟨m, rfl⟩ : ∃ q, m = q + 1 := ⟨m - 1, by omega⟩
    have h7 := h.2.1
    have h8 := h.2.2.2.1
    refine stop i (m + 1) w hi hj h (Or.inl (by omega)) (fun kk hkk => ?_)
    show X6_next_0_s E (X6_next_0 E m) a w.1 = _
    unfold X6_next_0_s
    rw [ob_e (gfI_o h.1.2.2 rfl), ob_e (gfI_o h.1.2.2 rfl), if_pos (nI_le (by omega) (by omega))]
    exact hkk
  | succ t ih =>
    intro i m w ht hm hi hj h
    obtain ⟨m, rfl⟩ : ∃ q, m = q + 1 := ⟨m - 1, by omega⟩
    have h7 := h.2.1
    have h8 := h.2.2.2.1
    by_cases hl : e + i = L
    · refine stop i (m + 1) w hi hj h (Or.inl hl) (fun kk hkk => ?_)
      show X6_next_0_s E (X6_next_0 E m) a w.1 = _
      unfold X6_next_0_s
      rw [ob_e (gfI_o h.1.2.2 rfl), ob_e (gfI_o h.1.2.2 rfl), if_pos (nI_le (by omega) (by omega))]
      exact hkk
    · have hk := h.kind (p := e + i) (by omega)
      have kl := kd_le u L (e + i)
      by_cases h1 : kd u L (e + i) = 1
      · obtain ⟨w1, e1, F1, R1⟩ := h.put 5 (e + (i + 1)) (by omega)
        simp only [if_true, show ¬ (5 : Nat) = 3 by decide, show ¬ (5 : Nat) = 4 by decide, show ¬ (5 : Nat) = 6 by decide, if_false] at R1
        obtain ⟨w2, e2, F2, R2⟩ := ih (i + 1) m w1 (by omega) (by omega) (by omega) (fun j hjj => by
          by_cases hz : j = i
          · rw [hz]; exact h1
          · exact hj j (by omega)) R1
        refine ⟨w2, ?_, F1.trans F2, R2⟩
        show X6_next_0_s E (X6_next_0 E m) a w.1 = _
        unfold X6_next_0_s
        rw [ob_e (gfI_o h.1.2.2 rfl), ob_e (gfI_o h.1.2.2 rfl), if_neg (nI_ge (by omega) (by omega)), ob_e (gfI_o h.1.2.2 rfl), ob_e (gcl_o h.1.2.2), ob_e hk, if_pos (by rw [h1]; rfl), ob_e (gfI_o h.1.2.2 rfl), ← nI_succ]
        rw [show e + i + 1 = e + (i + 1) by omega, ob_e e1]
        exact e2
      · refine stop i (m + 1) w hi hj h (Or.inr h1) (fun kk hkk => ?_)
        show X6_next_0_s E (X6_next_0 E m) a w.1 = _
        unfold X6_next_0_s
        rw [ob_e (gfI_o h.1.2.2 rfl), ob_e (gfI_o h.1.2.2 rfl), if_neg (nI_ge (by omega) (by omega)), ob_e (gfI_o h.1.2.2 rfl), ob_e (gcl_o h.1.2.2), ob_e hk, if_neg (show ¬ nI (kd u L (e + i)) = (1 : Int32) from fun z => h1 ((nI_eqI (b := 1) (by omega) (by omega)).mp z))]
        exact hkk
theorem RI.next {E : gE} {a n k s0 q e : Nat} {u : Nat → Nat} {L : Nat} {w : gWd} (hN : 100000 ≤ gN E) (h : RI E w a n u L k s0 e q) (he : e ≤ L) : ∃ w' : gWd, X6_next_f E a w.1 = some w'.1 ∧ FS E J22 w w' ∧ RT E w' a n u L (tS u L e) := by
  have h7 := h.2.1
  have h8 := h.2.2.2.1
  exact nx0 hN he (L - e) 0 (gN E) w (by omega) (by omega) (by omega) (fun j hj => by omega) h
theorem RT.next {E : gE} {a n s : Nat} {u : Nat → Nat} {L : Nat} {w : gWd} (hN : 100000 ≤ gN E) (h : RT E w a n u L s) : ∃ w' : gWd, X6_next_f E a w.1 = some w'.1 ∧ FS E J22 w w' ∧ RT E w' a n u L (tN u L s) :=
  h.1.next hN (tE_le h.2.1)
theorem RT.fr {E : gE} {J : Nat × Nat × Nat → Prop} {w w' : gWd} {a n L s : Nat} {u : Nat → Nat} (h : RT E w a n u L s) (hF : FS E J w w') (hJ : ∀ κ, ¬ J (κ, 22, 0)) : RT E w' a n u L s := ⟨h.1.fr hF hJ, h.2⟩
/-- a text is read from its begin -/
theorem RI.start {E : gE} {a n k s0 q e L0 : Nat} {u : Nat → Nat} {L : Nat} {w : gWd} (hN : 100000 ≤ gN E) (h : RI E w a n u L0 k s0 e q) (hL : L ≤ n) : ∃ w' : gWd, X6_startText_f E a (nI L) w.1 = some w'.1 ∧ FS E J22 w w' ∧ RT E w' a n u L (tS u L 0) := by
  obtain ⟨h1, h2, ⟨g, h3, h4⟩, h5, h6⟩ := h
  obtain ⟨e1, O1, F1⟩ := h1.put (E := E) 2 (.int (nI L)) (Nat.le_of_ble_eq_true rfl) (J := fun t => t = (10, 22, 0)) rfl
  obtain ⟨e2, O2, F2⟩ := O1.put (E := E) 5 (.int (nI 0)) (Nat.le_of_ble_eq_true rfl) (J := fun t => t = (10, 22, 0)) rfl
  have R2 : RI E _ a n u L k s0 0 q := ⟨O2, h2, ⟨g, (h3.fr F1 (t3_ne (by decide))).fr F2 (t3_ne (by decide)), h4⟩, hL, h6⟩
  obtain ⟨w3, e3, F3, R3⟩ := R2.next hN (Nat.zero_le _)
  refine ⟨w3, ?_, (F1.mono (fun t z => by rw [z])).trans ((F2.mono (fun t z => by rw [z])).trans F3), R3⟩
  unfold X6_startText_f X6_startText
  rw [ob_e (gfI_o h1.2.2 rfl), gmin_nI (by omega) (by omega), show min L n = L by omega, ob_e e1]
  refine (ob_e e2).trans ?_
  rw [ob_e (gcl_o O2.2.2), ob_e e3]
