/-! pure: rows deleted, tables replaced, code ranges -/
theorem RS.cong {E : gE} {w : gWd} {a j : Nat} {S S' : gT} (h : RS E w a j S) (h1 : S'.1 = S.1) (h2 : S'.2.2 = S.2.2) (hc : ∀ c, c < 6 → (S'.2.1 c).1 = (S.2.1 c).1 ∧ tD S' c = tD S c ∧ ∀ r, r < (S.2.1 c).1 → tV S c r = tV S' c r) : RS E w a j S' := by
  obtain ⟨g1, g2, g4, g5⟩ := h
  refine ⟨by rw [h1]; exact g1, g2, by unfold tK tFc tFv tFd at g4 ⊢; rw [h2]; exact g4, fun c hcc => ?_⟩
  obtain ⟨q1, q2, q3⟩ := hc c hcc
  obtain ⟨p1, p2⟩ := g5 c hcc
  rw [q1, q2]
  exact ⟨p1.cong q3, p2⟩
def opSq (q r : Nat) (x : gCol) : gCol := (x.1, gsh x.2.1 q r, x.2.2)
def opDel (q : Nat) (x : gCol) : gCol := (x.1 - 1, gdel x.2.1 q, x.2.2)
theorem mapC_n {f : Nat → gCol → gCol} {m : Nat} {S : gT} : (mapC f m S).1 = S.1 := rfl
theorem mapC_mapC (f g : Nat → gCol → gCol) (m : Nat) (S : gT) : mapC f m (mapC g m S) = mapC (fun c y => f c (g c y)) m S := by
  unfold mapC
  simp only
  congr 2
  funext c
  by_cases h : c < m
  · rw [if_pos h, if_pos h, if_pos h]
  · rw [if_neg h, if_neg h, if_neg h]
theorem mapC_cong {f g : Nat → gCol → gCol} {m : Nat} {S : gT} (h : ∀ c, c < m → f c (S.2.1 c) = g c (S.2.1 c)) : mapC f m S = mapC g m S := by
  unfold mapC
  congr 2
  funext c
  by_cases hc : c < m
  · rw [if_pos hc, if_pos hc, h c hc]
  · rw [if_neg hc, if_neg hc]
theorem mapC_row {f : Nat → gCol → gCol} {S : gT} {m : Nat} (h : 0 < m) : tR (mapC f m S) = (f 0 (S.2.1 0)).1 := by
  unfold tR mapC
  simp only
  rw [if_pos h]
theorem mapC_col {f : Nat → gCol → gCol} {S : gT} {m c : Nat} (h : c < m) : (mapC f m S).2.1 c = f c (S.2.1 c) := by
  unfold mapC
  simp only
  rw [if_pos h]
theorem gsh_s {α : Type} (f : Nat → α) {q r : Nat} (h : q < r) (i : Nat) : gsh f q (r + 1) i = if i = r - 1 then f r else gsh f q r i := by
  unfold gsh
  by_cases hz : i = r - 1
  · rw [if_pos hz, if_pos (by omega), hz]
    congr 1
    omega
  · rw [if_neg hz]
    by_cases hy : q ≤ i ∧ i + 1 < r
    · rw [if_pos hy, if_pos (by omega)]
    · rw [if_neg hy, if_neg (by omega)]
theorem dr_loop {E : gE} {a j q : Nat} {S : gT} (hN : 100000 ≤ gN E) (hG : GS S) (hq : q < tR S) : ∀ (k r m : Nat) (w : gWd), r + k = tR S → q < r → k < m → RS E w a j (mapC (fun _ y => opSq q r y) S.1 S) →
    ∃ w' : gWd, X11_deleteRow_4 E m a (nI r) w.1 = some w'.1 ∧ FS E (Js j) w w' ∧ RS E w' a j (mapC (fun _ y => opDel q y) S.1 S) := by
  obtain ⟨h1, h2, h3, h4, -⟩ := hG
  have hrow : ∀ r, tR (mapC (fun _ y => opSq q r y) S.1 S) = tR S := fun r => mapC_row (by omega)
  intro k
  induction k with
  | zero =>
    intro r m w hr hqr hm h
    obtain ⟨m, rfl⟩ : ∃ q, m = q + 1 := ⟨m - 1, by omega⟩
    have hrs := h.rows
    rw [hrow] at hrs
    have hC' : ∀ c, c < S.1 → ((mapC (fun _ y => opSq q r y) S.1 S).2.1 c).1 = tR S := fun c hc => by rw [mapC_col hc]; exact h3 c hc
    obtain ⟨w1, e1, F1, R1⟩ := RS.sh (q := tR S - 1) hN h h2 (fun c hc => by rw [hC' c hc]; omega)
    refine ⟨w1, ?_, F1, ?_⟩
    · show X11_deleteRow_4_s E (X11_deleteRow_4 E m) a (nI r) w.1 = _
      unfold X11_deleteRow_4_s
      rw [ob_e h.cl, ob_e hrs, if_pos (nI_le (by omega) (by omega)), ob_e h.cl, ob_e hrs, ob_e h.cl, nI_sub1 (by omega), ob_e e1]
    · rw [mapC_n, mapC_mapC] at R1
      refine R1.cong rfl rfl (fun c hc => ?_)
      by_cases hcs : c < S.1
      · rw [tD, tD, tV, tV, mapC_col hcs, mapC_col hcs]
        refine ⟨?_, rfl, fun i hi => ?_⟩
        · show (S.2.1 c).1 - 1 = tR S - 1
          rw [h3 c hcs]
        · show gsh (S.2.1 c).2.1 q r i = gdel (S.2.1 c).2.1 q i
          have hi : i < tR S - 1 := hi
          unfold gsh gdel
          by_cases hz : i < q
          · rw [if_neg (by omega), if_pos hz]
          · rw [if_pos (by omega), if_neg hz]
      · unfold tD tV mapC
        simp only [if_neg hcs]
        exact ⟨trivial, trivial, fun _ _ => trivial⟩
  | succ k ih =>
    intro r m w hr hqr hm h
    obtain ⟨m, rfl⟩ : ∃ q, m = q + 1 := ⟨m - 1, by omega⟩
    have hrs := h.rows
    rw [hrow] at hrs
    have hC' : ∀ c, c < S.1 → ((mapC (fun _ y => opSq q r y) S.1 S).2.1 c).1 = tR S := fun c hc => by rw [mapC_col hc]; exact h3 c hc
    obtain ⟨w1, e1, F1, R1⟩ := RS.mv (r := r) (s := r - 1) hN h h2 (fun c hc => by rw [hC' c hc]; omega) (fun c hc => by rw [hC' c hc]; omega)
    have R1' : RS E w1 a j (mapC (fun _ y => opSq q (r + 1) y) S.1 S) := by
      have e : mapC (fun _ y => opMv r (r - 1) y) S.1 (mapC (fun _ y => opSq q r y) S.1 S) = mapC (fun _ y => opSq q (r + 1) y) S.1 S := by
        rw [mapC_mapC]
        refine mapC_cong (fun c hc => ?_)
        unfold opMv opSq
        simp only
        congr 2
        funext i
        rw [gsh_s _ hqr]
        unfold upd
        by_cases hz : i = r - 1
        · rw [if_pos hz, if_pos hz]
          unfold gsh
          rw [if_neg (by omega)]
        · rw [if_neg hz, if_neg hz]
      rw [← e]
      exact R1
    obtain ⟨w2, e2, F2, h2'⟩ := ih (r + 1) m w1 (by omega) (by omega) (by omega) R1'
    refine ⟨w2, ?_, F1.trans F2, h2'⟩
    show X11_deleteRow_4_s E (X11_deleteRow_4 E m) a (nI r) w.1 = _
    unfold X11_deleteRow_4_s
    rw [ob_e h.cl, ob_e hrs, if_neg (nI_ge (by omega) (by omega)), ob_e h.cl, nI_sub1 (by omega), ob_e e1, ← nI_succ]
    exact e2
theorem RS.del {E : gE} {w : gWd} {a j q : Nat} {S : gT} (hN : 100000 ≤ gN E) (h : RS E w a j S) (hG : GS S) (hq : q < tR S) :
    ∃ w' : gWd, X11_deleteRow_f E a (nI q) w.1 = some w'.1 ∧ FS E (Js j) w w' ∧ RS E w' a j (mapC (fun _ y => opDel q y) S.1 S) := by
  have h60 := hG.2.2.2.1
  have e : mapC (fun _ y => opSq q (q + 1) y) S.1 S = S := by
    have : mapC (fun _ y => opSq q (q + 1) y) S.1 S = mapC (fun _ y => y) S.1 S := by
      refine mapC_cong (fun c hc => ?_)
      unfold opSq
      congr 2
      funext i
      unfold gsh
      rw [if_neg (by omega)]
    rw [this]
    unfold mapC
    simp
  obtain ⟨w', e1, F1, R1⟩ := dr_loop (q := q) hN hG hq (tR S - (q + 1)) (q + 1) (gN E) w (by omega) (by omega) (by omega) (by rw [e]; exact h)
  refine ⟨w', ?_, F1, R1⟩
  unfold X11_deleteRow_f X11_deleteRow
  rw [← nI_succ]
  exact e1
/-- the place of the i-th that p takes -/
def kth (p : Nat → Bool) (n i : Nat) : Nat := fa_first (fun q => p q && decide (fb_ct p q = i)) n
theorem kth_ok {p : Nat → Bool} {n i : Nat} (h : i < fb_ct p n) : kth p n i < n ∧ p (kth p n i) = true ∧ fb_ct p (kth p n i) = i := by
  obtain ⟨q, h1, h2, h3⟩ := fb_ct_kth h
  have hlt : kth p n i < n := by
    by_cases hz : kth p n i < n
    · exact hz
    · exfalso
      have := fa_first_no (fun q => p q && decide (fb_ct p q = i)) n q (by unfold kth at hz; omega)
      simp [h2, h3] at this
  have := fa_first_yes (fun q => p q && decide (fb_ct p q = i)) n hlt
  simp only [Bool.and_eq_true, decide_eq_true_eq] at this
  exact ⟨hlt, this.1, this.2⟩
theorem kth_uq {p : Nat → Bool} {n q : Nat} (hq : q < n) (hp : p q = true) : kth p n (fb_ct p q) = q := by
  have h1 : fb_ct p q < fb_ct p n := by
    have a := fb_ct_mono p (show q + 1 ≤ n by omega)
    have b := fb_ct_succ p q
    rw [hp] at b
    simp only [if_true] at b
    omega
  obtain ⟨a, b, c⟩ := kth_ok h1
  exact fb_ct_kth_one b hp c
theorem sful_cong {S S' : gT} {r r' i : Nat} (h2 : S'.2.2 = S.2.2) (hv : tV S' (tFc S i) r' = tV S (tFc S i) r) : sful S' r' i = sful S r i := by
  unfold sful tFc tFv tFd
  rw [h2]
  unfold tFc at hv
  rw [hv]
theorem ssel_cong {S S' : gT} {r r' : Nat} (h2 : S'.2.2 = S.2.2) (hv : ∀ i, i < tK S → tV S' (tFc S i) r' = tV S (tFc S i) r) : ssel S' r' = ssel S r := by
  unfold ssel srej tK
  rw [h2]
  have e : fa_first (fun i => !sful S' r' i) (S.2.2.1) = fa_first (fun i => !sful S r i) (S.2.2.1) := by
    have a1 := fa_first_no (fun i => !sful S r i) S.2.2.1
    have a2 := fa_first_yes (fun i => !sful S r i) S.2.2.1
    have a3 := fa_first_le (fun i => !sful S r i) S.2.2.1
    refine fa_first_succ (fun i hi => ?_) ?_ a3
    · have := a1 i hi
      rw [sful_cong h2 (hv i (by unfold tK; omega))]
      exact this
    · by_cases hz : fa_first (fun i => !sful S r i) S.2.2.1 < S.2.2.1
      · refine Or.inl ?_
        rw [sful_cong h2 (hv _ hz)]
        exact a2 hz
      · exact Or.inr (by omega)
  rw [e]
def opKp (p : Nat → Bool) (n : Nat) (x : gCol) : gCol := (fb_ct p n, fun i => x.2.1 (kth p n i), x.2.2)
theorem ds_loop {E : gE} {a j : Nat} {S : gT} (hN : 100000 ≤ gN E) (hG : GS S) : ∀ (k r m : Nat) (w : gWd) (V : Nat → Nat → Int32), r + k = tR S → k < m → RS E w a j (mapC (fun c y => (y.1, V c, y.2.2)) S.1 S) →
    (∀ c i, c < S.1 → i < fb_ct (fun q => !ssel S q) r → V c i = tV S c (kth (fun q => !ssel S q) (tR S) i)) → (∀ c i, c < S.1 → r ≤ i → i < tR S → V c i = tV S c i) → (∀ c i, c < S.1 → i < tR S → ∃ i', i' < tR S ∧ V c i = tV S c i') →
    ∃ w' : gWd, X11_deleteSelectedRows_4 E m a (nI (fb_ct (fun q => !ssel S q) r)) (nI r) w.1 = some (nI (tR S - fb_ct (fun q => !ssel S q) (tR S)), w'.1) ∧ FS E (Js j) w w' ∧ RS E w' a j (mapC (fun _ y => opKp (fun q => !ssel S q) (tR S) y) S.1 S) := by
  have hG0 := hG
  obtain ⟨h1, h2, h3, h4, h5, h6, h7⟩ := hG
  have hrow : ∀ V : Nat → Nat → Int32, tR (mapC (fun c y => (y.1, V c, y.2.2)) S.1 S) = tR S := fun V => mapC_row (by omega)
  have hC' : ∀ (V : Nat → Nat → Int32) c, c < S.1 → ((mapC (fun c y => (y.1, V c, y.2.2)) S.1 S).2.1 c).1 = tR S := fun V c hc => by rw [mapC_col hc]; exact h3 c hc
  intro k
  induction k with
  | zero =>
    intro r m w V hr hm h ha hb hd
    obtain ⟨m, rfl⟩ : ∃ q, m = q + 1 := ⟨m - 1, by omega⟩
    have hrs := h.rows
    rw [hrow] at hrs
    have hrn : r = tR S := by omega
    subst hrn
    have hle := fb_ct_le (fun q => !ssel S q) (tR S)
    obtain ⟨w1, e1, F1, R1⟩ := RS.sh (q := fb_ct (fun q => !ssel S q) (tR S)) hN h h2 (fun c hc => by rw [hC' V c hc]; exact hle)
    refine ⟨w1, ?_, F1, ?_⟩
    · show X11_deleteSelectedRows_4_s E (X11_deleteSelectedRows_4 E m) a _ (nI (tR S)) w.1 = _
      unfold X11_deleteSelectedRows_4_s
      rw [ob_e h.cl, ob_e hrs, if_pos (nI_le (by omega) (by omega)), ob_e h.cl, ob_e hrs, ob_e h.cl, ob_e e1, nI_sub hle]
    · rw [mapC_n, mapC_mapC] at R1
      refine R1.cong rfl rfl (fun c hc => ?_)
      by_cases hcs : c < S.1
      · rw [tD, tD, tV, tV, mapC_col hcs, mapC_col hcs]
        exact ⟨rfl, rfl, fun i hi => ha c i hcs hi⟩
      · unfold tD tV mapC
        simp only [if_neg hcs]
        exact ⟨trivial, trivial, fun _ _ => trivial⟩
  | succ k ih =>
    intro r m w V hr hm h ha hb hd
    obtain ⟨m, rfl⟩ : ∃ q, m = q + 1 := ⟨m - 1, by omega⟩
    have hrs := h.rows
    rw [hrow] at hrs
    have hle := fb_ct_le (fun q => !ssel S q) r
    have hG1 : GS (mapC (fun c y => (y.1, V c, y.2.2)) S.1 S) := by
      refine ⟨h1, h2, fun c hc => ?_, by rw [hrow]; exact h4, fun c i hc hi => ?_, h6, h7⟩
      · rw [hrow]
        exact hC' V c hc
      · rw [hrow] at hi
        obtain ⟨i', q1, q2⟩ := hd c i hc hi
        rw [tV, tD, mapC_col (show c < S.1 from hc)]
        show vIn (V c i) ∧ (S.2.1 c).2.2 (px (V c i)) = true
        rw [q2]
        exact h5 c i' hc q1
    have hs := h.sel hN hG1 (r := r) (by rw [hrow]; omega)
    have hse : ssel (mapC (fun c y => (y.1, V c, y.2.2)) S.1 S) r = ssel S r := by
      refine ssel_cong rfl (fun i hi => ?_)
      rw [tV, mapC_col (h7 i hi).1]
      exact hb _ r (h7 i hi).1 (Nat.le_refl _) (by omega)
    rw [hse] at hs
    have hct := fb_ct_succ (fun q => !ssel S q) r
    cases hsr : ssel S r with
    | true =>
      rw [hsr] at hs hct
      simp only [Bool.not_true, Bool.false_eq_true, if_false, Nat.add_zero] at hct
      obtain ⟨w2, e2, F2, R2⟩ := ih (r + 1) m w V (by omega) (by omega) h (by rw [hct]; exact ha) (fun c i hc hi hi2 => hb c i hc (by omega) hi2) hd
      refine ⟨w2, ?_, F2, R2⟩
      show X11_deleteSelectedRows_4_s E (X11_deleteSelectedRows_4 E m) a _ (nI r) w.1 = _
      unfold X11_deleteSelectedRows_4_s X11_deleteSelectedRows_29
      rw [ob_e h.cl, ob_e hrs, if_neg (nI_ge (by omega) (by omega)), ob_e h.cl, ob_e hs, if_neg (by decide), ← nI_succ, ← hct]
      exact e2
    | false =>
      rw [hsr] at hs hct
      simp only [Bool.not_false, if_true] at hct
      obtain ⟨w1, e1, F1, R1⟩ := RS.mv (r := r) (s := fb_ct (fun q => !ssel S q) r) hN h h2 (fun c hc => by rw [hC' V c hc]; omega) (fun c hc => by rw [hC' V c hc]; omega)
      have e : mapC (fun _ y => opMv r (fb_ct (fun q => !ssel S q) r) y) S.1 (mapC (fun c y => (y.1, V c, y.2.2)) S.1 S) = mapC (fun c y => (y.1, upd (V c) (fb_ct (fun q => !ssel S q) r) (V c r), y.2.2)) S.1 S := by
        rw [mapC_mapC]
        rfl
      have R1' : RS E w1 a j (mapC (fun c y => (y.1, upd (V c) (fb_ct (fun q => !ssel S q) r) (V c r), y.2.2)) S.1 S) := by
        rw [← e]
        exact R1
      obtain ⟨w2, e2, F2, R2⟩ := ih (r + 1) m w1 (fun c => upd (V c) (fb_ct (fun q => !ssel S q) r) (V c r)) (by omega) (by omega) R1'
        (fun c i hc hi => by
          rw [hct] at hi
          unfold upd
          by_cases hz : i = fb_ct (fun q => !ssel S q) r
          · rw [if_pos hz, hz, kth_uq (p := fun q => !ssel S q) (by omega) (by rw [hsr]; rfl)]
            exact hb c r hc (Nat.le_refl _) (by omega)
          · rw [if_neg hz]
            exact ha c i hc (by omega))
        (fun c i hc hi hi2 => by
          unfold upd
          rw [if_neg (by omega)]
          exact hb c i hc (by omega) hi2)
        (fun c i hc hi => by
          unfold upd
          by_cases hz : i = fb_ct (fun q => !ssel S q) r
          · rw [if_pos hz]
            exact hd c r hc (by omega)
          · rw [if_neg hz]
            exact hd c i hc hi)
      refine ⟨w2, ?_, F1.trans F2, R2⟩
      show X11_deleteSelectedRows_4_s E (X11_deleteSelectedRows_4 E m) a _ (nI r) w.1 = _
      unfold X11_deleteSelectedRows_4_s X11_deleteSelectedRows_29
      rw [ob_e h.cl, ob_e hrs, if_neg (nI_ge (by omega) (by omega)), ob_e h.cl, ob_e hs, if_pos (by decide), ob_e h.cl, ob_e e1, ← nI_succ, ← nI_succ, ← hct]
      exact e2
theorem RS.delsel {E : gE} {w : gWd} {a j : Nat} {S : gT} (hN : 100000 ≤ gN E) (h : RS E w a j S) (hG : GS S) :
    ∃ w' : gWd, X11_deleteSelectedRows_f E a w.1 = some (nI (tR S - fb_ct (fun q => !ssel S q) (tR S)), w'.1) ∧ FS E (Js j) w w' ∧ RS E w' a j (mapC (fun _ y => opKp (fun q => !ssel S q) (tR S) y) S.1 S) := by
  have h60 := hG.2.2.2.1
  have e : mapC (fun c y => (y.1, tV S c, y.2.2)) S.1 S = S := by
    unfold mapC tV
    simp
  exact ds_loop hN hG (tR S) 0 (gN E) w (tV S) (by omega) (by omega) (by rw [e]; exact h) (fun c i hc hi => by simp [fb_ct] at hi) (fun _ _ _ _ _ => rfl) (fun c i hc hi => ⟨i, hi, rfl⟩)
