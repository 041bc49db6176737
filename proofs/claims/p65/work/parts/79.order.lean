/-! pure: orders of rows -/
def updN (s : Nat → Nat) (i x : Nat) : Nat → Nat := fun k => if k = i then x else s k
def sIn (wr : Nat → Nat → Bool) (src : Nat) : Nat → (Nat → Nat) → (Nat → Nat)
  | 0, s => updN s 0 src
  | h + 1, s => if wr (s h) src = true then sIn wr src h (updN s (h + 1) (s h)) else updN s (h + 1) src
def sSort (wr : Nat → Nat → Bool) : Nat → (Nat → Nat)
  | 0 => fun k => k
  | m + 1 => sIn wr m m (sSort wr m)
theorem sIn_hi (wr : Nat → Nat → Bool) (src : Nat) : ∀ (h : Nat) (s : Nat → Nat) (k : Nat), h < k → sIn wr src h s k = s k
  | 0, s, k, hk => by simp [sIn, updN]; omega
  | h + 1, s, k, hk => by
    unfold sIn
    by_cases hw : wr (s h) src = true
    · rw [if_pos hw, sIn_hi wr src h _ k (by omega)]
      unfold updN
      rw [if_neg (by omega)]
    · rw [if_neg hw]
      unfold updN
      rw [if_neg (by omega)]
theorem sSort_hi (wr : Nat → Nat → Bool) : ∀ (m k : Nat), m ≤ k → sSort wr m k = k
  | 0, _, _ => rfl
  | m + 1, k, hk => by
    unfold sSort
    rw [sIn_hi wr m m _ k (by omega)]
    exact sSort_hi wr m k (by omega)
theorem sIn_lt (wr : Nat → Nat → Bool) {src n : Nat} (hs : src < n) : ∀ (h : Nat) (s : Nat → Nat), h < n → (∀ k, k < n → s k < n) → ∀ k, k < n → sIn wr src h s k < n
  | 0, s, hh, H, k, hk => by
    unfold sIn updN
    by_cases hz : k = 0
    · rw [if_pos hz]; exact hs
    · rw [if_neg hz]; exact H k hk
  | h + 1, s, hh, H, k, hk => by
    unfold sIn
    by_cases hw : wr (s h) src = true
    · rw [if_pos hw]
      refine sIn_lt wr hs h _ (by omega) (fun i hi => ?_) k hk
      unfold updN
      by_cases hz : i = h + 1
      · rw [if_pos hz]; exact H h (by omega)
      · rw [if_neg hz]; exact H i hi
    · rw [if_neg hw]
      unfold updN
      by_cases hz : k = h + 1
      · rw [if_pos hz]; exact hs
      · rw [if_neg hz]; exact H k hk
theorem sSort_lt (wr : Nat → Nat → Bool) {n : Nat} : ∀ (m : Nat), m ≤ n → ∀ k, k < n → sSort wr m k < n
  | 0, _, k, hk => hk
  | m + 1, hm, k, hk => by
    unfold sSort
    exact sIn_lt wr (by omega) m _ (by omega) (sSort_lt wr m (by omega)) k hk
theorem sIn_cong (wr : Nat → Nat → Bool) (src : Nat) : ∀ (h : Nat) (s s' : Nat → Nat), (∀ k, k < h → s k = s' k) → ∀ k, k ≤ h → sIn wr src h s k = sIn wr src h s' k
  | 0, s, s', H, k, hk => by
    unfold sIn updN
    rw [if_pos (by omega), if_pos (by omega)]
  | h + 1, s, s', H, k, hk => by
    unfold sIn
    rw [← H h (by omega)]
    by_cases hw : wr (s h) src = true
    · rw [if_pos hw, if_pos hw]
      by_cases hk2 : k ≤ h
      · refine sIn_cong wr src h _ _ (fun i hi => ?_) k hk2
        unfold updN
        rw [if_neg (by omega), if_neg (by omega)]
        exact H i (by omega)
      · rw [sIn_hi _ _ _ _ _ (by omega), sIn_hi _ _ _ _ _ (by omega)]
        unfold updN
        rw [if_pos (by omega), if_pos (by omega)]
    · rw [if_neg hw, if_neg hw]
      unfold updN
      by_cases hz : k = h + 1
      · rw [if_pos hz, if_pos hz]
      · rw [if_neg hz, if_neg hz]
        exact H k (by omega)
theorem sIn_wr {wr wr' : Nat → Nat → Bool} {src n : Nat} (hw : ∀ x, x < n → wr x src = wr' x src) (hs : src < n) : ∀ (h : Nat) (s : Nat → Nat), h < n → (∀ k, k < n → s k < n) → sIn wr src h s = sIn wr' src h s
  | 0, _, _, _ => rfl
  | h + 1, s, hh, H => by
    unfold sIn
    rw [← hw (s h) (H h (by omega))]
    by_cases hb : wr (s h) src = true
    · rw [if_pos hb, if_pos hb]
      refine sIn_wr hw hs h _ (by omega) (fun i hi => ?_)
      unfold updN
      by_cases hz : i = h + 1
      · rw [if_pos hz]; exact H h (by omega)
      · rw [if_neg hz]; exact H i hi
    · rw [if_neg hb, if_neg hb]
theorem sSort_wr {wr wr' : Nat → Nat → Bool} {n : Nat} (hw : ∀ x y, x < n → y < n → wr x y = wr' x y) : ∀ m, m ≤ n → sSort wr m = sSort wr' m
  | 0, _ => rfl
  | m + 1, hm => by
    unfold sSort
    rw [← sSort_wr hw m (by omega)]
    exact sIn_wr (fun x hx => hw x m hx (by omega)) (by omega) m _ (by omega) (sSort_lt wr m (by omega))
/-- an order of n rows at a: row s k stands at place k -/
def RO (E : gE) (w : gWd) (a n : Nat) (s : Nat → Nat) : Prop :=
  Ob w (10, 20, 0) a 8 [.ref (a + 1), .ref (a + 2), .int (nI n)] ∧ n ≤ 60 ∧ (∃ g, ArI E w (11, 20, 0) (a + 1) 60 g ∧ ∀ k, k < n → g k = nI (s k)) ∧ ∃ g, ArI E w (12, 20, 0) (a + 2) 60 g
theorem RO.fr {E : gE} {J : Nat × Nat × Nat → Prop} {w w' : gWd} {a n : Nat} {s : Nat → Nat} (h : RO E w a n s) (hF : FS E J w w') (hJ : ∀ κ, ¬ J (κ, 20, 0)) : RO E w' a n s := by
  obtain ⟨h1, h2, ⟨g, h3, h4⟩, g2, h5⟩ := h
  exact ⟨h1.fr hF (hJ _), h2, ⟨g, h3.fr hF (hJ _), h4⟩, g2, h5.fr hF (hJ _)⟩
abbrev J20 : Nat × Nat × Nat → Prop := fun t => t.2 = (20, 0)
theorem RO.src {E : gE} {w : gWd} {a n k : Nat} {s : Nat → Nat} (h : RO E w a n s) (hk : k < n) : X10_source_f E w.1 a (nI k) = some (nI (s k)) := by
  obtain ⟨h1, h2, ⟨g, h3, h4⟩, g2, h5⟩ := h
  unfold X10_source_f X10_source
  rw [ob_e (gfR_o h1.2.2 rfl), ob_e (h3.2.2.ld (show k < 60 by omega) (by omega)), h4 k hk]
theorem rs_loop {E : gE} {a n : Nat} (hn : n ≤ 60) : ∀ (k r m : Nat) (w : gWd), r + k = n → k < m → Ob w (10, 20, 0) a 8 [.ref (a + 1), .ref (a + 2), .int (nI n)] → (∃ g, ArI E w (11, 20, 0) (a + 1) 60 g ∧ ∀ i, i < r → g i = nI i) →
    ∃ w' : gWd, X10_reset_7 E m a (nI r) w.1 = some w'.1 ∧ FS E (fun t => t = (11, 20, 0)) w w' ∧ ∃ g, ArI E w' (11, 20, 0) (a + 1) 60 g ∧ ∀ i, i < n → g i = nI i := by
  intro k
  induction k with
  | zero =>
    intro r m w hr hm h1 h3
    obtain ⟨m, rfl⟩ : ∃ q, m = q + 1 := ⟨m - 1, by omega⟩
    refine ⟨w, ?_, FS.rf, by rw [show n = r by omega]; exact h3⟩
    show X10_reset_7_s E (X10_reset_7 E m) a (nI r) w.1 = _
    unfold X10_reset_7_s
    rw [ob_e (gfI_o h1.2.2 rfl), if_pos (nI_le (by omega) (by omega))]
  | succ k ih =>
    intro r m w hr hm h1 h3
    obtain ⟨m, rfl⟩ : ∃ q, m = q + 1 := ⟨m - 1, by omega⟩
    obtain ⟨g, h3, h4⟩ := h3
    obtain ⟨e1, A1, F1⟩ := h3.st (i := r) (by omega) (by omega) (nI r) (J := fun t => t = (11, 20, 0)) rfl
    obtain ⟨w', e2, F2, h6⟩ := ih (r + 1) m _ (by omega) (by omega) (h1.fr F1 (by simp)) ⟨_, A1, fun i hi => by
      unfold upd
      by_cases hz : i = r
      · rw [if_pos hz, hz]
      · rw [if_neg hz]; exact h4 i (by omega)⟩
    refine ⟨w', ?_, F1.trans F2, h6⟩
    show X10_reset_7_s E (X10_reset_7 E m) a (nI r) w.1 = _
    unfold X10_reset_7_s
    rw [ob_e (gfI_o h1.2.2 rfl), if_neg (nI_ge (by omega) (by omega)), ob_e (gfR_o h1.2.2 rfl), ob_e e1, ← nI_succ]
    exact e2
theorem RO.reset {E : gE} {w : gWd} {a n n' : Nat} {s : Nat → Nat} (hN : 100000 ≤ gN E) (h : RO E w a n s) (hn : n' ≤ 60) : ∃ w' : gWd, X10_reset_f E a (nI n') w.1 = some w'.1 ∧ FS E J20 w w' ∧ RO E w' a n' (fun k => k) := by
  obtain ⟨h1, h2, ⟨g, h3, h4⟩, g2, h5⟩ := h
  obtain ⟨e1, O1, F1⟩ := h1.put (E := E) 2 (.int (nI n')) (Nat.le_of_ble_eq_true rfl) (J := fun t => t = (10, 20, 0)) rfl
  obtain ⟨w', e2, F2, h6⟩ := rs_loop (E := E) hn n' 0 (gN E) _ (by omega) (by omega) O1 ⟨g, h3.fr F1 (by simp), fun i hi => by omega⟩
  refine ⟨w', ?_, (F1.mono (fun t e => by rw [e])).trans (F2.mono (fun t e => by rw [e])), O1.fr F2 (by simp), hn, h6, g2, (h5.fr F1 (by simp)).fr F2 (by simp)⟩
  unfold X10_reset_f X10_reset
  rw [ob_e e1]
  exact e2
/-- does x stand wrongly ahead of y -/
def gwr (asc : Bool) (x y : Int32) : Bool := if asc then decide (y < x) else decide (x < y)
theorem wr_f {E : gE} {σ : gS} {x y d : Int32} : X10_isWrong_f E σ x y d = some (if gwr (decide (¬ d = 0)) x y = true then 1 else 0) := by
  unfold X10_isWrong_f X10_isWrong gwr
  by_cases hd : d = 0
  · rw [if_pos hd]
    simp only [hd, not_true_eq_false, decide_false, Bool.false_eq_true, if_false, decide_eq_true_eq]
    by_cases h : y ≤ x
    · rw [if_pos h, if_neg]
      rw [fa_lt]
      rw [fa_le] at h
      omega
    · rw [if_neg h, if_pos]
      rw [fa_lt]
      rw [fa_le] at h
      omega
  · rw [if_neg hd]
    simp only [hd, not_false_eq_true, decide_true, if_true, decide_eq_true_eq]
    by_cases h : x ≤ y
    · rw [if_pos h, if_neg]
      rw [fa_lt]
      rw [fa_le] at h
      omega
    · rw [if_neg h, if_pos]
      rw [fa_lt]
      rw [fa_le] at h
      omega
theorem so_in {E : gE} {a b j c n p : Nat} {v : Nat → Int32} {d : Int32} {r : Nat → Nat → Int32 → Int32 → gS → Option gS} (hp : p < n) (hjc : ¬ (j, c) = (20, 0)) : ∀ (h m : Nat) (w : gWd) (s : Nat → Nat), h ≤ p → h < m → (∀ k, k < n → s k < n) → RO E w a n s → RV E w b j c n v →
    ∃ w' : gWd, X10_sortBy_37 E r m a b d (nI p) (nI p) (v p) (nI h) w.1 = r a b d (nI (p + 1)) w'.1 ∧ FS E J20 w w' ∧ RO E w' a n (sIn (fun x y => gwr (decide (¬ d = 0)) (v x) (v y)) p h s) := by
  have hx : ∀ κ κ' : Nat, ¬ ((κ, j, c) : Nat × Nat × Nat) = (κ', 20, 0) := fun κ κ' e => hjc (congrArg Prod.snd e)
  have last : ∀ (h m : Nat) (w : gWd) (s : Nat → Nat), h ≤ p → RO E w a n s → ∃ w' : gWd, X10_sortBy_86 E r a b d (nI p) (nI p) (nI h) w.1 = r a b d (nI (p + 1)) w'.1 ∧ FS E J20 w w' ∧ RO E w' a n (updN s h p) := by
    intro h m w s hh hO
    obtain ⟨h1, h2, ⟨g, h3, h4⟩, g2, h5⟩ := hO
    obtain ⟨e1, A1, F1⟩ := h3.st (i := h) (by omega) (by omega) (nI p) (J := fun t => t = (11, 20, 0)) rfl
    refine ⟨_, ?_, F1.mono (fun t e => by rw [e]), h1.fr F1 (by simp), h2, ⟨_, A1, fun k hk => ?_⟩, g2, h5.fr F1 (by simp)⟩
    · unfold X10_sortBy_86
      rw [ob_e (gfR_o h1.2.2 rfl), ob_e e1, ← nI_succ]
    · unfold upd updN
      by_cases hz : k = h
      · rw [if_pos hz, if_pos hz]
      · rw [if_neg hz, if_neg hz]; exact h4 k hk
  intro h
  induction h with
  | zero =>
    intro m w s hh hm H hO hV
    obtain ⟨m, rfl⟩ : ∃ q, m = q + 1 := ⟨m - 1, by omega⟩
    obtain ⟨w', e1, F1, O1⟩ := last 0 m w s hh hO
    refine ⟨w', ?_, F1, O1⟩
    show X10_sortBy_37_s E r (X10_sortBy_37 E r m) a b d (nI p) (nI p) (v p) (nI 0) w.1 = _
    unfold X10_sortBy_37_s
    rw [if_pos (by decide)]
    exact e1
  | succ h ih =>
    intro m w s hh hm H hO hV
    obtain ⟨m, rfl⟩ : ∃ q, m = q + 1 := ⟨m - 1, by omega⟩
    have hO0 := hO
    obtain ⟨h1, h2, ⟨g, h3, h4⟩, g2, h5⟩ := hO
    have hsh := H h (by omega)
    have hstep : ∀ k : Option gS, (if gwr (decide (¬ d = 0)) (v (s h)) (v p) = true then ob (gwaI E w.1 (a + 1) (nI (h + 1)) (nI (s h))) (fun σ => X10_sortBy_37 E r m a b d (nI p) (nI p) (v p) (nI h) σ) else X10_sortBy_86 E r a b d (nI p) (nI p) (nI (h + 1)) w.1) = k → X10_sortBy_37 E r (m + 1) a b d (nI p) (nI p) (v p) (nI (h + 1)) w.1 = k := by
      intro k hk
      show X10_sortBy_37_s E r (X10_sortBy_37 E r m) a b d (nI p) (nI p) (v p) (nI (h + 1)) w.1 = _
      unfold X10_sortBy_37_s
      rw [if_neg (nI_nle (by omega) (by omega)), ob_e (gfR_o h1.2.2 rfl), nI_pred, ob_e (h3.2.2.ld (show h < 60 by omega) (by omega)), h4 h (by omega), ob_e (gcl_o hV.1.2.2), ob_e (hV.at hsh), ob_e wr_f]
      by_cases hw : gwr (decide (¬ d = 0)) (v (s h)) (v p) = true
      · rw [if_pos hw] at hk ⊢
        rw [if_neg (by decide), ob_e (gfR_o h1.2.2 rfl), ob_e (gfR_o h1.2.2 rfl), ob_e (h3.2.2.ld (show h < 60 by omega) (by omega)), h4 h (by omega), nI_dec]
        exact hk
      · rw [if_neg hw] at hk ⊢
        rw [if_pos rfl]
        exact hk
    unfold sIn
    by_cases hw : gwr (decide (¬ d = 0)) (v (s h)) (v p) = true
    · obtain ⟨e1, A1, F1⟩ := h3.st (i := h + 1) (by omega) (by omega) (nI (s h)) (J := fun t => t = (11, 20, 0)) rfl
      have hO1 : RO E (wUp w (a + 1) (.inl (gcy E 0, 60, .inl (upd g (h + 1) (nI (s h)))))) a n (updN s (h + 1) (s h)) := ⟨h1.fr F1 (by simp), h2, ⟨_, A1, fun k hk => by
        unfold upd updN
        by_cases hz : k = h + 1
        · rw [if_pos hz, if_pos hz]
        · rw [if_neg hz, if_neg hz]; exact h4 k hk⟩, g2, h5.fr F1 (by simp)⟩
      obtain ⟨w', e2, F2, O2⟩ := ih m _ _ (by omega) (by omega) (fun k hk => by
        unfold updN
        by_cases hz : k = h + 1
        · rw [if_pos hz]; exact hsh
        · rw [if_neg hz]; exact H k hk) hO1 (hV.fr F1 (hx _ _) (hx _ _))
      refine ⟨w', hstep _ ?_, (F1.mono (fun t e => by rw [e])).trans F2, by rw [if_pos hw]; exact O2⟩
      rw [if_pos hw, ob_e e1]
      exact e2
    · obtain ⟨w', e1, F1, O1⟩ := last (h + 1) m w s hh hO0
      refine ⟨w', hstep _ ?_, F1, by rw [if_neg hw]; exact O1⟩
      rw [if_neg hw]
      exact e1
theorem so_out {E : gE} {a b j c n : Nat} {v : Nat → Int32} {d : Int32} (hN : 100000 ≤ gN E) (hjc : ¬ (j, c) = (20, 0)) : ∀ (k p m : Nat) (w : gWd), n ≤ p + k → p ≤ n + 1 → k < m → RO E w a n (sSort (fun x y => gwr (decide (¬ d = 0)) (v x) (v y)) (min p n)) → RV E w b j c n v →
    ∃ w' : gWd, X10_sortBy_10 E m a b d (nI p) w.1 = some w'.1 ∧ FS E J20 w w' ∧ RO E w' a n (sSort (fun x y => gwr (decide (¬ d = 0)) (v x) (v y)) n) := by
  have hx : ∀ κ κ' : Nat, ¬ ((κ, j, c) : Nat × Nat × Nat) = (κ', 20, 0) := fun κ κ' e => hjc (congrArg Prod.snd e)
  have stop : ∀ (p m : Nat) (w : gWd), n ≤ p → p ≤ n + 1 → RO E w a n (sSort (fun x y => gwr (decide (¬ d = 0)) (v x) (v y)) (min p n)) → ∃ w' : gWd, X10_sortBy_10 E (m + 1) a b d (nI p) w.1 = some w'.1 ∧ FS E J20 w w' ∧ RO E w' a n (sSort (fun x y => gwr (decide (¬ d = 0)) (v x) (v y)) n) := by
    intro p m w h1 h2 hO
    have h60 := hO.2.1
    refine ⟨w, ?_, FS.rf, by rw [show min p n = n by omega] at hO; exact hO⟩
    show X10_sortBy_10_s E (X10_sortBy_10 E m) a b d (nI p) w.1 = _
    unfold X10_sortBy_10_s
    rw [ob_e (gfI_o hO.1.2.2 rfl), if_pos (nI_le h1 (by omega))]
  intro k
  induction k with
  | zero =>
    intro p m w hp hp2 hm hO hV
    obtain ⟨m, rfl⟩ : ∃ q, m = q + 1 := ⟨m - 1, by omega⟩
    exact stop p m w (by omega) hp2 hO
  | succ k ih =>
    intro p m w hp hp2 hm hO hV
    obtain ⟨m, rfl⟩ : ∃ q, m = q + 1 := ⟨m - 1, by omega⟩
    by_cases hlt : n ≤ p
    · exact stop p m w hlt hp2 hO
    · have h60 := hO.2.1
      rw [show min p n = p by omega] at hO
      have hsp : sSort (fun x y => gwr (decide (¬ d = 0)) (v x) (v y)) p p = p := sSort_hi _ p p (Nat.le_refl _)
      obtain ⟨w1, e1, F1, O1⟩ := so_in (E := E) (d := d) (r := X10_sortBy_10 E m) (show p < n by omega) hjc p (gN E) w _ (Nat.le_refl _) (by omega) (sSort_lt _ p (by omega)) hO hV
      have O1' : RO E w1 a n (sSort (fun x y => gwr (decide (¬ d = 0)) (v x) (v y)) (min (p + 1) n)) := by
        rw [show min (p + 1) n = p + 1 by omega]
        exact O1
      obtain ⟨w2, e2, F2, O2⟩ := ih (p + 1) m w1 (by omega) (by omega) (by omega) O1' (hV.fr F1 (fun z => by cases hjc z) (fun z => by cases hjc z))
      refine ⟨w2, ?_, F1.trans F2, O2⟩
      have hO0 := hO
      obtain ⟨h1, h2, ⟨g, h3, h4⟩, g2, h5⟩ := hO0
      show X10_sortBy_10_s E (X10_sortBy_10 E m) a b d (nI p) w.1 = _
      unfold X10_sortBy_10_s
      rw [ob_e (gfI_o h1.2.2 rfl), if_neg (nI_ge (by omega) (by omega)), ob_e (gfR_o h1.2.2 rfl), ob_e (h3.2.2.ld (show p < 60 by omega) (by omega)), h4 p (by omega), hsp, ob_e (gcl_o hV.1.2.2), ob_e (hV.at (by omega)), e1]
      exact e2
theorem RO.sort {E : gE} {w : gWd} {a b j c n n' : Nat} {v : Nat → Int32} {s : Nat → Nat} {d : Int32} (hN : 100000 ≤ gN E) (h : RO E w a n' s) (hV : RV E w b j c n v) (hjc : ¬ (j, c) = (20, 0)) :
    ∃ w' : gWd, X10_sortBy_f E a b d w.1 = some w'.1 ∧ FS E J20 w w' ∧ RO E w' a n (sSort (fun x y => gwr (decide (¬ d = 0)) (v x) (v y)) n) := by
  have h60 := hV.2.1
  obtain ⟨w1, e1, F1, O1⟩ := h.reset hN h60
  have V1 := hV.fr F1 (fun z => by cases hjc z) (fun z => by cases hjc z)
  have O1' : RO E w1 a n (sSort (fun x y => gwr (decide (¬ d = 0)) (v x) (v y)) (min 1 n)) := by
    obtain ⟨h1, h2, ⟨g, h3, h4⟩, g2, h5⟩ := O1
    refine ⟨h1, h2, ⟨g, h3, fun k hk => ?_⟩, g2, h5⟩
    rw [h4 k hk]
    congr 1
    show k = _
    by_cases hk0 : k = 0
    · have := sSort_lt (fun x y => gwr (decide (¬ d = 0)) (v x) (v y)) (n := 1) (min 1 n) (by omega) 0 (by omega)
      rw [hk0]
      omega
    · rw [sSort_hi _ _ _ (by omega)]
  obtain ⟨w2, e2, F2, O2⟩ := so_out (E := E) (d := d) hN hjc n 1 (gN E) w1 (by omega) (by omega) (by omega) O1' V1
  refine ⟨w2, ?_, F1.trans F2, O2⟩
  unfold X10_sortBy_f X10_sortBy
  rw [ob_e (gcl_o hV.1.2.2), ob_e hV.length, ob_e (gcl_o h.1.2.2), ob_e e1]
  exact e2
theorem ap_loop {E : gE} {a b j c n : Nat} {s : Nat → Nat} {g0 : Nat → Int32} (hs : ∀ k, k < n → s k < 60) (hjc : ¬ (j, c) = (20, 0)) : ∀ (k r m : Nat) (w : gWd), r + k = n → k < m → Ob w (10, 20, 0) a 8 [.ref (a + 1), .ref (a + 2), .int (nI n)] → n ≤ 60 → (∃ g, ArI E w (11, 20, 0) (a + 1) 60 g ∧ ∀ k, k < n → g k = nI (s k)) → (∃ g, ArI E w (12, 20, 0) (a + 2) 60 g ∧ ∀ i, i < r → g i = g0 (s i)) → ArI E w (7, j, c) b 60 g0 →
    ∃ w' : gWd, X10_applyTo_2 E m a b (nI r) w.1 = some w'.1 ∧ FS E (fun t => t.2 = (20, 0) ∨ t = (7, j, c)) w w' ∧ RO E w' a n s ∧ ∃ g, ArI E w' (7, j, c) b 60 g ∧ ∀ i, i < n → g i = g0 (s i) := by
  have hx : ∀ κ κ' : Nat, ¬ ((κ, j, c) : Nat × Nat × Nat) = (κ', 20, 0) := fun κ κ' e => hjc (congrArg Prod.snd e)
  have hy : ∀ κ κ' : Nat, ¬ ((κ, 20, 0) : Nat × Nat × Nat) = (κ', j, c) := fun κ κ' e => hjc (congrArg Prod.snd e).symm
  intro k
  induction k with
  | zero =>
    intro r m w hr hm h1 h2 h3 h5 h7
    obtain ⟨m, rfl⟩ : ∃ q, m = q + 1 := ⟨m - 1, by omega⟩
    obtain ⟨g2, h5, h6⟩ := h5
    obtain ⟨e1, A1, F1⟩ := ArI.cp (J := fun t => t = (7, j, c)) (sp := 0) (dp := 0) (n := n) h5 h7 (by omega) (by omega) (by omega) (by omega) rfl
    obtain ⟨g, h3, h4⟩ := h3
    refine ⟨_, ?_, F1.mono (fun t e => Or.inr e), ⟨h1.fr F1 (hy _ _), h2, ⟨g, h3.fr F1 (hy _ _), h4⟩, g2, h5.fr F1 (hy _ _)⟩, _, A1, fun i hi => ?_⟩
    · show X10_applyTo_2_s E (X10_applyTo_2 E m) a b (nI r) w.1 = _
      unfold X10_applyTo_2_s
      rw [ob_e (gfI_o h1.2.2 rfl), if_pos (nI_le (by omega) (by omega)), ob_e (gfR_o h1.2.2 rfl), ob_e (gfI_o h1.2.2 rfl)]
      exact (ob_e e1).trans rfl
    · simp only [va_cpy, Nat.zero_add, Nat.zero_le, true_and, Nat.sub_zero]
      rw [if_pos hi]
      exact h6 i (by omega)
  | succ k ih =>
    intro r m w hr hm h1 h2 h3 h5 h7
    obtain ⟨m, rfl⟩ : ∃ q, m = q + 1 := ⟨m - 1, by omega⟩
    obtain ⟨g2, h5, h6⟩ := h5
    obtain ⟨g, h3, h4⟩ := h3
    have hsr := hs r (by omega)
    obtain ⟨e1, A1, F1⟩ := h5.st (i := r) (by omega) (by omega) (g0 (s r)) (J := fun t => t = (12, 20, 0)) rfl
    obtain ⟨w', e2, F2, O2, A2⟩ := ih (r + 1) m _ (by omega) (by omega) (h1.fr F1 (by simp)) h2 ⟨g, h3.fr F1 (by simp), h4⟩ ⟨_, A1, fun i hi => by
      unfold upd
      by_cases hz : i = r
      · rw [if_pos hz, hz]
      · rw [if_neg hz]; exact h6 i (by omega)⟩ (h7.fr F1 (hx _ _))
    refine ⟨w', ?_, (F1.mono (fun t e => Or.inl (by rw [e]))).trans F2, O2, A2⟩
    show X10_applyTo_2_s E (X10_applyTo_2 E m) a b (nI r) w.1 = _
    unfold X10_applyTo_2_s
    rw [ob_e (gfI_o h1.2.2 rfl), if_neg (nI_ge (by omega) (by omega)), ob_e (gfR_o h1.2.2 rfl), ob_e (gfR_o h1.2.2 rfl), ob_e (h3.2.2.ld (show r < 60 by omega) (by omega)), h4 r (by omega), ob_e (h7.2.2.ld hsr (by omega)), ob_e e1, ← nI_succ]
    exact e2
theorem RC.reorder {E : gE} {w : gWd} {a b j c n : Nat} {v : Nat → Int32} {f : Nat → Bool} {s : Nat → Nat} (hN : 100000 ≤ gN E) (hO : RO E w a n s) (h : RC E w b j c n v f) (hs : ∀ k, k < n → s k < n) (hjc : ¬ (j, c) = (20, 0)) :
    ∃ w' : gWd, X1_reorder_f E b a w.1 = some w'.1 ∧ FS E (fun t => t.2 = (20, 0) ∨ t = (7, j, c)) w w' ∧ RO E w' a n s ∧ RC E w' b j c n (fun k => v (s k)) f := by
  have hx : ∀ κ κ' : Nat, ¬ ((κ, j, c) : Nat × Nat × Nat) = (κ', 20, 0) := fun κ κ' e => hjc (congrArg Prod.snd e)
  obtain ⟨⟨h1, h2, g, h3, h4⟩, hD⟩ := h
  obtain ⟨o1, o2, o3, g2, o5⟩ := hO
  obtain ⟨w', e1, F1, O1, g9, A1, A2⟩ := ap_loop (E := E) (g0 := g) (fun k hk => Nat.lt_of_lt_of_le (hs k hk) h2) hjc n 0 (gN E) w (by omega) (by omega) o1 o2 o3 ⟨g2, o5, fun i hi => by omega⟩ h3
  have hJ : ∀ κ, κ ≠ 7 → ¬ (((κ, j, c) : Nat × Nat × Nat).2 = (20, 0) ∨ ((κ, j, c) : Nat × Nat × Nat) = (7, j, c)) := fun κ hκ z => z.elim (fun e => hjc e) (fun e => hκ (congrArg Prod.fst e))
  refine ⟨w', ?_, F1, O1, ⟨h1.fr F1 (hJ 6 (by decide)), h2, g9, A1, fun r hr => by rw [A2 r hr]; exact h4 _ (hs r hr)⟩, hD.fr F1 (hJ 8 (by decide)) (hJ 9 (by decide))⟩
  unfold X1_reorder_f X1_reorder
  rw [ob_e (gfR_o h1.2.2 rfl), ob_e (gcl_o o1.2.2)]
  refine (ob_e (?_ : X10_applyTo_f E a (b + 1) w.1 = some w'.1)).trans rfl
  exact e1
/-- how many runs the rows make in an order -/
def gruns (v : Nat → Int32) (s : Nat → Nat) (n : Nat) : Nat := fb_ct (fun k => decide (k = 0 ∨ v (s k) ≠ v (s (k - 1)))) n
theorem runs_loop {E : gE} {w : gWd} {a b j c n : Nat} {v : Nat → Int32} {s : Nat → Nat} (hO : RO E w a n s) (h : RV E w b j c n v) (hs : ∀ k, k < n → s k < n) : ∀ (k r m : Nat), r + k = n → k < m → X1_runsIn_4 E w.1 m b a (nI (gruns v s r)) (nI r) = some (nI (gruns v s n)) := by
  have h2 := h.2.1
  intro k
  induction k with
  | zero =>
    intro r m hr hm
    obtain ⟨m, rfl⟩ : ∃ q, m = q + 1 := ⟨m - 1, by omega⟩
    show X1_runsIn_4_s E w.1 (X1_runsIn_4 E w.1 m) b a _ (nI r) = _
    unfold X1_runsIn_4_s
    rw [ob_e (gfI_o h.1.2.2 rfl), if_pos (nI_le (by omega) (by omega)), show r = n by omega]
  | succ k ih =>
    intro r m hr hm
    obtain ⟨m, rfl⟩ : ∃ q, m = q + 1 := ⟨m - 1, by omega⟩
    have hI := ih (r + 1) m (by omega) (by omega)
    unfold gruns at hI ⊢
    rw [fb_ct_succ] at hI
    show X1_runsIn_4_s E w.1 (X1_runsIn_4 E w.1 m) b a _ (nI r) = _
    unfold X1_runsIn_4_s X1_runsIn_41 X1_runsIn_44
    rw [ob_e (gfI_o h.1.2.2 rfl), if_neg (nI_ge (by omega) (by omega))]
    by_cases h0 : r = 0
    · rw [if_pos (by rw [h0]; rfl), ← hI]
      rw [if_pos (by simp [h0])]
      simp only [nI_succ]
    · rw [if_neg (nI_ne0 (by omega) (by omega)), ob_e (gfR_o h.1.2.2 rfl), ob_e (gcl_o hO.1.2.2), ob_e (hO.src (by omega)), ob_e (h.ld (hs r (by omega))), ob_e (gfR_o h.1.2.2 rfl), ob_e (gcl_o hO.1.2.2), nI_sub1 (by omega), ob_e (hO.src (by omega)), ob_e (h.ld (hs (r - 1) (by omega)))]
      by_cases hv : v (s r) = v (s (r - 1))
      · rw [if_pos hv, ← hI, if_neg (by simp [h0, hv])]
        simp only [nI_succ, Nat.add_zero]
      · rw [if_neg hv, ← hI, if_pos (by simp [h0, hv])]
        simp only [nI_succ]
theorem RV.runs {E : gE} {w : gWd} {a b j c n : Nat} {v : Nat → Int32} {s : Nat → Nat} (hN : 100000 ≤ gN E) (hO : RO E w a n s) (h : RV E w b j c n v) (hs : ∀ k, k < n → s k < n) : X1_runsIn_f E w.1 b a = some (nI (gruns v s n)) := by
  have h2 := h.2.1
  exact runs_loop hO h hs n 0 (gN E) (by omega) (by omega)
