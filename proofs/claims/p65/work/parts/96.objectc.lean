/-! pure: answers that need room to work in -/
theorem dsel_s (p : Nat → Bool) (v : Nat → Int32) (r : Nat) : dsel p v (r + 1) = if p r = true then dins (dsel p v r) (px (v r)) else dsel p v r := rfl
theorem dsel_iff (p : Nat → Bool) (v : Nat → Int32) (q : Nat) : ∀ n, dsel p v n q = true ↔ ∃ r, r < n ∧ p r = true ∧ px (v r) = q
  | 0 => by simp [dsel]
  | n + 1 => by
    have ih := dsel_iff p v q n
    rw [dsel_s]
    by_cases hp : p n = true
    · rw [if_pos hp]
      unfold dins
      by_cases h : q = px (v n)
      · rw [if_pos h]
        exact ⟨fun _ => ⟨n, by omega, hp, h.symm⟩, fun _ => rfl⟩
      · rw [if_neg h, ih]
        constructor
        · rintro ⟨r, h1, h2, h3⟩
          exact ⟨r, by omega, h2, h3⟩
        · rintro ⟨r, h1, h2, h3⟩
          by_cases hr : r = n
          · exact absurd (by rw [← h3, hr]) h
          · exact ⟨r, by omega, h2, h3⟩
    · rw [if_neg hp, ih]
      constructor
      · rintro ⟨r, h1, h2, h3⟩
        exact ⟨r, by omega, h2, h3⟩
      · rintro ⟨r, h1, h2, h3⟩
        by_cases hr : r = n
        · rw [hr] at h2
          exact absurd h2 hp
        · exact ⟨r, by omega, h2, h3⟩
abbrev gsel (S : gT) (c : Nat) : Nat → Bool := dsel (ssel S) (tV S c) (tR S)
/-- is any row selected -/
theorem gsel_none {S : gT} (hG : GS S) {c : Nat} (hc : c < S.1) : dsz (gsel S c) = 0 ↔ fb_ct (ssel S) (tR S) = 0 := by
  unfold dsz
  rw [fb_ct_zero, fb_ct_zero]
  constructor
  · intro h r hr
    cases hs : ssel S r with
    | false => rfl
    | true =>
      have hv := (hG.2.2.2.2.1 c r hc hr).1
      have h1 := h (px (tV S c r)) (px_lt hv)
      rw [show gsel S c (px (tV S c r)) = true from (dsel_iff (ssel S) (tV S c) _ (tR S)).mpr ⟨r, hr, hs, rfl⟩] at h1
      cases h1
  · intro h q hq
    cases hs : gsel S c q with
    | false => rfl
    | true =>
      obtain ⟨r, h1, h2, -⟩ := (dsel_iff (ssel S) (tV S c) q (tR S)).mp hs
      rw [h r h1] at h2
      cases h2
section KU
variable {E : gE} {w : gWd} {l : Nat} {ad : Nat → Nat} {Q : gQ}
theorem cs_loop (hN : 100000 ≤ gN E) (hG : GQ Q) {c : Nat} (hc : c < (qS Q).1) : ∀ (k r m : Nat) (w : gWd), r + k = tR (qS Q) → k < m → RM E w 1 → RK E w l ad Q → RD E w (ad 9) 10 0 (dsel (ssel (qS Q)) (tV (qS Q) c) r) → ∃ w', X12_collectSelected_9 E m l (nI c) (nI r) w.1 = some w'.1 ∧ FS E J10 w w' ∧ RK E w' l ad Q ∧ RD E w' (ad 9) 10 0 (gsel (qS Q) c) := by
  have h60 := hG.1.2.2.2.1
  have hc6 : c < 6 := by have := hG.1.2.1; omega
  intro k
  induction k with
  | zero =>
    intro r m w hr hm hR h hD
    obtain ⟨m, rfl⟩ : ∃ q, m = q + 1 := ⟨m - 1, by omega⟩
    refine ⟨w, ?_, FS.rf, h, by rw [show r = tR (qS Q) by omega] at hD; exact hD⟩
    show X12_collectSelected_9_s E (X12_collectSelected_9 E m) l (nI c) (nI r) w.1 = _
    unfold X12_collectSelected_9_s
    rw [ob_e h.f0, ob_e h.c0, ob_e h.S.rows, if_pos (nI_le (by omega) (by omega))]
  | succ k ih =>
    intro r m w hr hm hR h hD
    obtain ⟨m, rfl⟩ : ∃ q, m = q + 1 := ⟨m - 1, by omega⟩
    cases hs : ssel (qS Q) r with
    | false =>
      have hD1 : RD E w (ad 9) 10 0 (dsel (ssel (qS Q)) (tV (qS Q) c) (r + 1)) := by
        rw [dsel_s, hs, if_neg (by decide)]
        exact hD
      obtain ⟨w1, e1, F1, h1, D1⟩ := ih (r + 1) m w (by omega) (by omega) hR h hD1
      refine ⟨w1, ?_, F1, h1, D1⟩
      show X12_collectSelected_9_s E (X12_collectSelected_9 E m) l (nI c) (nI r) w.1 = _
      unfold X12_collectSelected_9_s X12_collectSelected_50
      rw [ob_e h.f0, ob_e h.c0, ob_e h.S.rows, if_neg (nI_ge (by omega) (by omega)), ob_e h.f0, ob_e h.c0, ob_e (h.S.sel hN hG.1 (by omega)), hs, if_pos (by decide), ← nI_succ]
      exact e1
    | true =>
      obtain ⟨w1, e1, F1, D1⟩ := hD.insert hN (hG.1.2.2.2.2.1 c r hc (by omega)).1 (by decide) (by decide) hR (J := J10) rfl rfl
      have h1 := h.sD F1 D1
      have hD1 : RD E w1 (ad 9) 10 0 (dsel (ssel (qS Q)) (tV (qS Q) c) (r + 1)) := by
        rw [dsel_s, hs, if_pos rfl]
        exact D1
      obtain ⟨w2, e2, F2, h2, D2⟩ := ih (r + 1) m w1 (by omega) (by omega) (F1.2.2.2 _ hR) h1 hD1
      refine ⟨w2, ?_, F1.trans F2, h2, D2⟩
      show X12_collectSelected_9_s E (X12_collectSelected_9 E m) l (nI c) (nI r) w.1 = _
      unfold X12_collectSelected_9_s X12_collectSelected_50
      rw [ob_e h.f0, ob_e h.c0, ob_e h.S.rows, if_neg (nI_ge (by omega) (by omega)), ob_e h.f0, ob_e h.c0, ob_e (h.S.sel hN hG.1 (by omega)), hs, if_neg (by decide), ob_e h.f9, ob_e h.f0, ob_e h.c0, ob_e (h.S.column hc6), ob_e (h.S.ccl hc6), ob_e ((h.V hG.1 hc).at (by omega)), ob_e h.clD, ob_e e1, ← nI_succ]
      exact e2
theorem RK.csel (hN : 100000 ≤ gN E) (h : RK E w l ad Q) (hG : GQ Q) (hR : RM E w 1) {c : Nat} (hc : c < (qS Q).1) : ∃ w', X12_collectSelected_f E l (nI c) w.1 = some w'.1 ∧ FS E J10 w w' ∧ RK E w' l ad Q ∧ RD E w' (ad 9) 10 0 (gsel (qS Q) c) := by
  have h60 := hG.1.2.2.2.1
  obtain ⟨-, -, -, -, -, -, -, -, ⟨f, h10⟩, -⟩ := id h
  obtain ⟨w1, e1, F1, -, D1⟩ := h10.clear (J := J10) rfl
  have h1 := h.sD F1 D1
  obtain ⟨w2, e2, F2, h2, D2⟩ := cs_loop hN hG hc (tR (qS Q)) 0 (gN E) w1 (by omega) (by omega) (F1.2.2.2 _ hR) h1 D1
  refine ⟨w2, ?_, F1.trans F2, h2, D2⟩
  unfold X12_collectSelected_f X12_collectSelected
  rw [ob_e h.f9, ob_e h.clD, ob_e e1]
  exact e2
theorem K_distinctSelected (hN : 100000 ≤ gN E) (h : RK E w l ad Q) (hG : GQ Q) (hR : RM E w 1) {c : Nat} (hc : c < (qS Q).1) : XA E w l ad Q (Sum.inr (nI (dsz (gsel (qS Q) c)))) (X12_distinctSelected_f E l (nI c) w.1) := by
  obtain ⟨w1, e1, F1, h1, D1⟩ := h.csel hN hG hR hc
  refine ⟨w1, ?_, (F1.mono JK10).kk h.pos, h1⟩
  unfold X12_distinctSelected_f X12_distinctSelected
  rw [ob_e h.cl, ob_e (h.col hc hG.1.2.1), gtry_r, ob_e h.cl, ob_e e1, ob_e h1.f9, ob_e h1.clD, ob_e D1.size]
theorem RK.any (h : RK E w l ad Q) {f : Nat → Bool} (hD : RD E w (ad 9) 10 0 f) (h0 : ¬ dsz f = 0) : X12_checkAnySeen_f E l w.1 = some (Sum.inr (), w.1) := by
  have := dsz_le f
  unfold X12_checkAnySeen_f X12_checkAnySeen
  rw [ob_e h.f9, ob_e h.clD, ob_e hD.size, if_neg (nI_ne0 (by omega) (by omega))]
theorem RK.anyF (h : RK E w l ad Q) (hR : RM E w 1) {f : Nat → Bool} (hD : RD E w (ad 9) 10 0 f) (h0 : dsz f = 0) : X12_checkAnySeen_f E l w.1 = some (Sum.inl 2, (thW w).1) := by
  have ht : gthr E w.1 = some (thW w).1 := RM.thrw (y := 0) hR
  unfold X12_checkAnySeen_f X12_checkAnySeen
  rw [ob_e h.f9, ob_e h.clD, ob_e hD.size, if_pos (by rw [h0]; rfl), ob_e ht]
theorem K_smallestSelected (hN : 100000 ≤ gN E) (h : RK E w l ad Q) (hG : GQ Q) (hR : RM E w 1) {c : Nat} (hc : c < (qS Q).1) (h0 : ¬ fb_ct (ssel (qS Q)) (tR (qS Q)) = 0) : ∃ p, p < 19999 ∧ gsel (qS Q) c p = true ∧ fb_ct (gsel (qS Q) c) p = 0 ∧ XA E w l ad Q (Sum.inr (xp p)) (X12_smallestSelected_f E l (nI c) w.1) := by
  obtain ⟨w1, e1, F1, h1, D1⟩ := h.csel hN hG hR hc
  have hz : ¬ dsz (gsel (qS Q) c) = 0 := fun z => h0 ((gsel_none hG.1 hc).mp z)
  obtain ⟨p, p1, p2, p3, p4⟩ := D1.entry (i := 0) (by omega)
  refine ⟨p, p1, p2, p3, w1, ?_, (F1.mono JK10).kk h.pos, h1⟩
  unfold X12_smallestSelected_f X12_smallestSelected
  rw [ob_e h.cl, ob_e (h.col hc hG.1.2.1), gtry_r, ob_e h.cl, ob_e e1, ob_e h1.cl, ob_e (h1.any D1 hz), gtry_r, ob_e h1.f9, ob_e h1.clD]
  exact (ob_e p4).trans rfl
theorem K_greatestSelected (hN : 100000 ≤ gN E) (h : RK E w l ad Q) (hG : GQ Q) (hR : RM E w 1) {c : Nat} (hc : c < (qS Q).1) (h0 : ¬ fb_ct (ssel (qS Q)) (tR (qS Q)) = 0) : ∃ p, p < 19999 ∧ gsel (qS Q) c p = true ∧ fb_ct (gsel (qS Q) c) p = dsz (gsel (qS Q) c) - 1 ∧ XA E w l ad Q (Sum.inr (xp p)) (X12_greatestSelected_f E l (nI c) w.1) := by
  obtain ⟨w1, e1, F1, h1, D1⟩ := h.csel hN hG hR hc
  have hz : ¬ dsz (gsel (qS Q) c) = 0 := fun z => h0 ((gsel_none hG.1 hc).mp z)
  obtain ⟨p, p1, p2, p3, p4⟩ := D1.entry (i := dsz (gsel (qS Q) c) - 1) (by omega)
  refine ⟨p, p1, p2, p3, w1, ?_, (F1.mono JK10).kk h.pos, h1⟩
  unfold X12_greatestSelected_f X12_greatestSelected
  rw [ob_e h.cl, ob_e (h.col hc hG.1.2.1), gtry_r, ob_e h.cl, ob_e e1, ob_e h1.cl, ob_e (h1.any D1 hz), gtry_r, ob_e h1.f9, ob_e h1.f9, ob_e h1.clD, ob_e D1.size, ob_e h1.clD, nI_sub1 (by omega), ob_e p4]
theorem gord_lt (S : gT) (c : Nat) (b : Bool) {k : Nat} (hk : k < tR S) : gord S c b k < tR S := sSort_lt _ (tR S) (Nat.le_refl _) k hk
theorem RK.srt (hN : 100000 ≤ gN E) (h : RK E w l ad Q) (hG : GS (qS Q)) {c : Nat} (hc : c < (qS Q).1) (d : Int32) : ∃ w', X10_sortBy_f E (ad 8) (ad 0 + 6 + 4 * c) d w.1 = some w'.1 ∧ FS E J20 w w' ∧ RK E w' l ad Q ∧ RO E w' (ad 8) (tR (qS Q)) (gord (qS Q) c (decide (¬ d = 0))) := by
  obtain ⟨-, -, -, -, -, -, -, ⟨n, s, h9⟩, -⟩ := id h
  obtain ⟨w1, e1, F1, O1⟩ := h9.sort (d := d) hN (h.V hG hc) (fun z => by cases (congrArg Prod.fst z : (0 : Nat) = 20))
  exact ⟨w1, e1, F1, h.sO F1 O1, O1⟩
theorem ra_loop (hN : 100000 ≤ gN E) (h : RK E w l ad Q) (hG : GS (qS Q)) {s : Nat → Nat} (hO : RO E w (ad 8) (tR (qS Q)) s) (hs : ∀ k, k < tR (qS Q) → s k < tR (qS Q)) : ∀ (k c m : Nat), c + k = (qS Q).1 → k < m → X12_runsAfterSorting_20 E m l (nI (fb_sm (fun o => gruns (tV (qS Q) o) s (tR (qS Q))) c)) (nI c) w.1 = some (nI (fb_sm (fun o => gruns (tV (qS Q) o) s (tR (qS Q))) (qS Q).1), w.1) := by
  have hC := hG.2.1
  intro k
  induction k with
  | zero =>
    intro c m hc hm
    obtain ⟨m, rfl⟩ : ∃ q, m = q + 1 := ⟨m - 1, by omega⟩
    show X12_runsAfterSorting_20_s E (X12_runsAfterSorting_20 E m) l _ (nI c) w.1 = _
    unfold X12_runsAfterSorting_20_s
    rw [ob_e h.f0, ob_e h.c0, ob_e h.S.columns, if_pos (nI_le (by omega) (by omega)), show c = (qS Q).1 by omega]
  | succ k ih =>
    intro c m hc hm
    obtain ⟨m, rfl⟩ : ∃ q, m = q + 1 := ⟨m - 1, by omega⟩
    have hI := ih (c + 1) m (by omega) (by omega)
    rw [fb_sm_succ] at hI
    have hc6 : c < 6 := by omega
    show X12_runsAfterSorting_20_s E (X12_runsAfterSorting_20 E m) l _ (nI c) w.1 = _
    unfold X12_runsAfterSorting_20_s
    rw [ob_e h.f0, ob_e h.c0, ob_e h.S.columns, if_neg (nI_ge (by omega) (by omega)), ob_e h.f0, ob_e h.c0, ob_e (h.S.column hc6), ob_e h.f8, ob_e (h.S.ccl hc6), ob_e ((h.V hG (by omega)).runs hN hO hs), nI_add, ← nI_succ]
    exact hI
theorem RK.ras (hN : 100000 ≤ gN E) (h : RK E w l ad Q) (hG : GS (qS Q)) {c : Nat} (hc : c < (qS Q).1) : ∃ w', X12_runsAfterSorting_f E l (nI c) w.1 = some (nI (grby (qS Q) c), w'.1) ∧ FS E J20 w w' ∧ RK E w' l ad Q := by
  have hC := hG.2.1
  have hc6 : c < 6 := by omega
  obtain ⟨w1, e1, F1, h1, O1⟩ := h.srt hN hG hc 1
  refine ⟨w1, ?_, F1, h1⟩
  unfold X12_runsAfterSorting_f X12_runsAfterSorting
  rw [ob_e h.f8, ob_e h.f0, ob_e h.c0, ob_e (h.S.column hc6), ob_e h.clO, ob_e e1]
  exact ra_loop hN h1 hG O1 (fun k hk => gord_lt _ _ _ hk) (qS Q).1 0 (gN E) (by omega) (by omega)
theorem K_runsIfSorted (hN : 100000 ≤ gN E) (h : RK E w l ad Q) (hG : GQ Q) {c : Nat} (hc : c < (qS Q).1) : XA E w l ad Q (Sum.inr (nI (grby (qS Q) c))) (X12_runsIfSorted_f E l (nI c) w.1) := by
  obtain ⟨w1, e1, F1, h1⟩ := h.ras hN hG.1 hc
  refine ⟨w1, ?_, (F1.mono JK20).kk h.pos, h1⟩
  unfold X12_runsIfSorted_f X12_runsIfSorted
  rw [ob_e h.cl, ob_e (h.col hc hG.1.2.1), gtry_r, ob_e h.cl, ob_e e1]
theorem grby_le {S : gT} (hG : GS S) (c : Nat) : grby S c ≤ 360 := by
  have h1 := fb_sm_bound (f := fun o => gruns (tV S o) (gord S c true) (tR S)) (c := 60) (n := S.1) (fun k _ => by have := gruns_le (tV S k) (gord S c true) (tR S); have := hG.2.2.2.1; omega)
  have h2 : S.1 * 60 ≤ 6 * 60 := Nat.mul_le_mul_right _ hG.2.1
  unfold grby
  omega
theorem bs_loop (hN : 100000 ≤ gN E) (hG : GS (qS Q)) : ∀ (k c m : Nat) (w : gWd), c + k = (qS Q).1 → 0 < c → k < m → RK E w l ad Q → ∃ w', X12_bestSortColumn_10 E m l (nI (gbsc (qS Q) c)) (nI (grby (qS Q) (gbsc (qS Q) c))) (nI c) w.1 = some (nI (gbsc (qS Q) (qS Q).1), w'.1) ∧ FS E J20 w w' ∧ RK E w' l ad Q := by
  have hC := hG.2.1
  intro k
  induction k with
  | zero =>
    intro c m w hc h0 hm h
    obtain ⟨m, rfl⟩ : ∃ q, m = q + 1 := ⟨m - 1, by omega⟩
    refine ⟨w, ?_, FS.rf, h⟩
    show X12_bestSortColumn_10_s E (X12_bestSortColumn_10 E m) l _ _ (nI c) w.1 = _
    unfold X12_bestSortColumn_10_s
    rw [ob_e h.f0, ob_e h.c0, ob_e h.S.columns, if_pos (nI_le (by omega) (by omega)), show c = (qS Q).1 by omega]
  | succ k ih =>
    intro c m w hc h0 hm h
    obtain ⟨m, rfl⟩ : ∃ q, m = q + 1 := ⟨m - 1, by omega⟩
    obtain ⟨w1, e1, F1, h1⟩ := h.ras hN hG (c := c) (by omega)
    obtain ⟨w2, e2, F2, h2⟩ := ih (c + 1) m w1 (by omega) (by omega) (by omega) h1
    have hb1 := grby_le hG c
    have hb2 := grby_le hG (gbsc (qS Q) c)
    have hg : gbsc (qS Q) (c + 1) = if c = 0 then 0 else if grby (qS Q) c < grby (qS Q) (gbsc (qS Q) c) then c else gbsc (qS Q) c := rfl
    rw [if_neg (by omega)] at hg
    refine ⟨w2, ?_, F1.trans F2, h2⟩
    show X12_bestSortColumn_10_s E (X12_bestSortColumn_10 E m) l _ _ (nI c) w.1 = _
    unfold X12_bestSortColumn_10_s X12_bestSortColumn_39
    rw [ob_e h.f0, ob_e h.c0, ob_e h.S.columns, if_neg (nI_ge (by omega) (by omega)), ob_e h.cl, ob_e e1]
    by_cases hlt : grby (qS Q) c < grby (qS Q) (gbsc (qS Q) c)
    · rw [if_pos hlt] at hg
      rw [hg] at e2
      rw [if_neg (nI_ge hlt (by omega)), ← nI_succ]
      exact e2
    · rw [if_neg hlt] at hg
      rw [hg] at e2
      rw [if_pos (nI_le (by omega) (by omega)), ← nI_succ]
      exact e2
theorem K_bestSortColumn (hN : 100000 ≤ gN E) (h : RK E w l ad Q) (hG : GQ Q) : ∃ w', X12_bestSortColumn_f E l w.1 = some (nI (gbsc (qS Q) (qS Q).1), w'.1) ∧ FS E J20 w w' ∧ RK E w' l ad Q := by
  have hC := hG.1.2.1
  have hC1 := hG.1.1
  obtain ⟨w1, e1, F1, h1⟩ := h.ras hN hG.1 (c := 0) (by omega)
  obtain ⟨w2, e2, F2, h2⟩ := bs_loop hN hG.1 ((qS Q).1 - 1) 1 (gN E) w1 (by omega) (by omega) (by omega) h1
  refine ⟨w2, ?_, F1.trans F2, h2⟩
  unfold X12_bestSortColumn_f X12_bestSortColumn
  rw [ob_e h.cl]
  refine (ob_e e1).trans ?_
  exact e2
theorem pd_loop (hN : 100000 ≤ gN E) (h : RK E w l ad Q) (hG : GS (qS Q)) {c : Nat} (hc : c < (qS Q).1) {W : Nat → Int64} (hP : RP E w (ad 10) (gwid (dsz (tD (qS Q) c))) W) (hW : ∀ q b, q < 15 → b < 64 → bL (W q) b = pb (gwid (dsz (tD (qS Q) c))) (gcd (tD (qS Q) c) (tV (qS Q) c) (tR (qS Q))) (tR (qS Q)) (64 * q + b)) : ∀ (k r m : Nat), r + k = tR (qS Q) → k < m → X12_packingDifferences_12 E m l (ad 0 + 6 + 4 * c) 0 (nI r) w.1 = some (0, w.1) := by
  have h60 := hG.2.2.2.1
  have hc6 : c < 6 := by have := hG.2.1; omega
  intro k
  induction k with
  | zero =>
    intro r m hr hm
    obtain ⟨m, rfl⟩ : ∃ q, m = q + 1 := ⟨m - 1, by omega⟩
    show X12_packingDifferences_12_s E (X12_packingDifferences_12 E m) l _ _ (nI r) w.1 = _
    unfold X12_packingDifferences_12_s
    rw [ob_e (h.S.ccl hc6), ob_e (h.V hG hc).length, if_pos (nI_le (by omega) (by omega))]
  | succ k ih =>
    intro r m hr hm
    obtain ⟨m, rfl⟩ : ∃ q, m = q + 1 := ⟨m - 1, by omega⟩
    have hv := hG.2.2.2.2.1 c r hc (by omega)
    have hlt : fb_ct (tD (qS Q) c) (px (tV (qS Q) c r)) < dsz (tD (qS Q) c) := (ct_lt hv.2).mpr (px_lt hv.1)
    have hd19 := dsz_le (tD (qS Q) c)
    have hcd : gcd (tD (qS Q) c) (tV (qS Q) c) (tR (qS Q)) r = fb_ct (tD (qS Q) c) (px (tV (qS Q) c r)) := if_pos (by omega)
    have hu := hP.unpack hN (wid15 (tD (qS Q) c)).1 (show r < tR (qS Q) by omega) h60 (gcd_lt (fun r hr => hG.2.2.2.2.1 c r hc hr) r) hW
    rw [hcd] at hu
    obtain ⟨p, p1, p2, p3, p4⟩ := (h.D hc6).entry hlt
    have hpe : p = px (tV (qS Q) c r) := fb_ct_kth_one p2 hv.2 p3
    rw [hpe, xp_px hv.1] at p4
    show X12_packingDifferences_12_s E (X12_packingDifferences_12 E m) l _ _ (nI r) w.1 = _
    unfold X12_packingDifferences_12_s X12_packingDifferences_62
    rw [ob_e (h.S.ccl hc6), ob_e (h.V hG hc).length, if_neg (nI_ge (by omega) (by omega)), ob_e h.f10, ob_e h.clP, ob_e hu, ob_e (h.S.ccl hc6), ob_e (h.V hG hc).dict, ob_e (h.S.dcl hc6), ob_e (h.D hc6).size, if_neg (nI_ge hlt (by omega)), ob_e (h.S.ccl hc6), ob_e (h.V hG hc).dict, ob_e (h.S.dcl hc6), ob_e p4, ob_e (h.S.ccl hc6), ob_e ((h.V hG hc).at (by omega)), if_pos rfl, ← nI_succ]
    exact ih (r + 1) m (by omega) (by omega)
theorem RK.pdif (hN : 100000 ≤ gN E) (h : RK E w l ad Q) (hG : GS (qS Q)) {c : Nat} (hc : c < (qS Q).1) : ∃ w', X12_packingDifferences_f E l (ad 0 + 6 + 4 * c) w.1 = some (0, w'.1) ∧ FS E J21 w w' ∧ RK E w' l ad Q := by
  have h60 := hG.2.2.2.1
  obtain ⟨-, -, -, -, -, -, -, -, -, wd, W, h11⟩ := id h
  obtain ⟨w1, W1, e1, F1, C1, P1, H1⟩ := RP.pack hN (h.C hG hc) h11 (fun r hr => hG.2.2.2.2.1 c r hc hr) (by decide)
  have h1 := h.sP F1 P1
  refine ⟨w1, ?_, F1, h1⟩
  unfold X12_packingDifferences_f X12_packingDifferences
  rw [ob_e h.f10, ob_e h.clP, ob_e e1]
  exact pd_loop hN h1 hG hc P1 H1 (tR (qS Q)) 0 (gN E) (by omega) (by omega)
theorem gp2_loop (hN : 100000 ≤ gN E) (hG : GS (qS Q)) : ∀ (k c m : Nat) (w : gWd), c + k = (qS Q).1 → k < m → RK E w l ad Q → ∃ w', X12_gap_45 E m l 0 (nI c) w.1 = some (0, w'.1) ∧ FS E J21 w w' ∧ RK E w' l ad Q := by
  have hC := hG.2.1
  intro k
  induction k with
  | zero =>
    intro c m w hc hm h
    obtain ⟨m, rfl⟩ : ∃ q, m = q + 1 := ⟨m - 1, by omega⟩
    refine ⟨w, ?_, FS.rf, h⟩
    show X12_gap_45_s E (X12_gap_45 E m) l 0 (nI c) w.1 = _
    unfold X12_gap_45_s
    rw [ob_e h.f0, ob_e h.c0, ob_e h.S.columns, if_pos (nI_le (by omega) (by omega))]
  | succ k ih =>
    intro c m w hc hm h
    obtain ⟨m, rfl⟩ : ∃ q, m = q + 1 := ⟨m - 1, by omega⟩
    obtain ⟨w1, e1, F1, h1⟩ := h.pdif hN hG (c := c) (by omega)
    obtain ⟨w2, e2, F2, h2⟩ := ih (c + 1) m w1 (by omega) (by omega) h1
    refine ⟨w2, ?_, F1.trans F2, h2⟩
    show X12_gap_45_s E (X12_gap_45 E m) l 0 (nI c) w.1 = _
    unfold X12_gap_45_s
    rw [ob_e h.f0, ob_e h.c0, ob_e h.S.columns, if_neg (nI_ge (by omega) (by omega)), ob_e h.f0, ob_e h.c0, ob_e (h.S.column (by omega)), ob_e h.cl, ob_e e1, ← nI_succ]
    exact e2
theorem gp_loop (hN : 100000 ≤ gN E) (h : RK E w l ad Q) (hG : GS (qS Q)) : ∀ (k r m : Nat), r + k = tR (qS Q) → k < m → X12_gap_4 E m l 0 (nI r) w.1 = X12_gap_45 E (gN E) l 0 (0 : Int32) w.1 := by
  have h60 := hG.2.2.2.1
  intro k
  induction k with
  | zero =>
    intro r m hr hm
    obtain ⟨m, rfl⟩ : ∃ q, m = q + 1 := ⟨m - 1, by omega⟩
    show X12_gap_4_s E (X12_gap_4 E m) l 0 (nI r) w.1 = _
    unfold X12_gap_4_s
    rw [ob_e h.f0, ob_e h.c0, ob_e h.S.rows, if_pos (nI_le (by omega) (by omega))]
  | succ k ih =>
    intro r m hr hm
    obtain ⟨m, rfl⟩ : ∃ q, m = q + 1 := ⟨m - 1, by omega⟩
    show X12_gap_4_s E (X12_gap_4 E m) l 0 (nI r) w.1 = _
    unfold X12_gap_4_s X12_gap_37
    rw [ob_e h.f0, ob_e h.c0, ob_e h.S.rows, if_neg (nI_ge (by omega) (by omega)), ob_e h.f0, ob_e h.c0, ob_e (h.S.sel hN hG (by omega)), ob_e h.f0, ob_e h.c0, ob_e (h.S.selc hN hG (by omega)), if_pos rfl, ← nI_succ]
    exact ih (r + 1) m (by omega) (by omega)
theorem K_gap (hN : 100000 ≤ gN E) (h : RK E w l ad Q) (hG : GQ Q) : ∃ w', X12_gap_f E l w.1 = some (0, w'.1) ∧ FS E J21 w w' ∧ RK E w' l ad Q := by
  have h60 := hG.1.2.2.2.1
  have hC := hG.1.2.1
  obtain ⟨w1, e1, F1, h1⟩ := gp2_loop hN hG.1 (qS Q).1 0 (gN E) w (by omega) (by omega) h
  refine ⟨w1, ?_, F1, h1⟩
  unfold X12_gap_f X12_gap
  have := gp_loop hN h hG.1 (tR (qS Q)) 0 (gN E) (by omega) (by omega)
  exact this.trans e1
theorem K_bitWidthWith (hN : 100000 ≤ gN E) (h : RK E w l ad Q) (hG : GQ Q) {c : Nat} {v : Int32} (hc : c < (qS Q).1) (hv : vIn v) : XA E w l ad Q (Sum.inr (nI (gwid (dsz (tD (qS Q) c) + (if dmem (tD (qS Q) c) v = true then 0 else 1))))) (X12_bitWidthWith_f E l (nI c) v w.1) := by
  have hc6 : c < 6 := by have := hG.1.2.1; omega
  have hd := dsz_le (tD (qS Q) c)
  refine ⟨w, ?_, KK.rf h.pos, h⟩
  unfold X12_bitWidthWith_f X12_bitWidthWith X12_bitWidthWith_40
  rw [ob_e h.cl, ob_e (h.col hc hG.1.2.1), gtry_r, ob_e h.cl, ob_e (RK.valu hv), gtry_r, ob_e h.f0, ob_e h.c0, ob_e (h.S.dict hc6), ob_e (h.S.dcl hc6), ob_e ((h.D hc6).holds hN v)]
  cases hm : dmem (tD (qS Q) c) v with
  | true =>
    rw [if_neg (by decide), ob_e (h.S.dcl hc6), ob_e (h.D hc6).size, ob_e (wid_f hN (by omega)), if_pos rfl, Nat.add_zero]
  | false =>
    rw [if_pos (by decide), ob_e (h.S.dcl hc6), ob_e (h.D hc6).size, ← nI_succ, ob_e (wid_f hN (by omega)), if_neg (by decide)]
end KU
