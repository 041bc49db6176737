/-! pure: the reference reads a script -/
theorem pScr_s {u : Nat → Nat} {L C k s : Nat} (h0 : ¬ kd u L s = 0) (h9 : ¬ pKind u L s = 9) : pScr u L C (k + 1) s = pB (pOrd u L C s) fun cm s2 => pB (pScr u L C k s2) fun r s3 => .inr ((r.1 + 1, fun i => if i = 0 then cm else r.2 (i - 1)), s3) := by
  show (if kd u L s = 0 then _ else if pKind u L s = 9 then _ else _) = _
  rw [if_neg h0, if_neg h9]
  unfold pOrd
  cases pArgs u L C (pKind u L s) (tN u L s) with
  | inl p => rfl
  | inr q =>
    show pB (pSemi u L q.2) _ = pB (pB (pSemi u L q.2) _) _
    cases pSemi u L q.2 with
    | inl p => rfl
    | inr q2 => rfl
section MM
variable {E : gE} {w : gWd} {m ro L C : Nat} {fi0 : Nat → Int32} {G : Nat → Nat → Int32} {u : Nat → Nat} {t : gMd}
theorem sc_er {p : Nat × Nat} (h : PQ E w m ro fi0 G u L (.inl p)) (q : Nat) : X13_runScript_24 E (q + 1) m w.1 = X13_runScript_45 E m w.1 := by
  obtain ⟨x, x1, x2⟩ := h.errN
  show X13_runScript_24_s E (X13_runScript_24 E q) m w.1 = _
  unfold X13_runScript_24_s
  rw [ob_e x1, if_neg x2]
theorem PQ.r21 {s : Nat} (h : PQ E w m ro fi0 G u L (.inr s)) : gfI w.1 m 11 21 = some (nI (tkn (kd u L s))) := by
  obtain ⟨fi, c1, c2, c3, c4⟩ := h
  rw [← c4.1.2.2.2.1]
  exact gfI_o (x := fi 21) c1.1.2.2 rfl
theorem sc_rd (hO : gOK E) (hC1 : 1 ≤ C) (hC6 : C ≤ 6) : ∀ (k i q s : Nat) (w : gWd) (fi0 : Nat → Int32) (G : Nat → Nat → Int32), i + k = 20 → k + 2 < q → PQ E w m (m + 1) fi0 G u L (.inr s) → BU G u L → G 1 0 = nI C → fi0 28 = nI i → ∃ w' fi1 G', X13_runScript_24 E q m w.1 = X13_runScript_45 E m w'.1 ∧ FS E J30 w w' ∧ PF fi0 fi1 ∧ PQ E w' m (m + 1) fi1 G' u L (mdf (pScr u L C k s)) ∧ (∀ j, j ≠ 7 → j ≠ 11 → G' j = G j) ∧ (∀ j, j < 7 * i → G' 11 j = G 11 j) ∧ ∀ r s', pScr u L C k s = .inr (r, s') → fi1 28 = nI (i + r.1) ∧ ∀ j, j < r.1 → orF C (r.2 j) (fun x => G' 11 (7 * (i + j) + x)) := by
  have hend : ∀ (k i q s : Nat) (w : gWd) (fi0 : Nat → Int32) (G : Nat → Nat → Int32), kd u L s = 0 → pScr u L C k s = .inr ((0, fun _ => (0, 0, 0, 0, false, fun _ => 0)), s) → PQ E w m (m + 1) fi0 G u L (.inr s) → fi0 28 = nI i → ∃ w' fi1 G', X13_runScript_24 E (q + 1) m w.1 = X13_runScript_45 E m w'.1 ∧ FS E J30 w w' ∧ PF fi0 fi1 ∧ PQ E w' m (m + 1) fi1 G' u L (mdf (pScr u L C k s)) ∧ (∀ j, j ≠ 7 → j ≠ 11 → G' j = G j) ∧ (∀ j, j < 7 * i → G' 11 j = G 11 j) ∧ ∀ r s', pScr u L C k s = .inr (r, s') → fi1 28 = nI (i + r.1) ∧ ∀ j, j < r.1 → orF C (r.2 j) (fun x => G' 11 (7 * (i + j) + x)) := fun k i q s w fi0 G hz hp h h28 => by
    refine ⟨w, fi0, G, ?_, FS.rf, PF.rf, ?_, fun _ _ _ => rfl, fun _ _ => rfl, fun r s' z => ?_⟩
    · show X13_runScript_24_s E (X13_runScript_24 E q) m w.1 = _
      unfold X13_runScript_24_s
      rw [ob_e h.err0, if_pos rfl, ob_e h.r21, if_pos (show nI (tkn (kd u L s)) = 0 from by rw [hz]; rfl)]
    · rw [hp]
      exact h
    · rw [hp] at z
      cases z
      exact ⟨h28, fun j hj => absurd hj (Nat.not_lt_zero _)⟩
  have hgo : ∀ (q s : Nat) (w : gWd) (fi0 : Nat → Int32) (G : Nat → Nat → Int32), ¬ kd u L s = 0 → PQ E w m (m + 1) fi0 G u L (.inr s) → X13_runScript_24 E (q + 1) m w.1 = ob (X13_readOrder_f E m w.1) fun x22 => X13_runScript_24 E q m x22 := fun q s w fi0 G hz h => by
    have htl := tkn_le (kd u L s)
    show X13_runScript_24_s E (X13_runScript_24 E q) m w.1 = _
    unfold X13_runScript_24_s
    rw [ob_e h.err0, if_pos rfl, ob_e h.r21, if_neg (show ¬ nI (tkn (kd u L s)) = 0 from fun y => hz ((tkn_0 _).mp ((nI_eqI (b := 0) (by omega) (by omega)).mp y))), ob_e h.cl]
  have hbad : ∀ (k i q s : Nat) (w : gWd) (fi0 : Nat → Int32) (G : Nat → Nat → Int32) (p : Nat × Nat), ¬ kd u L s = 0 → i ≤ 20 → PQ E w m (m + 1) fi0 G u L (.inr s) → BU G u L → G 1 0 = nI C → fi0 28 = nI i → odm u L C i s = .inl p → pScr u L C k s = .inl p → ∃ w' fi1 G', X13_runScript_24 E (q + 2) m w.1 = X13_runScript_45 E m w'.1 ∧ FS E J30 w w' ∧ PF fi0 fi1 ∧ PQ E w' m (m + 1) fi1 G' u L (mdf (pScr u L C k s)) ∧ (∀ j, j ≠ 7 → j ≠ 11 → G' j = G j) ∧ (∀ j, j < 7 * i → G' 11 j = G 11 j) ∧ ∀ r s', pScr u L C k s = .inr (r, s') → fi1 28 = nI (i + r.1) ∧ ∀ j, j < r.1 → orF C (r.2 j) (fun x => G' 11 (7 * (i + j) + x)) := fun k i q s w fi0 G p hz hi h hB hC h28 z1 z2 => by
    obtain ⟨w1, fi1, G1, e1, F1, pf1, h1, g1, l1, -⟩ := h.readOrder hO hB hC hC1 hC6 hi h28
    rw [z1] at h1
    refine ⟨w1, fi1, G1, ?_, F1, pf1, ?_, g1, l1, fun r s' z => ?_⟩
    · rw [hgo (q + 1) s w fi0 G hz h, ob_e e1]
      exact sc_er h1 q
    · rw [z2]
      exact h1
    · rw [z2] at z
      cases z
  intro k
  induction k with
  | zero =>
    intro i q s w fi0 G hi hq h hB hC h28
    obtain ⟨q, rfl⟩ : ∃ z, q = z + 2 := ⟨q - 2, by omega⟩
    by_cases hz : kd u L s = 0
    · exact hend 0 i (q + 1) s w fi0 G hz (by unfold pScr; rw [if_pos hz]) h h28
    · by_cases h9 : pKind u L s = 9
      · exact hbad 0 i q s w fi0 G (1, s) hz (by omega) h hB hC h28 (by unfold odm; rw [if_pos h9]) (by unfold pScr; rw [if_neg hz, if_pos h9])
      · exact hbad 0 i q s w fi0 G (3, s) hz (by omega) h hB hC h28 (by unfold odm; rw [if_neg h9, if_pos (by omega)]) (by unfold pScr; rw [if_neg hz, if_neg h9])
  | succ k ih =>
    intro i q s w fi0 G hi hq h hB hC h28
    obtain ⟨q, rfl⟩ : ∃ z, q = z + 2 := ⟨q - 2, by omega⟩
    by_cases hz : kd u L s = 0
    · exact hend (k + 1) i (q + 1) s w fi0 G hz (by unfold pScr; rw [if_pos hz]) h h28
    · by_cases h9 : pKind u L s = 9
      · exact hbad (k + 1) i q s w fi0 G (1, s) hz (by omega) h hB hC h28 (by unfold odm; rw [if_pos h9]) (by unfold pScr; rw [if_neg hz, if_pos h9])
      · have hod : odm u L C i s = mdf (pOrd u L C s) := by
          unfold odm
          rw [if_neg h9, if_neg (by omega)]
        have hps := pScr_s (C := C) (k := k) hz h9
        cases hp : pOrd u L C s with
        | inl p =>
          refine hbad (k + 1) i q s w fi0 G p hz (by omega) h hB hC h28 ?_ ?_
          · rw [hod, hp]
            rfl
          · rw [hps, hp]
            rfl
        | inr cs =>
          obtain ⟨cm, s2⟩ := cs
          obtain ⟨w1, fi1, G1, e1, F1, pf1, h1, g1, l1, r1⟩ := h.readOrder hO hB hC hC1 hC6 (by omega) h28
          rw [hod, hp] at h1
          have h1 : PQ E w1 m (m + 1) fi1 G1 u L (.inr s2) := h1
          obtain ⟨n28, o1⟩ := r1 cm s2 h9 (by omega) hp
          obtain ⟨w2, fi2, G2, e2, F2, pf2, h2, g2, l2, r2⟩ := ih (i + 1) (q + 1) s2 w1 fi1 G1 (by omega) (by omega) h1 (hB.pg (fun j _ b c => g1 j b c)) (by rw [g1 1 (by decide) (by decide)]; exact hC) n28
          have hps2 : pScr u L C (k + 1) s = pB (pScr u L C k s2) fun r s3 => .inr ((r.1 + 1, fun i => if i = 0 then cm else r.2 (i - 1)), s3) := by
            rw [hps, hp]
            rfl
          refine ⟨w2, fi2, G2, ?_, F1.trans F2, pf1.tr pf2, ?_, fun j x y => (g2 j x y).trans (g1 j x y), fun j hj => (l2 j (by omega)).trans (l1 j hj), fun r s' z => ?_⟩
          · rw [hgo (q + 1) s w fi0 G hz h, ob_e e1]
            exact e2
          · rw [hps2, mdB_e (c := fun (r : Nat × (Nat → gCmd)) _ => (r.1 + 1, fun i => if i = 0 then cm else r.2 (i - 1)))]
            exact h2
          · rw [hps2] at z
            obtain ⟨r', s3, a1, a2⟩ := pB_r z
            cases a2
            obtain ⟨b1, b2⟩ := r2 r' _ a1
            refine ⟨?_, fun j hj => ?_⟩
            · rw [b1, show i + 1 + r'.1 = i + (r'.1 + 1) by omega]
            · have hj : j < r'.1 + 1 := hj
              show orF C (if j = 0 then cm else r'.2 (j - 1)) _
              by_cases hj0 : j = 0
              · subst hj0
                rw [if_pos rfl]
                obtain ⟨c1, c2⟩ := o1
                have hx : ∀ x, x < 7 → G2 11 (7 * (i + 0) + x) = G1 11 (7 * i + x) := fun x hx => l2 (7 * i + x) (by omega)
                refine ⟨(hx 0 (by omega)).trans c1, fun z0 x hxC => (hx _ (by omega)).trans (c2.1 z0 x hxC), fun z0 => (hx 1 (by omega)).trans (c2.2.1 z0), fun z0 => (hx 1 (by omega)).trans (c2.2.2.1 z0), fun z0 => ⟨(hx 2 (by omega)).trans (c2.2.2.2.1 z0).1, (hx 3 (by omega)).trans (c2.2.2.2.1 z0).2⟩, fun z0 => (hx 2 (by omega)).trans (c2.2.2.2.2.1 z0), fun z0 => (hx 2 (by omega)).trans (c2.2.2.2.2.2 z0)⟩
              · rw [if_neg hj0]
                have := b2 (j - 1) (by omega)
                rw [show i + 1 + (j - 1) = i + j by omega] at this
                exact this
end MM
