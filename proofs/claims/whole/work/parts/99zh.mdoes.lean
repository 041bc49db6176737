/-! pure: the reference does an order -/
section MM
variable {E : gE} {w : gWd} {m k : Nat} {fi : Nat → Int32} {G : Nat → Nat → Int32} {S : gT}
def DO (E : gE) (w : gWd) (m : Nat) (fi : Nat → Int32) (G : Nat → Nat → Int32) (b : Bool) (S : gT) (o : Option (Int32 × gS)) : Prop := ∃ w' e fi' G', o = some (e, w'.1) ∧ (e = 0 ↔ b = true) ∧ FS E J30 w w' ∧ MX E w' m 1 fi' G' S ∧ (∀ j, j ≠ 12 → fi' j = fi j) ∧ ∀ j, j ≠ 1 → j ≠ 6 → j ≠ 7 → j ≠ 8 → G' j = G j
theorem DO.y {b : Bool} {S' : gT} {o : Option (Int32 × gS)} (hb : b = true) (h : ∃ w' G', o = some (0, w'.1) ∧ FS E J30 w w' ∧ (∃ x, MX E w' m 1 (upd fi 12 x) G' S') ∧ MO 1 G G') : DO E w m fi G b S' o := by
  obtain ⟨w1, G1, e1, F1, ⟨x, h1⟩, o1⟩ := h
  exact ⟨w1, 0, _, G1, e1, ⟨fun _ => hb, fun _ => rfl⟩, F1, h1, fun j hj => upd_o _ _ hj, fun j a c _ d => o1 j a c d⟩
theorem DO.n {b : Bool} {o : Option (Int32 × gS)} {e : Int32} (hb : ¬ b = true) (h : MX E w m 1 fi G S) (he : ¬ e = 0) (ho : o = some (e, w.1)) : DO E w m fi G b S o :=
  ⟨w, e, fi, G, ho, ⟨fun z => absurd z he, fun z => absurd z hb⟩, FS.rf, h, fun _ _ => rfl, fun _ _ _ _ _ => rfl⟩
theorem MX.does (h : MX E w m 1 fi G S) (hN : 100000 ≤ gN E) {i : Nat} {cm : gCmd} (hi : i < 20) (hw : cmW S.1 cm) (ho : orF S.1 cm (fun x => G 11 (7 * i + x))) : DO E w m fi G (cmP S cm) (if cmP S cm = true then cmD S cm else S) (X13_does_f E m ((7 : Int32) * nI i) w.1) := by
  have hG := h.2.2.2
  have h60 := hG.2.2.2.1
  have h8 := hG.2.2.2.2.2.1
  have hC6 := hG.2.1
  obtain ⟨q, cx, cy, cv, cb, cg⟩ := cm
  obtain ⟨o0, oa, ob1, oc, od, oe, of⟩ := ho
  obtain ⟨hq, w1, w2, w3, w4⟩ := hw
  have hq : q < 9 := hq
  have w1 : q ≠ 0 → q ≠ 6 → q ≠ 7 → cx < S.1 := w1
  have w2 : vIn cv := w2
  have w3 : cy < 60 := w3
  have o0 : G 11 (7 * i) = nI q := o0
  have e7 : (7 : Int32) * nI i = nI (7 * i) := nI_mul 7 i
  have ld : ∀ x, x < 7 → graI E 0 w.1 (m + 11) (nI (7 * i + x)) = some (G 11 (7 * i + x)) := fun x hx => h.1.ld 11 (by omega) (by omega) (by rw [mz11]; omega)
  have l0 : graI E 0 w.1 (m + 11) (nI (7 * i)) = some (nI q) := by
    rw [← o0]
    exact ld 0 (by omega)
  have f26 := h.1.f26
  have fst : X13_does_f E m ((7 : Int32) * nI i) w.1 = (if nI q = (0 : Int32) then ob (gfR w.1 m 11 26) fun x14 => ob (gfR w.1 m 11 6) fun x16 => ob (gcopy E w.1 x14 (nI (7 * i + 1)) x16 (0 : Int32) (6 : Int32)) fun x18 => ob (gcl x18 m 11) fun _ => ob (X13_doRow_f E m x18) fun x20 => some (x20.1, x20.2) else if nI q = (1 : Int32) then ob (gfR w.1 m 11 26) fun x24 => ob (graI E 0 w.1 x24 (nI (7 * i + 3))) fun x26 => ob (gcl w.1 m 11) fun _ => ob (X13_doSet_f E m (G 11 (7 * i + 1)) (G 11 (7 * i + 2)) x26 w.1) fun x28 => some (x28.1, x28.2) else if nI q = (2 : Int32) then ob (gcl w.1 m 11) fun _ => ob (X13_doSort_f E m (G 11 (7 * i + 1)) (G 11 (7 * i + 2)) w.1) fun x32 => some (x32.1, x32.2) else if nI q = (3 : Int32) then ob (gcl w.1 m 11) fun _ => ob (X13_doCondition_f E m (G 11 (7 * i + 1)) (G 11 (7 * i + 2)) (-1 : Int32) w.1) fun x36 => some (x36.1, x36.2) else if nI q = (4 : Int32) then ob (gcl w.1 m 11) fun _ => ob (X13_doCondition_f E m (G 11 (7 * i + 1)) (G 11 (7 * i + 2)) (0 : Int32) w.1) fun x40 => some (x40.1, x40.2) else if nI q = (5 : Int32) then ob (gcl w.1 m 11) fun _ => ob (X13_doCondition_f E m (G 11 (7 * i + 1)) (G 11 (7 * i + 2)) (1 : Int32) w.1) fun x44 => some (x44.1, x44.2) else if nI q = (6 : Int32) then ob (gcl w.1 m 11) fun _ => ob (X13_doDrop_f E m (G 11 (7 * i + 1)) w.1) fun x48 => some (x48.1, x48.2) else if nI q = (7 : Int32) then ob (gcl w.1 m 11) fun _ => ob (X13_doDelete_f E m w.1) fun x52 => some (x52.1, x52.2) else ob (gcl w.1 m 11) fun _ => ob (X13_doCompact_f E m (G 11 (7 * i + 1)) w.1) fun x55 => some (x55.1, x55.2)) := by
    unfold X13_does_f X13_does
    rw [e7, ob_e f26, show nI (7 * i) + (1 : Int32) = nI (7 * i + 1) from nI_add _ 1, ob_e (ld 1 (by omega)), ob_e f26, show nI (7 * i) + (2 : Int32) = nI (7 * i + 2) from nI_add _ 2, ob_e (ld 2 (by omega)), ob_e f26, ob_e l0, show nI (7 * i) + (3 : Int32) = nI (7 * i + 3) from nI_add _ 3]
  rw [fst]
  obtain rfl | rfl | rfl | rfl | rfl | rfl | rfl | rfl | rfl : q = 0 ∨ q = 1 ∨ q = 2 ∨ q = 3 ∨ q = 4 ∨ q = 5 ∨ q = 6 ∨ q = 7 ∨ q = 8 := by omega
  · show DO E w m fi G (decide (tR S < 60)) (if decide (tR S < 60) = true then apT S cg else S) _
    obtain ⟨w5, e5, F5, h5⟩ := h.1.cp 11 7 (sp := 7 * i + 1) (dp := 0) (n := 6) (by omega) (by omega) (by omega) (by omega) (by rw [mz11]; omega) (by decide)
    have e5 : gcopy E w.1 (m + 11) (nI (7 * i + 1)) (m + 7) (0 : Int32) (6 : Int32) = some w5.1 := e5
    have h5x : MX E w5 m 1 fi (updG G 7 (va_cpy (G 11) (G 7) (7 * i + 1) 0 6)) S := ⟨h5, Or.inl rfl, by rw [updG_o _ _ (by decide)]; exact h.2.2.1, hG⟩
    by_cases hk : tR S < 60
    · rw [if_pos (decide_eq_true hk), if_pos (by decide), ob_e f26, ob_e h.1.f6, ob_e e5, ob_e h5.cl]
      obtain ⟨w6, G6, e6, F6, h6, o6⟩ := h5x.row hN (z := cg) (fun c hc => w4 c hc rfl) (fun c hc => by
        have e := cpy_in (G 11) (G 7) (sp := 7 * i + 1) (dp := 0) (n := 6) (j := c) (by omega)
        rw [Nat.zero_add] at e
        rw [updG_s, e]
        have e2 := oa rfl c hc
        have e2 : G 11 (7 * i + (1 + c)) = cg c := e2
        rw [← e2]
        congr 1
        omega) hk
      rw [ob_e e6]
      exact ⟨w6, 0, _, G6, rfl, ⟨fun _ => decide_eq_true hk, fun _ => rfl⟩, F5.trans F6, h6, fun j hj => upd_o _ _ hj, fun j a b c d => (o6 j a b d).trans (updG_o _ _ c)⟩
    · rw [if_neg (show ¬ decide (tR S < 60) = true from fun z => hk (of_decide_eq_true z)), if_pos (by decide), ob_e f26, ob_e h.1.f6, ob_e e5, ob_e h5.cl, ob_e (h5x.rowF hk)]
      exact ⟨w5, 2, fi, _, rfl, ⟨fun z => absurd z (by decide), fun z => absurd (of_decide_eq_true z) hk⟩, F5, h5x, fun _ _ => rfl, fun j a b c d => updG_o _ _ c⟩
  · show DO E w m fi G (decide (cy < tR S)) (if decide (cy < tR S) = true then putT1 S cx cy cv else S) _
    have e1 : G 11 (7 * i + 1) = nI cx := ob1 (Or.inl rfl)
    have e2 : G 11 (7 * i + 2) = nI cy := (od rfl).1
    have e3 : G 11 (7 * i + 3) = cv := (od rfl).2
    by_cases hk : cy < tR S
    · obtain ⟨w6, G6, e6, F6, h6, o6⟩ := h.set (w1 (by decide) (by decide) (by decide)) hk w2
      rw [if_pos (decide_eq_true hk), if_neg (by decide), if_pos (by decide), ob_e f26, ob_e (ld 3 (by omega)), ob_e h.1.cl, e1, e2, e3, ob_e e6]
      exact DO.y (decide_eq_true hk) ⟨w6, G6, rfl, F6, ⟨_, h6⟩, o6⟩
    · rw [if_neg (show ¬ decide (cy < tR S) = true from fun z => hk (of_decide_eq_true z)), if_neg (by decide), if_pos (by decide), ob_e f26, ob_e (ld 3 (by omega)), ob_e h.1.cl, e1, e2, e3, ob_e (h.setF (fun z => hk (by have z2 := z.2; rw [rOK, nI_toInt (by omega)] at z2; omega)) cv)]
      exact DO.n (fun z => hk (of_decide_eq_true z)) h i10 rfl
  · show DO E w m fi G true (if true = true then srtT S cx (!cb) else S) _
    have e1 : G 11 (7 * i + 1) = nI cx := ob1 (Or.inr (Or.inl rfl))
    have e2 : G 11 (7 * i + 2) = if cb = true then -1 else 1 := oe rfl
    have e2 : G 11 (7 * i + 2) = if (!cb) = true then (1 : Int32) else -1 := by
      rw [e2]
      cases cb <;> rfl
    rw [if_pos rfl, if_neg (by decide), if_neg (by decide), if_pos (by decide), ob_e h.1.cl, e1, e2]
    obtain ⟨w6, G6, e6, F6, h6, o6⟩ := h.sort hN (w1 (by decide) (by decide) (by decide)) (!cb)
    rw [ob_e e6]
    exact DO.y rfl ⟨w6, G6, rfl, F6, ⟨_, h6⟩, o6⟩
  · show DO E w m fi G (decide (tK S < 8)) (if decide (tK S < 8) = true then addT S cx cv (-1) else S) _
    have e1 : G 11 (7 * i + 1) = nI cx := ob1 (Or.inr (Or.inr (Or.inl rfl)))
    have e2 : G 11 (7 * i + 2) = cv := of (Or.inl rfl)
    by_cases hk : tK S < 8
    · obtain ⟨w6, G6, e6, F6, h6, o6⟩ := h.cond hN (w1 (by decide) (by decide) (by decide)) w2 (d := -1) (Or.inl rfl) hk
      rw [if_pos (decide_eq_true hk), if_neg (by decide), if_neg (by decide), if_neg (by decide), if_pos (by decide), ob_e h.1.cl, e1, e2, ob_e e6]
      exact DO.y (decide_eq_true hk) ⟨w6, G6, rfl, F6, ⟨_, h6⟩, o6⟩
    · rw [if_neg (show ¬ decide (tK S < 8) = true from fun z => hk (of_decide_eq_true z)), if_neg (by decide), if_neg (by decide), if_neg (by decide), if_pos (by decide), ob_e h.1.cl, e1, e2, ob_e (h.condF hk _ _ _)]
      exact DO.n (fun z => hk (of_decide_eq_true z)) h (show ¬ (3 : Int32) = 0 by decide) rfl
  · show DO E w m fi G (decide (tK S < 8)) (if decide (tK S < 8) = true then addT S cx cv 0 else S) _
    have e1 : G 11 (7 * i + 1) = nI cx := ob1 (Or.inr (Or.inr (Or.inr (Or.inl rfl))))
    have e2 : G 11 (7 * i + 2) = cv := of (Or.inr (Or.inl rfl))
    by_cases hk : tK S < 8
    · obtain ⟨w6, G6, e6, F6, h6, o6⟩ := h.cond hN (w1 (by decide) (by decide) (by decide)) w2 (d := 0) (Or.inr (Or.inl rfl)) hk
      rw [if_pos (decide_eq_true hk), if_neg (by decide), if_neg (by decide), if_neg (by decide), if_neg (by decide), if_pos (by decide), ob_e h.1.cl, e1, e2, ob_e e6]
      exact DO.y (decide_eq_true hk) ⟨w6, G6, rfl, F6, ⟨_, h6⟩, o6⟩
    · rw [if_neg (show ¬ decide (tK S < 8) = true from fun z => hk (of_decide_eq_true z)), if_neg (by decide), if_neg (by decide), if_neg (by decide), if_neg (by decide), if_pos (by decide), ob_e h.1.cl, e1, e2, ob_e (h.condF hk _ _ _)]
      exact DO.n (fun z => hk (of_decide_eq_true z)) h (show ¬ (3 : Int32) = 0 by decide) rfl
  · show DO E w m fi G (decide (tK S < 8)) (if decide (tK S < 8) = true then addT S cx cv 1 else S) _
    have e1 : G 11 (7 * i + 1) = nI cx := ob1 (Or.inr (Or.inr (Or.inr (Or.inr (Or.inl rfl)))))
    have e2 : G 11 (7 * i + 2) = cv := of (Or.inr (Or.inr rfl))
    by_cases hk : tK S < 8
    · obtain ⟨w6, G6, e6, F6, h6, o6⟩ := h.cond hN (w1 (by decide) (by decide) (by decide)) w2 (d := 1) (Or.inr (Or.inr rfl)) hk
      rw [if_pos (decide_eq_true hk), if_neg (by decide), if_neg (by decide), if_neg (by decide), if_neg (by decide), if_neg (by decide), if_pos (by decide), ob_e h.1.cl, e1, e2, ob_e e6]
      exact DO.y (decide_eq_true hk) ⟨w6, G6, rfl, F6, ⟨_, h6⟩, o6⟩
    · rw [if_neg (show ¬ decide (tK S < 8) = true from fun z => hk (of_decide_eq_true z)), if_neg (by decide), if_neg (by decide), if_neg (by decide), if_neg (by decide), if_neg (by decide), if_pos (by decide), ob_e h.1.cl, e1, e2, ob_e (h.condF hk _ _ _)]
      exact DO.n (fun z => hk (of_decide_eq_true z)) h (show ¬ (3 : Int32) = 0 by decide) rfl
  · show DO E w m fi G (decide (cy < tK S)) (if decide (cy < tK S) = true then remT S cy else S) _
    have e1 : G 11 (7 * i + 1) = nI cy := oc rfl
    by_cases hk : cy < tK S
    · obtain ⟨w6, G6, e6, F6, h6, o6⟩ := h.drop hN hk
      rw [if_pos (decide_eq_true hk), if_neg (by decide), if_neg (by decide), if_neg (by decide), if_neg (by decide), if_neg (by decide), if_neg (by decide), if_pos (by decide), ob_e h.1.cl, e1, ob_e e6]
      exact DO.y (decide_eq_true hk) ⟨w6, G6, rfl, F6, ⟨_, h6⟩, o6⟩
    · rw [if_neg (show ¬ decide (cy < tK S) = true from fun z => hk (of_decide_eq_true z)), if_neg (by decide), if_neg (by decide), if_neg (by decide), if_neg (by decide), if_neg (by decide), if_neg (by decide), if_pos (by decide), ob_e h.1.cl, e1, ob_e (h.dropF (fun z => hk (by rw [kOK, nI_toInt (by omega)] at z; omega)))]
      exact DO.n (fun z => hk (of_decide_eq_true z)) h i10 rfl
  · show DO E w m fi G true (if true = true then delT S else S) _
    rw [if_pos rfl, if_neg (by decide), if_neg (by decide), if_neg (by decide), if_neg (by decide), if_neg (by decide), if_neg (by decide), if_neg (by decide), if_pos (by decide), ob_e h.1.cl]
    obtain ⟨w6, G6, e6, F6, h6, o6⟩ := h.del hN
    rw [ob_e e6]
    exact DO.y rfl ⟨w6, G6, rfl, F6, ⟨_, h6⟩, o6⟩
  · show DO E w m fi G true (if true = true then cmpT S cx else S) _
    have e1 : G 11 (7 * i + 1) = nI cx := ob1 (Or.inr (Or.inr (Or.inr (Or.inr (Or.inr rfl)))))
    rw [if_pos rfl, if_neg (by decide), if_neg (by decide), if_neg (by decide), if_neg (by decide), if_neg (by decide), if_neg (by decide), if_neg (by decide), if_neg (by decide), ob_e h.1.cl, e1]
    obtain ⟨w6, G6, e6, F6, h6, o6⟩ := h.cmp hN (w1 (by decide) (by decide) (by decide))
    rw [ob_e e6]
    exact DO.y rfl ⟨w6, G6, rfl, F6, ⟨_, h6⟩, o6⟩
theorem rn_loop (hN : 100000 ≤ gN E) {C mm : Nat} {f : Nat → gCmd} (hm : mm ≤ 20) (hf : ∀ i, i < mm → cmW C (f i)) : ∀ (k i q : Nat) (w : gWd) (fi : Nat → Int32) (G : Nat → Nat → Int32) (S : gT), i + k = mm → k < q → MX E w m 1 fi G S → S.1 = C → fi 28 = nI mm → (∀ j, j < mm → orF C (f j) (fun x => G 11 (7 * j + x))) → ∃ w' fi' G', X13_runScript_64 E q m (nI i) w.1 = some (nI (rnS f k i S).1, w'.1) ∧ FS E J30 w w' ∧ MX E w' m 1 fi' G' (rnS f k i S).2 ∧ (∀ j, j ≠ 12 → fi' j = fi j) ∧ ∀ j, j ≠ 1 → j ≠ 6 → j ≠ 7 → j ≠ 8 → G' j = G j := by
  intro k
  induction k with
  | zero =>
    intro i q w fi G S hi hq h hC h28 ho
    obtain ⟨q, rfl⟩ : ∃ z, q = z + 1 := ⟨q - 1, by omega⟩
    have r28 : gfI w.1 m 11 28 = some (fi 28) := gfI_o (x := fi 28) h.1.1.2.2 rfl
    rw [h28] at r28
    refine ⟨w, fi, G, ?_, FS.rf, h, fun _ _ => rfl, fun _ _ _ _ _ => rfl⟩
    show X13_runScript_64_s E (X13_runScript_64 E q) m (nI i) w.1 = _
    unfold X13_runScript_64_s X13_runScript_89
    rw [ob_e r28, if_pos (nI_le (by omega) (by omega))]
    rfl
  | succ k ih =>
    intro i q w fi G S hi hq h hC h28 ho
    obtain ⟨q, rfl⟩ : ∃ z, q = z + 1 := ⟨q - 1, by omega⟩
    have r28 : gfI w.1 m 11 28 = some (fi 28) := gfI_o (x := fi 28) h.1.1.2.2 rfl
    rw [h28] at r28
    subst hC
    have hw := hf i (by omega)
    obtain ⟨w1, e, fi1, G1, e1, he, F1, h1, n1, g1⟩ := h.does hN (show i < 20 by omega) hw (ho i (by omega))
    have hrn : rnS f (k + 1) i S = if cmP S (f i) = true then rnS f k (i + 1) (cmD S (f i)) else (i, S) := rfl
    have hst : X13_runScript_64 E (q + 1) m (nI i) w.1 = if e = 0 then X13_runScript_64 E q m (nI (i + 1)) w1.1 else some (nI i, w1.1) := by
      show X13_runScript_64_s E (X13_runScript_64 E q) m (nI i) w.1 = _
      unfold X13_runScript_64_s X13_runScript_89
      rw [ob_e r28, if_neg (nI_ge (by omega) (by omega)), ob_e h.1.cl, ob_e e1, nI_1]
    by_cases hp : cmP S (f i) = true
    · rw [if_pos hp] at h1
      obtain ⟨w2, fi2, G2, e2, F2, h2, n2, g2⟩ := ih (i + 1) q w1 fi1 G1 _ (by omega) (by omega) h1 (cmD_ok h.2.2.2 hw hp).2 (by rw [n1 28 (by decide)]; exact h28) (fun j hj => by
        rw [g1 11 (by decide) (by decide) (by decide) (by decide)]
        exact ho j hj)
      rw [hrn, if_pos hp]
      refine ⟨w2, fi2, G2, ?_, F1.trans F2, h2, fun j hj => (n2 j hj).trans (n1 j hj), fun j a b c d => (g2 j a b c d).trans (g1 j a b c d)⟩
      rw [hst, if_pos (he.mpr hp)]
      exact e2
    · rw [if_neg hp] at h1
      rw [hrn, if_neg hp]
      refine ⟨w1, fi1, G1, ?_, F1, h1, n1, g1⟩
      rw [hst, if_neg (fun z => hp (he.mp z))]
end MM
