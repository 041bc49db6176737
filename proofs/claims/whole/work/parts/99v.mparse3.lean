/-! pure: the reference reads a row and adds it -/
theorem mdg_row (u : Nat → Nat) (L k : Nat) (t : gMd) : mdg (pRow u L k) (mdg (pInt u L) t) = mdg (pRow u L (k + 1)) t := by
  cases t with
  | inl p => rfl
  | inr s =>
    show mdg (pRow u L k) (mdf (pInt u L s)) = mdf (pB (pInt u L s) fun x s1 => pB (pRow u L k s1) fun r s2 => .inr (fun j => if j = 0 then x else r (j - 1), s2))
    cases pInt u L s with
    | inl p => rfl
    | inr q =>
      show mdf (pRow u L k q.2) = mdf (pB (pRow u L k q.2) fun r s2 => .inr (fun j => if j = 0 then q.1 else r (j - 1), s2))
      cases pRow u L k q.2 with
      | inl p => rfl
      | inr q2 => rfl
theorem RY.pf {fi fi' : Nat → Int32} {G G' : Nat → Nat → Int32} {th : Int32} {Q : gQ} (h : RY fi G th Q) (hF : PF fi fi') (hG : PG G G') : RY fi' G' th Q := by
  obtain ⟨a1, a2, a3, a4, a5, a6, a7, a8, a9, a10, a11, a12⟩ := h
  refine ⟨by rw [hF 9 (by decide)]; exact a1, by rw [hF 10 (by decide)]; exact a2, by rw [hF 11 (by decide)]; exact a3, by rw [hF 13 (by decide)]; exact a4, by rw [hF 15 (by decide)]; exact a5, by rw [hF 17 (by decide)]; exact a6, by rw [hF 24 (by decide)]; exact a7, by rw [hG 1 (by decide) (by decide) (by decide)]; exact a8, fun z => by rw [hG 4 (by decide) (by decide) (by decide)]; exact a9 z, fun i hi => by rw [hG 5 (by decide) (by decide) (by decide)]; exact a10 i hi, fun i hi => by rw [hG 9 (by decide) (by decide) (by decide)]; exact a11 i hi, fun i hi => by rw [hG 10 (by decide) (by decide) (by decide)]; exact a12 i hi⟩
theorem PG.o7 {G G' : Nat → Nat → Int32} (h : ∀ j, j ≠ 7 → G' j = G j) : PG G G' := fun j _ b _ => h j b
section MM
variable {E : gE} {w : gWd} {m ro L k0 C : Nat} {fi0 : Nat → Int32} {G : Nat → Nat → Int32} {u : Nat → Nat} {t : gMd} {th : Int32} {Q : gQ}
theorem PQ.st (h : PQ E w m ro fi0 G u L t) (k : Nat) {i : Nat} (h1 : 1 ≤ k) (h2 : k ≤ 11) (hi : i < mz k) (x : Int32) : ∃ w', gwaI E w.1 (m + k) (nI i) x = some w'.1 ∧ FS E J30 w w' ∧ PQ E w' m ro fi0 (updG G k (upd (G k) i x)) u L t := by
  obtain ⟨fi, b1, p1, q1, d1⟩ := h
  obtain ⟨w1, e1, F1, b2⟩ := b1.st k h1 h2 hi x
  exact ⟨w1, e1, F1, fi, b2, p1, q1, d1⟩
theorem PQ.n0 (h : PQ E w m (m + k0) fi0 G u L t) (hk : k0 = 1 ∨ k0 = 2) (hC : G k0 0 = nI C) : gfR w.1 m 11 8 = some (m + k0) ∧ graI E 0 w.1 (m + k0) (0 : Int32) = some (nI C) := by
  obtain ⟨fi, b1, p1, q1, d1⟩ := h
  refine ⟨b1.row, ?_⟩
  have e := b1.rd hk (i := 0) (by omega)
  rw [hC] at e
  exact e
theorem PQ.rowL (hN : 100000 ≤ gN E) (hk0 : k0 = 1 ∨ k0 = 2) (hC6 : C ≤ 6) : ∀ (k i q : Nat) (w : gWd) (G : Nat → Nat → Int32) (t : gMd), i + k = C → k < q → PQ E w m (m + k0) fi0 G u L t → BU G u L → G k0 0 = nI C → ∃ w' G', X13_readRow_2 E q m (nI i) w.1 = some w'.1 ∧ FS E J30 w w' ∧ PQ E w' m (m + k0) fi0 G' u L (mdg (pRow u L k) t) ∧ (∀ j, j ≠ 7 → G' j = G j) ∧ (∀ j, j < i → G' 7 j = G 7 j) ∧ ∀ s r s', t = .inr s → pRow u L k s = .inr (r, s') → ∀ j, j < k → G' 7 (i + j) = r j := by
  intro k
  induction k with
  | zero =>
    intro i q w G t hi hq h hB hC
    obtain ⟨q, rfl⟩ : ∃ z, q = z + 1 := ⟨q - 1, by omega⟩
    obtain ⟨r8, n0⟩ := h.n0 hk0 hC
    refine ⟨w, G, ?_, FS.rf, ?_, fun _ _ => rfl, fun _ _ => rfl, fun s r s' _ _ j hj => absurd hj (Nat.not_lt_zero _)⟩
    · show X13_readRow_2_s E (X13_readRow_2 E q) m (nI i) w.1 = _
      unfold X13_readRow_2_s
      rw [ob_e r8, ob_e n0, if_pos (nI_le (by omega) (by omega))]
    · cases t with
      | inl p => exact h
      | inr s => exact h
  | succ k ih =>
    intro i q w G t hi hq h hB hC
    obtain ⟨q, rfl⟩ : ∃ z, q = z + 1 := ⟨q - 1, by omega⟩
    obtain ⟨r8, n0⟩ := h.n0 hk0 hC
    have r6 : gfR w.1 m 11 6 = some (m + 7) := by
      obtain ⟨fi, b1, -⟩ := id h
      exact b1.f6
    obtain ⟨w1, e1, F1, h1⟩ := h.integer hN hB
    obtain ⟨w2, e2, F2, h2⟩ := h1.st 7 (i := i) (by omega) (by omega) (Nat.lt_of_lt_of_le (show i < 6 by omega) (by decide)) (iv u L t)
    have hg : ∀ j, j ≠ 7 → updG G 7 (upd (G 7) i (iv u L t)) j = G j := fun j hj => updG_o _ _ hj
    obtain ⟨w3, G3, e3, F3, h3, g3, l3, r3⟩ := ih (i + 1) q w2 _ (mdg (pInt u L) t) (by omega) (by omega) h2 (hB.pg (PG.o7 hg)) (by rw [hg k0 (by omega)]; exact hC)
    rw [mdg_row] at h3
    refine ⟨w3, G3, ?_, (F1.trans F2).trans F3, h3, fun j hj => (g3 j hj).trans (hg j hj), fun j hj => ?_, fun s r s' ht hp j hj => ?_⟩
    · show X13_readRow_2_s E (X13_readRow_2 E q) m (nI i) w.1 = _
      unfold X13_readRow_2_s
      rw [ob_e r8, ob_e n0, if_neg (nI_ge (by omega) (by omega)), ob_e r6, ob_e h.cl, ob_e e1, ob_e e2, nI_1]
      exact e3
    · rw [l3 j (by omega), updG_s, upd_o _ _ (by omega)]
    · subst ht
      obtain ⟨x, s1, p1, hp⟩ := pB_r hp
      obtain ⟨r1, s2, p2, hp⟩ := pB_r hp
      cases hp
      have hiv : iv u L (.inr s) = x := by
        unfold iv
        simp only [p1]
      show G3 7 (i + j) = if j = 0 then x else r1 (j - 1)
      by_cases hj0 : j = 0
      · rw [if_pos hj0, hj0, show i + 0 = i from rfl, l3 i (by omega), updG_s, upd_s, hiv]
      · rw [if_neg hj0]
        have hm : mdg (pInt u L) (.inr s) = .inr s1 := by
          show mdf (pInt u L s) = _
          rw [p1]
          rfl
        have := r3 s1 r1 _ hm p2 (j - 1) (by omega)
        rw [show i + 1 + (j - 1) = i + j by omega] at this
        exact this
theorem PQ.readRow (h : PQ E w m (m + k0) fi0 G u L t) (hN : 100000 ≤ gN E) (hk0 : k0 = 1 ∨ k0 = 2) (hC6 : C ≤ 6) (hB : BU G u L) (hC : G k0 0 = nI C) : ∃ w' G', X13_readRow_f E m w.1 = some w'.1 ∧ FS E J30 w w' ∧ PQ E w' m (m + k0) fi0 G' u L (mdg (pRow u L C) t) ∧ (∀ j, j ≠ 7 → G' j = G j) ∧ ∀ s r s', t = .inr s → pRow u L C s = .inr (r, s') → ∀ j, j < C → G' 7 j = r j := by
  obtain ⟨w1, G1, e1, F1, h1, g1, l1, r1⟩ := PQ.rowL hN hk0 hC6 C 0 (gN E) w G t (by omega) (by omega) h hB hC
  refine ⟨w1, G1, e1, F1, h1, g1, fun s r s' ht hp j hj => ?_⟩
  have := r1 s r s' ht hp j hj
  rw [Nat.zero_add] at this
  exact this
theorem MS.startT (h : MS E w m ro fi0 G) (hN : 100000 ≤ gN E) (hB : BU G u L) : ∃ w', X13_startText_f E m (nI L) w.1 = some w'.1 ∧ FS E J30 w w' ∧ PQ E w' m ro fi0 G u L (.inr (tS u L 0)) := by
  obtain ⟨w1, e1, F1, h1⟩ := h.put 18 (nI L) rfl (by decide)
  obtain ⟨w2, e2, F2, h2⟩ := h1.put 19 0 rfl (by decide)
  obtain ⟨w3, e3, F3, h3⟩ := h2.put 22 0 rfl (by decide)
  obtain ⟨w4, e4, F4, h4⟩ := h3.put 25 0 rfl (by decide)
  obtain ⟨w5, f5, e5, F5, h5, t5, p5, c1, c2, c3⟩ := h4.scan (u := u) (L := L) hN rfl hB (e := 0) rfl rfl (Nat.zero_le _)
  obtain ⟨x1, x2, x3, x4, x5, x6, x7⟩ := t5
  refine ⟨w5, ?_, (((F1.trans F2).trans F3).trans F4).trans F5, f5, h5, ((((PF.u _ (by decide) (by decide)).tr (PF.u _ (by decide) (by decide))).tr (PF.u _ (by decide) (by decide))).tr (PF.u _ (by decide) (by decide))).tr p5, c3, ⟨x1, x2, x3, x4, x6, x7⟩, x5⟩
  unfold X13_startText_f X13_startText
  rw [ob_e e1, ob_e e2, ob_e e3, ob_e e4, ob_e h4.cl, ob_e e5]
/-- the error that is told -/
def erf (t : gMd) : Int32 × Int32 := match t with
  | .inl p => (nI p.1, nI p.2)
  | .inr _ => (0, -1)
theorem PQ.faulty (h : PQ E w m ro fi0 G u L t) : ∃ w' fi', X13_isFaulty_f E m w.1 = some (match t with | .inl _ => 1 | .inr _ => 0, w'.1) ∧ FS E J30 w w' ∧ MS E w' m ro fi' G ∧ (∀ j, j < 18 → j ≠ 17 → j ≠ 11 → fi' j = fi0 j) ∧ fi' 17 = 0 ∧ fi' 11 = (erf t).1 ∧ fi' 24 = (erf t).2 ∧ fi' 28 = fi0 28 := by
  obtain ⟨fi, b1, p1, q1, d1⟩ := h
  obtain ⟨w1, e1, F1, h1⟩ := b1.put 17 0 rfl (by decide)
  have r22 : gfI w1.1 m 11 22 = some (fi 22) := gfI_o (x := fi 22) h1.1.2.2 rfl
  have r23 : gfI w1.1 m 11 23 = some (fi 23) := gfI_o (x := fi 23) h1.1.2.2 rfl
  cases t with
  | inl p =>
    obtain ⟨-, a1, a2, a3, a4⟩ := id d1
    obtain ⟨w2, e2, F2, h2⟩ := h1.put 24 (nI p.2) rfl (by decide)
    obtain ⟨w3, e3, F3, h3⟩ := h2.put 11 (nI p.1) rfl (by decide)
    have s22 : gfI w2.1 m 11 22 = some (nI p.1) := by
      rw [← a1]
      exact gfI_o (x := fi 22) h2.1.2.2 rfl
    have hf : X13_finish_f E m w.1 = some (nI p.1, w2.1) := by
      unfold X13_finish_f X13_finish X13_finish_21
      rw [ob_e e1, ob_e r22, if_neg d1.e22, ob_e r23, a2, ob_e e2, ob_e s22]
    refine ⟨w3, _, ?_, (F1.trans F2).trans F3, h3, fun j x1 x2 x3 => ?_, rfl, rfl, rfl, q1⟩
    · unfold X13_isFaulty_f X13_isFaulty
      rw [ob_e b1.cl, ob_e hf, ob_e e3, ob_e (gfI_o (x := nI p.1) h3.1.2.2 rfl), if_neg (nI_ne0 (by omega) (by omega))]
    · rw [upd_o _ _ x3, upd_o _ _ (by omega), upd_o _ _ x2]
      exact p1 j (Or.inl x1)
  | inr s =>
    obtain ⟨-, a1⟩ := id d1
    obtain ⟨w2, e2, F2, h2⟩ := h1.put 24 (-1) rfl (by decide)
    obtain ⟨w3, e3, F3, h3⟩ := h2.put 11 0 rfl (by decide)
    have s22 : gfI w2.1 m 11 22 = some 0 := by
      rw [← a1]
      exact gfI_o (x := fi 22) h2.1.2.2 rfl
    have hf : X13_finish_f E m w.1 = some (0, w2.1) := by
      unfold X13_finish_f X13_finish X13_finish_21
      rw [ob_e e1, ob_e r22, if_pos a1, ob_e e2, ob_e s22]
    refine ⟨w3, _, ?_, (F1.trans F2).trans F3, h3, fun j x1 x2 x3 => ?_, rfl, rfl, rfl, q1⟩
    · unfold X13_isFaulty_f X13_isFaulty
      rw [ob_e b1.cl, ob_e hf, ob_e e3, ob_e (gfI_o (x := 0) h3.1.2.2 rfl), if_pos rfl]
    · rw [upd_o _ _ x3, upd_o _ _ (by omega), upd_o _ _ x2]
      exact p1 j (Or.inl x1)
theorem RY.er {fi fi' : Nat → Int32} {G G' : Nat → Nat → Int32} (h : RY fi G th Q) (hG : PG G G') {e : Int32 × Int32} (hf : ∀ j, j < 18 → j ≠ 17 → j ≠ 11 → fi' j = fi j) (h17 : fi' 17 = 0) (h11 : fi' 11 = e.1) (h24 : fi' 24 = e.2) : RY fi' G' th (qErr (qI Q 0 (qB Q)) e) := by
  obtain ⟨a1, a2, a3, a4, a5, a6, a7, a8, a9, a10, a11, a12⟩ := h.pf (PF.rf) hG
  exact ⟨by rw [hf 9 (by decide) (by decide) (by decide)]; exact a1, by rw [hf 10 (by decide) (by decide) (by decide)]; exact a2, h11, by rw [hf 13 (by decide) (by decide) (by decide)]; exact a4, by rw [hf 15 (by decide) (by decide) (by decide)]; exact a5, h17, h24, a8, a9, a10, a11, fun i hi => by have hi : i < 0 := hi; omega⟩
theorem RX.len (h : RX E w m th Q) (h7 : qN Q ≤ 700) (a : Int32) : X13_isLength_f E w.1 m a = some (if lOK (qN Q) a then 1 else 0) := by
  obtain ⟨fi, G, b1, hY⟩ := h
  have r17 : gfI w.1 m 11 17 = some (fi 17) := gfI_o (x := fi 17) b1.1.2.2 rfl
  rw [hY.2.2.2.2.2.1] at r17
  unfold X13_isLength_f X13_isLength
  rw [ob_e r17, ob_e (in_f a _ _), toI0, nI_toInt (by omega), ob_e (gzif _)]
end MM
