/-! pure: the reference reads the numbers of an order -/
/-- an order's cells stand for a command's numbers -/
def orA (C : Nat) (cm : gCmd) (g : Nat → Int32) : Prop :=
  (cm.1 = 0 → ∀ j, j < C → g (1 + j) = cm.2.2.2.2.2 j) ∧ (cm.1 = 1 ∨ cm.1 = 2 ∨ cm.1 = 3 ∨ cm.1 = 4 ∨ cm.1 = 5 ∨ cm.1 = 8 → g 1 = nI cm.2.1) ∧ (cm.1 = 6 → g 1 = nI cm.2.2.1) ∧ (cm.1 = 1 → g 2 = nI cm.2.2.1 ∧ g 3 = cm.2.2.2.1) ∧ (cm.1 = 2 → g 2 = if cm.2.2.2.2.1 = true then -1 else 1) ∧ (cm.1 = 3 ∨ cm.1 = 4 ∨ cm.1 = 5 → g 2 = cm.2.2.2.1)
theorem mdf_r {α : Type} {r : gPr α} {x : α} {s : Nat} (h : r = .inr (x, s)) : mdf r = .inr s := by
  rw [h]
  rfl
theorem mdB_e {α β : Type} {r : gPr α} {c : α → Nat → β} : mdf (pB r fun x s => .inr (c x s, s)) = mdf r := by
  cases r with
  | inl p => rfl
  | inr q => rfl
theorem mdB_f {α β γ : Type} {r : gPr α} {k : α → Nat → gPr β} {f : Nat → gPr γ} (hk : ∀ x s, mdf (k x s) = mdf (f s)) : mdf (pB r k) = mdg f (mdf r) := by
  cases r with
  | inl p => rfl
  | inr q => exact hk _ _
theorem lkv_r {u : Nat → Nat} {L lo hi s x s1 : Nat} (h : pNum u L lo hi s = .inr (x, s1)) : lkv u L lo hi (.inr s) = x := by
  unfold lkv
  simp only [h]
theorem iv_r {u : Nat → Nat} {L s s1 : Nat} {x : Int32} (h : pInt u L s = .inr (x, s1)) : iv u L (.inr s) = x := by
  unfold iv
  simp only [h]
theorem PG.o11 {G G' : Nat → Nat → Int32} (h : ∀ j, j ≠ 11 → G' j = G j) : PG G G' := fun j _ _ c => h j c
theorem mz11 : mz 11 = 140 := rfl
section MM
variable {E : gE} {w : gWd} {m ro L : Nat} {fi0 : Nat → Int32} {G : Nat → Nat → Int32} {u : Nat → Nat} {t : gMd}
theorem PQ.f26 (h : PQ E w m ro fi0 G u L t) : gfR w.1 m 11 26 = some (m + 11) := by
  obtain ⟨fi, b1, -⟩ := h
  exact b1.f26
theorem PQ.nst (h : PQ E w m ro fi0 G u L t) (hN : 100000 ≤ gN E) (hB : BU G u L) {hi j : Nat} (hhi : hi ≤ 9999) (hj : j < 140) : ∃ w1 w2 : gWd, X13_readNumber_f E m (0 : Int32) (nI hi) w.1 = some (nI (lkv u L 0 hi t), w1.1) ∧ gwaI E w1.1 (m + 11) (nI j) (nI (lkv u L 0 hi t)) = some w2.1 ∧ FS E J30 w w2 ∧ PQ E w2 m ro fi0 (updG G 11 (upd (G 11) j (nI (lkv u L 0 hi t)))) u L (mdg (pNum u L 0 hi) t) := by
  obtain ⟨w1, e1, F1, h1⟩ := h.number hN hB (lo := 0) (hi := hi) hhi (Nat.zero_le _)
  obtain ⟨w2, e2, F2, h2⟩ := h1.st 11 (i := j) (by omega) (by omega) (by rw [mz11]; exact hj) (nI (lkv u L 0 hi t))
  exact ⟨w1, w2, e1, e2, F1.trans F2, h2⟩
theorem PQ.ist (h : PQ E w m ro fi0 G u L t) (hN : 100000 ≤ gN E) (hB : BU G u L) {j : Nat} (hj : j < 140) : ∃ w1 w2 : gWd, X13_readInteger_f E m w.1 = some (iv u L t, w1.1) ∧ gwaI E w1.1 (m + 11) (nI j) (iv u L t) = some w2.1 ∧ FS E J30 w w2 ∧ PQ E w2 m ro fi0 (updG G 11 (upd (G 11) j (iv u L t))) u L (mdg (pInt u L) t) := by
  obtain ⟨w1, e1, F1, h1⟩ := h.integer hN hB
  obtain ⟨w2, e2, F2, h2⟩ := h1.st 11 (i := j) (by omega) (by omega) (by rw [mz11]; exact hj) (iv u L t)
  exact ⟨w1, w2, e1, e2, F1.trans F2, h2⟩
/-- the kinds with an integer behind the column -/
theorem PQ.r120 (h : PQ E w m ro fi0 G u L t) (hN : 100000 ≤ gN E) (hB : BU G u L) {a : Nat} (ha : a + 7 ≤ 140) : ∃ w2 : gWd, X13_readNumbers_120 E m (nI a) w.1 = some w2.1 ∧ FS E J30 w w2 ∧ PQ E w2 m ro fi0 (updG G 11 (upd (G 11) (a + 2) (iv u L t))) u L (mdg (pInt u L) t) := by
  obtain ⟨w1, w2, e1, e2, F2, h2⟩ := h.ist hN hB (j := a + 2) (by omega)
  refine ⟨w2, ?_, F2, h2⟩
  unfold X13_readNumbers_120
  rw [ob_e h.f26, ob_e h.cl, ob_e e1, show nI a + (2 : Int32) = nI (a + 2) from nI_add a 2, ob_e e2]
def NR (E : gE) (w : gWd) (m ro : Nat) (fi0 : Nat → Int32) (G : Nat → Nat → Int32) (u : Nat → Nat) (L C a : Nat) (r : gPr gCmd) (o : Option gS) : Prop :=
  ∃ w' G', o = some w'.1 ∧ FS E J30 w w' ∧ PQ E w' m ro fi0 G' u L (mdf r) ∧ (∀ j, j ≠ 11 → G' j = G j) ∧ (∀ j, j < a + 1 → G' 11 j = G 11 j) ∧ ∀ cm s', r = .inr (cm, s') → orA C cm (fun j => G' 11 (a + j))
theorem PQ.nums {s : Nat} (h : PQ E w m (m + 1) fi0 G u L (.inr s)) (hO : gOK E) (hB : BU G u L) {C k a : Nat} (hC : G 1 0 = nI C) (hC1 : 1 ≤ C) (hC6 : C ≤ 6) (hk : 1 ≤ k) (hk9 : k < 9) (ha : a + 7 ≤ 140) : NR E w m (m + 1) fi0 G u L C a (pArgs u L C k s) (X13_readNumbers_f E m (nI a) (nI k) w.1) := by
  have hN := hO.1
  obtain ⟨r8, n0⟩ := h.n0 (k0 := 1) (Or.inl rfl) hC
  have hC' : nI C - (1 : Int32) = nI (C - 1) := nI_sub1 hC1
  have ea1 : nI a + (1 : Int32) = nI (a + 1) := nI_add a 1
  have ea2 : nI a + (2 : Int32) = nI (a + 2) := nI_add a 2
  have ea3 : nI a + (3 : Int32) = nI (a + 3) := nI_add a 3
  have hgg : ∀ {x : Int32} {j : Nat}, ∀ q, q ≠ 11 → updG G 11 (upd (G 11) j x) q = G q := fun q hq => updG_o _ _ hq
  obtain ⟨w1, w2, e1, e2, F2, h2⟩ := h.nst hN hB (hi := C - 1) (j := a + 1) (by omega) (by omega)
  have h2 : PQ E w2 m (m + 1) fi0 (updG G 11 (upd (G 11) (a + 1) (nI (lkv u L 0 (C - 1) (.inr s))))) u L (mdf (pNum u L 0 (C - 1) s)) := h2
  have hB2 := hB.pg (PG.o11 (hgg (x := nI (lkv u L 0 (C - 1) (.inr s))) (j := a + 1)))
  -- kinds 3, 4, 5
  have hcond : ∀ k, k = 3 ∨ k = 4 ∨ k = 5 → X13_readNumbers_f E m (nI a) (nI k) w.1 = X13_readNumbers_120 E m (nI a) w2.1 → NR E w m (m + 1) fi0 G u L C a (pArgs u L C k s) (X13_readNumbers_f E m (nI a) (nI k) w.1) := fun k hk3 he => by
    have hpa : pArgs u L C k s = pB (pNum u L 0 (C - 1) s) fun x s1 => pB (pInt u L s1) fun v s2 => .inr ((k, x, 0, v, false, fun _ => 0), s2) := by
      unfold pArgs
      rw [if_neg (by omega), if_neg (by omega), if_neg (by omega), if_neg (by omega), if_neg (by omega), if_neg (by omega)]
    obtain ⟨w3, e3, F3, h3⟩ := h2.r120 hN hB2 ha
    have em : mdf (pArgs u L C k s) = mdg (pInt u L) (mdf (pNum u L 0 (C - 1) s)) := by
      rw [hpa, mdB_f (f := pInt u L) (fun x s1 => mdB_e (c := fun v _ => (k, x, 0, v, false, fun _ => 0)))]
    rw [← em] at h3
    refine ⟨w3, _, he.trans e3, F2.trans F3, h3, fun j hj => (updG_o _ _ hj).trans (updG_o _ _ hj), fun j hj => ?_, fun cm s' hp => ?_⟩
    · rw [updG_s, upd_o _ _ (by omega), updG_s, upd_o _ _ (by omega)]
    · rw [hpa] at hp
      obtain ⟨x, s1, p1, hp⟩ := pB_r hp
      obtain ⟨v, s2, p2, hp⟩ := pB_r hp
      cases hp
      rw [lkv_r p1, mdf_r p1, iv_r p2]
      refine ⟨fun z => ?_, fun _ => ?_, fun z => ?_, fun z => ?_, fun z => ?_, fun _ => ?_⟩
      · have z : k = 0 := z
        omega
      · show updG _ 11 _ 11 (a + 1) = nI x
        rw [updG_s, upd_o _ _ (by omega), updG_s, upd_s]
      · have z : k = 6 := z
        omega
      · have z : k = 1 := z
        omega
      · have z : k = 2 := z
        omega
      · show updG _ 11 _ 11 (a + 2) = v
        rw [updG_s, upd_s]
  have h35 : ∀ k, ¬ nI k = (7 : Int32) → ¬ nI k = (6 : Int32) → X13_readNumbers_f E m (nI a) (nI k) w.1 = X13_readNumbers_35 E m (nI a) (nI k) (nI (C - 1)) 0 m (nI (a + 1)) (m + 11) w.1 := fun k h7 h6 => by
    unfold X13_readNumbers_f X13_readNumbers
    rw [if_neg h7, ob_e h.f26, if_neg h6, ob_e r8, ob_e n0, hC', ea1]
  obtain rfl | rfl | rfl | rfl | rfl | rfl | rfl | rfl : k = 1 ∨ k = 2 ∨ k = 3 ∨ k = 4 ∨ k = 5 ∨ k = 6 ∨ k = 7 ∨ k = 8 := by omega
  · obtain ⟨w3, w4, e3, e4, F4, h4⟩ := h2.nst hN hB2 (hi := 59) (j := a + 2) (by omega) (by omega)
    have hB4 := hB2.pg (G' := _) (PG.o11 (fun q hq => updG_o _ (upd (updG G 11 (upd (G 11) (a + 1) (nI (lkv u L 0 (C - 1) (.inr s)))) 11) (a + 2) (nI (lkv u L 0 59 (mdf (pNum u L 0 (C - 1) s))))) hq))
    obtain ⟨w5, w6, e5, e6, F6, h6⟩ := h4.ist hN hB4 (j := a + 3) (by omega)
    have hpa : pArgs u L C 1 s = pB (pNum u L 0 (C - 1) s) fun x s1 => pB (pNum u L 0 59 s1) fun y s2 => pB (pInt u L s2) fun v s3 => .inr ((1, x, y, v, false, fun _ => 0), s3) := rfl
    have em : mdf (pArgs u L C 1 s) = mdg (pInt u L) (mdg (pNum u L 0 59) (mdf (pNum u L 0 (C - 1) s))) := by
      rw [hpa]
      cases pNum u L 0 (C - 1) s with
      | inl p => rfl
      | inr q =>
        show mdf (pB (pNum u L 0 59 q.2) _) = mdg (pInt u L) (mdf (pNum u L 0 59 q.2))
        exact mdB_f (f := pInt u L) fun y s2 => mdB_e
    rw [← em] at h6
    refine ⟨w6, _, ?_, (F2.trans F4).trans F6, h6, fun j hj => ((updG_o _ _ hj).trans (updG_o _ _ hj)).trans (updG_o _ _ hj), fun j hj => ?_, fun cm s' hp => ?_⟩
    · rw [h35 1 (by decide) (by decide)]
      unfold X13_readNumbers_35
      rw [ob_e h.cl, ob_e e1, ob_e e2, if_pos (by decide), ob_e h2.f26, ob_e h2.cl]
      have e3 : X13_readNumber_f E m (0 : Int32) (59 : Int32) w2.1 = _ := e3
      rw [ob_e e3, ea2, ob_e e4, ob_e h4.f26, ob_e h4.cl, ob_e e5, ea3, ob_e e6]
    · rw [updG_s, upd_o _ _ (by omega), updG_s, upd_o _ _ (by omega), updG_s, upd_o _ _ (by omega)]
    · rw [hpa] at hp
      obtain ⟨x, s1, p1, hp⟩ := pB_r hp
      obtain ⟨y, s2, p2, hp⟩ := pB_r hp
      obtain ⟨v, s3, p3, hp⟩ := pB_r hp
      cases hp
      have em : mdg (pNum u L 0 59) (.inr s1) = .inr s2 := mdf_r p2
      rw [lkv_r p1, mdf_r p1, lkv_r p2, em, iv_r p3]
      refine ⟨fun z => ?_, fun _ => ?_, fun z => ?_, fun _ => ⟨?_, ?_⟩, fun z => ?_, fun z => ?_⟩
      · cases z
      · show updG _ 11 _ 11 (a + 1) = nI x
        rw [updG_s, upd_o _ _ (by omega), updG_s, upd_o _ _ (by omega), updG_s, upd_s]
      · cases z
      · show updG _ 11 _ 11 (a + 2) = nI y
        rw [updG_s, upd_o _ _ (by omega), updG_s, upd_s]
      · show updG _ 11 _ 11 (a + 3) = v
        rw [updG_s, upd_s]
      · cases z
      · have z : (1 : Nat) = 3 ∨ (1 : Nat) = 4 ∨ (1 : Nat) = 5 := z
        omega
  · have hs : sOf E (gst E 12) txtD := hO.2.1 12 (by decide)
    obtain ⟨w3, e3, F3, h3⟩ := h2.accept hN hB2 hs
    obtain ⟨w4, e4, F4, h4⟩ := h3.st 11 (i := a + 2) (by omega) (by omega) (by rw [mz11]; omega) (if wdv u L txtD (mdf (pNum u L 0 (C - 1) s)) = 0 then 1 else -1)
    have hpa : pArgs u L C 2 s = pB (pNum u L 0 (C - 1) s) fun x s1 => .inr ((2, x, 0, 0, isW u L s1 txtD, fun _ => 0), if isW u L s1 txtD = true then tN u L s1 else s1) := rfl
    have em : mdf (pArgs u L C 2 s) = acm u L txtD (mdf (pNum u L 0 (C - 1) s)) := by
      rw [hpa]
      cases pNum u L 0 (C - 1) s with
      | inl p => rfl
      | inr q =>
        show (.inr (if isW u L q.2 txtD = true then tN u L q.2 else q.2) : gMd) = if isW u L q.2 txtD = true then .inr (tN u L q.2) else .inr q.2
        split <;> rfl
    rw [← em] at h4
    refine ⟨w4, _, ?_, (F2.trans F3).trans F4, h4, fun j hj => (updG_o _ _ hj).trans (updG_o _ _ hj), fun j hj => ?_, fun cm s' hp => ?_⟩
    · rw [h35 2 (by decide) (by decide)]
      unfold X13_readNumbers_35 X13_readNumbers_101
      rw [ob_e h.cl, ob_e e1, ob_e e2, if_neg (by decide), if_pos (by decide), ob_e h2.f26, ob_e h2.cl, ob_e e3, ea2]
      by_cases z : wdv u L txtD (mdf (pNum u L 0 (C - 1) s)) = 0
      · rw [if_pos z] at e4
        rw [if_pos z, ob_e e4]
      · rw [if_neg z] at e4
        rw [if_neg z, ob_e e4]
    · rw [updG_s, upd_o _ _ (by omega), updG_s, upd_o _ _ (by omega)]
    · rw [hpa] at hp
      obtain ⟨x, s1, p1, hp⟩ := pB_r hp
      cases hp
      rw [lkv_r p1, mdf_r p1]
      refine ⟨fun z => ?_, fun _ => ?_, fun z => ?_, fun z => ?_, fun _ => ?_, fun z => ?_⟩
      · cases z
      · show updG _ 11 _ 11 (a + 1) = nI x
        rw [updG_s, upd_o _ _ (by omega), updG_s, upd_s]
      · cases z
      · cases z
      · show updG _ 11 _ 11 (a + 2) = if isW u L s1 txtD = true then -1 else 1
        rw [updG_s, upd_s]
        show (if (if isW u L s1 txtD = true then (1 : Int32) else 0) = 0 then (1 : Int32) else -1) = _
        by_cases z : isW u L s1 txtD = true
        · rw [if_pos z, if_neg i10, if_pos z]
        · rw [if_neg z, if_pos rfl, if_neg z]
      · have z : (2 : Nat) = 3 ∨ (2 : Nat) = 4 ∨ (2 : Nat) = 5 := z
        omega
  · refine hcond 3 (Or.inl rfl) ?_
    rw [h35 3 (by decide) (by decide)]
    unfold X13_readNumbers_35
    rw [ob_e h.cl, ob_e e1, ob_e e2, if_neg (by decide), if_neg (by decide), if_pos (by decide)]
  · refine hcond 4 (Or.inr (Or.inl rfl)) ?_
    rw [h35 4 (by decide) (by decide)]
    unfold X13_readNumbers_35
    rw [ob_e h.cl, ob_e e1, ob_e e2, if_neg (by decide), if_neg (by decide), if_neg (by decide), if_pos (by decide)]
  · refine hcond 5 (Or.inr (Or.inr rfl)) ?_
    rw [h35 5 (by decide) (by decide)]
    unfold X13_readNumbers_35
    rw [ob_e h.cl, ob_e e1, ob_e e2, if_neg (by decide), if_neg (by decide), if_neg (by decide), if_neg (by decide), if_pos (by decide)]
  · obtain ⟨w3, w4, e3, e4, F4, h4⟩ := h.nst hN hB (hi := 7) (j := a + 1) (by omega) (by omega)
    have hpa : pArgs u L C 6 s = pB (pNum u L 0 7 s) fun y s1 => .inr ((6, 0, y, 0, false, fun _ => 0), s1) := rfl
    have em : mdf (pArgs u L C 6 s) = mdf (pNum u L 0 7 s) := by rw [hpa, mdB_e (c := fun y _ => (6, 0, y, 0, false, fun _ => 0))]
    have h4 : PQ E w4 m (m + 1) fi0 _ u L (mdf (pNum u L 0 7 s)) := h4
    rw [← em] at h4
    refine ⟨w4, _, ?_, F4, h4, fun j hj => updG_o _ _ hj, fun j hj => ?_, fun cm s' hp => ?_⟩
    · have e3 : X13_readNumber_f E m (0 : Int32) (7 : Int32) w.1 = _ := e3
      unfold X13_readNumbers_f X13_readNumbers
      rw [if_neg (by decide), ob_e h.f26, if_pos (by decide), ea1]
      unfold X13_readNumbers_35
      rw [ob_e h.cl, ob_e e3, ob_e e4, if_neg (by decide), if_neg (by decide), if_neg (by decide), if_neg (by decide), if_neg (by decide)]
    · rw [updG_s, upd_o _ _ (by omega)]
    · rw [hpa] at hp
      obtain ⟨x, s1, p1, hp⟩ := pB_r hp
      cases hp
      rw [lkv_r p1]
      refine ⟨fun z => ?_, fun z => ?_, fun _ => ?_, fun z => ?_, fun z => ?_, fun z => ?_⟩
      · cases z
      · have z : (6 : Nat) = 1 ∨ (6 : Nat) = 2 ∨ (6 : Nat) = 3 ∨ (6 : Nat) = 4 ∨ (6 : Nat) = 5 ∨ (6 : Nat) = 8 := z
        omega
      · show updG _ 11 _ 11 (a + 1) = nI x
        rw [updG_s, upd_s]
      · cases z
      · cases z
      · have z : (6 : Nat) = 3 ∨ (6 : Nat) = 4 ∨ (6 : Nat) = 5 := z
        omega
  · have hpa : pArgs u L C 7 s = .inr ((7, 0, 0, 0, false, fun _ => 0), s) := rfl
    refine ⟨w, G, ?_, FS.rf, ?_, fun j hj => rfl, fun j hj => rfl, fun cm s' hp => ?_⟩
    · unfold X13_readNumbers_f X13_readNumbers
      rw [if_pos (by decide)]
    · rw [hpa]
      exact h
    · rw [hpa] at hp
      cases hp
      refine ⟨fun z => ?_, fun z => ?_, fun z => ?_, fun z => ?_, fun z => ?_, fun z => ?_⟩
      · cases z
      · have z : (7 : Nat) = 1 ∨ (7 : Nat) = 2 ∨ (7 : Nat) = 3 ∨ (7 : Nat) = 4 ∨ (7 : Nat) = 5 ∨ (7 : Nat) = 8 := z
        omega
      · cases z
      · cases z
      · cases z
      · have z : (7 : Nat) = 3 ∨ (7 : Nat) = 4 ∨ (7 : Nat) = 5 := z
        omega
  · have hpa : pArgs u L C 8 s = pB (pNum u L 0 (C - 1) s) fun x s1 => .inr ((8, x, 0, 0, false, fun _ => 0), s1) := rfl
    have em : mdf (pArgs u L C 8 s) = mdf (pNum u L 0 (C - 1) s) := by rw [hpa, mdB_e (c := fun x _ => (8, x, 0, 0, false, fun _ => 0))]
    rw [← em] at h2
    refine ⟨w2, _, ?_, F2, h2, fun j hj => updG_o _ _ hj, fun j hj => ?_, fun cm s' hp => ?_⟩
    · rw [h35 8 (by decide) (by decide)]
      unfold X13_readNumbers_35
      rw [ob_e h.cl, ob_e e1, ob_e e2, if_neg (by decide), if_neg (by decide), if_neg (by decide), if_neg (by decide), if_neg (by decide)]
    · rw [updG_s, upd_o _ _ (by omega)]
    · rw [hpa] at hp
      obtain ⟨x, s1, p1, hp⟩ := pB_r hp
      cases hp
      rw [lkv_r p1]
      refine ⟨fun z => ?_, fun _ => ?_, fun z => ?_, fun z => ?_, fun z => ?_, fun z => ?_⟩
      · cases z
      · show updG _ 11 _ 11 (a + 1) = nI x
        rw [updG_s, upd_s]
      · cases z
      · cases z
      · cases z
      · have z : (8 : Nat) = 3 ∨ (8 : Nat) = 4 ∨ (8 : Nat) = 5 := z
        omega
end MM
