/-! pure: the reference reads a table -/
theorem lkv_in (u : Nat → Nat) (L : Nat) (t : gMd) : 1 ≤ lkv u L 1 6 t ∧ lkv u L 1 6 t ≤ 6 := by
  cases t with
  | inl p => exact ⟨by show 1 ≤ 1; omega, by show 1 ≤ 6; omega⟩
  | inr s =>
    show 1 ≤ (match pNum u L 1 6 s with
      | .inl _ => 1
      | .inr q => q.1) ∧ (match pNum u L 1 6 s with
      | .inl _ => 1
      | .inr q => q.1) ≤ 6
    unfold pNum
    by_cases h3 : kd u L s = 3
    · rw [if_pos h3]
      by_cases h : tNum u L s < 1 ∨ 6 < tNum u L s
      · rw [if_pos h]
        exact ⟨Nat.le_refl 1, by show 1 ≤ 6; omega⟩
      · rw [if_neg h]
        exact ⟨by show 1 ≤ tNum u L s; omega, by show tNum u L s ≤ 6; omega⟩
    · rw [if_neg h3]
      exact ⟨Nat.le_refl 1, by show 1 ≤ 6; omega⟩
section MM
variable {E : gE} {w : gWd} {m L : Nat} {fi fi0 : Nat → Int32} {G : Nat → Nat → Int32} {u : Nat → Nat} {t : gMd}
theorem PQ.readTable {s : Nat} (h : PQ E w m (m + 2) fi0 G u L (.inr s)) (hO : gOK E) (hB : BU G u L) (S : gT) : ∃ w' G', X13_readTable_f E m w.1 = some w'.1 ∧ FS E J30 w w' ∧ PQ E w' m (m + 2) fi0 G' u L (mdf (pTable u L s)) ∧ PG G G' ∧ ∀ q s', pTable u L s = .inr (q, s') → MT (G' 2) (repT q.1 q.2.1 q.2.2 S) := by
  have hN := hO.1
  have hs : sOf E (gst E 11) txtT := hO.2.1 11 (by decide)
  have hw := h.word hN hB hs
  obtain ⟨w1, e1, F1, p1⟩ := h.check (wdv u L txtT (.inr s)) (c := 1) (by decide)
  have e1 : X13_check_f E m _ (1 : Int32) w.1 = some w1.1 := e1
  obtain ⟨w2, e2, F2, p2⟩ := p1.advance hN hB
  have ht1 : adv u L (chk (wdv u L txtT (.inr s)) 1 (.inr s)) = if isW u L s txtT = true then .inr (tN u L s) else .inl (1, s) := by
    show adv u L (if (if isW u L s txtT = true then (1 : Int32) else 0) = 0 then .inl (1, s) else .inr s) = _
    by_cases z : isW u L s txtT = true
    · rw [if_pos z, if_neg i10, if_pos z]
      rfl
    · rw [if_neg z, if_pos rfl, if_neg z]
      rfl
  rw [ht1] at p2
  generalize hg1 : (if isW u L s txtT = true then .inr (tN u L s) else .inl (1, s) : gMd) = t1 at p2
  obtain ⟨w3, e3, F3, p3⟩ := p2.number hN hB (lo := 1) (hi := 6) (by omega) (by omega)
  have e3 : X13_readNumber_f E m (1 : Int32) (6 : Int32) w2.1 = some (nI (lkv u L 1 6 t1), w3.1) := e3
  obtain ⟨hC1, hC6⟩ := lkv_in u L t1
  generalize hCC : lkv u L 1 6 t1 = C at e3 hC1 hC6
  obtain ⟨fi, b3, pf3, n3, d3⟩ := id p3
  obtain ⟨w4, G4, e4, F4, h4, g4⟩ := b3.begin_ hN (Or.inr rfl) hC1 hC6 (fun _ => 0) S
  have P4 : PQ E w4 m (m + 2) fi0 G4 u L (mdg (pNum u L 1 6) t1) := ⟨fi, h4.1, pf3, n3, d3⟩
  have hPG4 : PG G G4 := fun j a _ _ => g4 j a
  have hB4 := hB.pg hPG4
  obtain ⟨w5, e5, F5, p5⟩ := P4.expect hN hB4
  obtain ⟨w6, G6, e6, F6, p6, g6, T6⟩ := tb_loop (S := S) hN hC1 hC6 60 (gN E) 0 w5 G4 _ (fun _ => 0) (by omega) (by omega) p5 hB4 (fun j hj => by rw [Nat.zero_mul] at hj; omega) h4.2.2.1
  refine ⟨w6, G6, ?_, ((((F1.trans F2).trans F3).trans F4).trans F5).trans F6, ?_, hPG4.tr g6, fun q s' hp => ?_⟩
  · unfold X13_readTable_f X13_readTable
    rw [ob_e h.cl, ob_e hw, ob_e h.cl, ob_e e1, ob_e p1.cl, ob_e e2, ob_e p2.cl, ob_e e3, ob_e p3.cl, ob_e e4, ob_e P4.cl, ob_e e5]
    exact e6
  · have em : mdg (pTab u L C 60) (mdg (pSemi u L) (mdg (pNum u L 1 6) t1)) = mdf (pTable u L s) := by
      unfold pTable
      by_cases z : isW u L s txtT = true
      · rw [if_pos z] at hg1 ⊢
        subst hg1
        have hl : lkv u L 1 6 (.inr (tN u L s)) = match pNum u L 1 6 (tN u L s) with
          | .inl _ => 1
          | .inr q => q.1 := rfl
        show mdg (pTab u L C 60) (mdg (pSemi u L) (mdf (pNum u L 1 6 (tN u L s)))) = _
        rw [hl] at hCC
        cases hn : pNum u L 1 6 (tN u L s) with
        | inl p => rfl
        | inr c1 =>
          rw [hn] at hCC
          have hCC : c1.1 = C := hCC
          show mdg (pTab u L C 60) (mdf (pSemi u L c1.2)) = mdf (pB (pSemi u L c1.2) fun _ s2 => pB (pTab u L c1.1 60 s2) fun q s3 => .inr ((c1.1, q.1, q.2), s3))
          rw [hCC]
          cases pSemi u L c1.2 with
          | inl p => rfl
          | inr c2 =>
            show mdf (pTab u L C 60 c2.2) = mdf (pB (pTab u L C 60 c2.2) fun q s3 => .inr ((C, q.1, q.2), s3))
            cases pTab u L C 60 c2.2 with
            | inl p => rfl
            | inr c3 => rfl
      · rw [if_neg z] at hg1 ⊢
        subst hg1
        rfl
    rw [← em]
    exact p6
  · unfold pTable at hp
    by_cases z : isW u L s txtT = true
    · rw [if_pos z] at hp hg1
      subst hg1
      obtain ⟨c1, s1, a1, hp⟩ := pB_r hp
      obtain ⟨_, s2, a2, hp⟩ := pB_r hp
      obtain ⟨qq, s3, a3, hp⟩ := pB_r hp
      cases hp
      have hl : lkv u L 1 6 (.inr (tN u L s)) = match pNum u L 1 6 (tN u L s) with
        | .inl _ => 1
        | .inr q => q.1 := rfl
      rw [hl, a1] at hCC
      have hCC : c1 = C := hCC
      subst hCC
      have hm : mdg (pSemi u L) (mdg (pNum u L 1 6) (.inr (tN u L s))) = .inr s2 := by
        show mdg (pSemi u L) (mdf (pNum u L 1 6 (tN u L s))) = _
        rw [a1]
        show mdf (pSemi u L s1) = _
        rw [a2]
        rfl
      have hT := T6 s2 qq _ hm a3
      rw [Nat.zero_add] at hT
      exact rep_cong hC1 hT fun j _ => by rw [Nat.zero_mul, if_neg (Nat.not_lt_zero _), Nat.sub_zero]
    · rw [if_neg z] at hp
      cases hp
end MM
