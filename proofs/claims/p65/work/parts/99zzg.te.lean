/-! tables that look the same -/
def TE (S S' : gT) : Prop := S'.1 = S.1 ∧ S'.2.2 = S.2.2 ∧ ∀ c, c < S.1 → S'.2.1 c = S.2.1 c
section TES
variable {S S' S'' : gT}
theorem TE.rf (S : gT) : TE S S := ⟨rfl, rfl, fun _ _ => rfl⟩
theorem TE.tr (h : TE S S') (h2 : TE S' S'') : TE S S'' := ⟨h2.1.trans h.1, h2.2.1.trans h.2.1, fun c hc => (h2.2.2 c (by rw [h.1]; exact hc)).trans (h.2.2 c hc)⟩
theorem TE.cp (U S : gT) : TE U (cpT U S) := ⟨rfl, rfl, fun c hc => if_pos hc⟩
theorem TE.xR (h : TE S S') (h1 : 1 ≤ S.1) : tR S' = tR S := by
  show (S'.2.1 0).1 = (S.2.1 0).1
  rw [h.2.2 0 h1]
theorem TE.xK (h : TE S S') : tK S' = tK S := by
  show S'.2.2.1 = S.2.2.1
  rw [h.2.1]
theorem TE.xI (h : TE S S') (hI : IS S) : IS S' := by
  obtain ⟨⟨g1, g2, g3, g4, g5, g6, g7⟩, h4, hD⟩ := hI
  have hr := h.xR g1
  obtain ⟨e1, e2, e3⟩ := h
  refine ⟨⟨by omega, by omega, fun c hc => ?_, by omega, fun c r hc hrr => ?_, ?_, ?_⟩, by omega, fun c hc p hp => ?_⟩
  · rw [e3 c (by omega), hr]
    exact g3 c (by omega)
  · unfold tV tD
    rw [e3 c (by omega)]
    exact g5 c r (by omega) (by omega)
  · show S'.2.2.1 ≤ 8
    rw [e2]
    exact g6
  · show ∀ i, i < S'.2.2.1 → S'.2.2.2.1 i < S'.1 ∧ vIn (S'.2.2.2.2.1 i) ∧ dOK (S'.2.2.2.2.2 i)
    rw [e1, e2]
    exact g7
  · unfold tD at hp
    rw [e3 c (by omega)] at hp
    exact hD c (by omega) p hp
theorem TE.xN (h : TE S S') (h1 : 1 ≤ S.1) : allN S' = allN S := by
  have hr := h.xR h1
  have hk := h.xK
  obtain ⟨e1, e2, e3⟩ := h
  have a : fb_sm (fun c => dsz (tD S' c)) S'.1 = fb_sm (fun c => dsz (tD S c)) S.1 := by
    rw [e1]
    refine fb_sm_cong (fun k hk => ?_)
    unfold tD
    rw [e3 k hk]
  unfold allN
  rw [a, hr, hk, e1]
theorem TE.xC (h : TE S S') (h1 : 1 ≤ S.1) : ∀ c, c ≤ S.1 → aCols S' c = aCols S c := by
  intro c
  induction c with
  | zero =>
    intro _
    show (3, upd (upd (upd (fun _ => 0) 0 (nI S'.1)) 1 (nI (tR S'))) 2 (nI (tK S'))) = (3, upd (upd (upd (fun _ => 0) 0 (nI S.1)) 1 (nI (tR S))) 2 (nI (tK S)))
    rw [h.1, h.xR h1, h.xK]
  | succ c ih =>
    intro hc
    show aCol S' c (aCols S' c) = aCol S c (aCols S c)
    rw [ih (by omega)]
    have e : S'.2.1 c = S.2.1 c := h.2.2 c (by omega)
    unfold aCol evf tV tD
    rw [e, h.xR h1]
theorem TE.xG (h : TE S S') (h1 : 1 ≤ S.1) : allG S' = allG S := by
  have a : ∀ i, aCons S' i = aCons S i := by
    intro i
    induction i with
    | zero =>
      show aCols S' S'.1 = aCols S S.1
      rw [h.1]
      exact h.xC h1 S.1 (Nat.le_refl _)
    | succ i ih =>
      show aCon S' i (aCons S' i) = aCon S i (aCons S i)
      rw [ih]
      unfold aCon tFc tFv tFd
      rw [h.2.1]
  unfold allG
  rw [a, h.xK]
theorem TE.map (h : TE S S') {f g : Nat → gCol → gCol} (hf : ∀ c, c < S.1 → g c (S.2.1 c) = f c (S.2.1 c)) : TE (mapC f S.1 S) (mapC g S'.1 S') := by
  refine ⟨h.1, h.2.1, fun c hc => ?_⟩
  have hc : c < S.1 := hc
  rw [mapC_col hc, mapC_col (by rw [h.1]; exact hc), h.2.2 c hc]
  exact hf c hc
theorem TE.setc (h : TE S S') {c : Nat} {x x' : gCol} (hx : c < S.1 → x' = x) : TE (setC S c x) (setC S' c x') := by
  refine ⟨h.1, h.2.1, fun k hk => ?_⟩
  have hk : k < S.1 := hk
  show (if k = c then x' else S'.2.1 k) = (if k = c then x else S.2.1 k)
  by_cases z : k = c
  · rw [if_pos z, if_pos z]
    exact hx (by omega)
  · rw [if_neg z, if_neg z]
    exact h.2.2 k hk
theorem TE.xS (h : TE S S') (hG : GS S) (q : Nat) : ssel S' q = ssel S q :=
  ssel_cong h.2.1 (fun i hi => by
    unfold tV
    rw [h.2.2 _ (hG.2.2.2.2.2.2 i hi).1])
theorem TE.del (h : TE S S') (hG : GS S) : TE (delT S) (delT S') := by
  refine h.map (fun c hc => ?_)
  have e : (fun q => !ssel S' q) = (fun q => !ssel S q) := funext fun q => by rw [h.xS hG]
  show opKp (fun q => !ssel S' q) (tR S') (S.2.1 c) = opKp (fun q => !ssel S q) (tR S) (S.2.1 c)
  rw [e, h.xR hG.1]
/-- .. and what acts make of them looks the same -/
theorem TE.xD (h : TE S S') (hG : GS S) (k : Nat) (l4 : Int32) : (aDf k l4 S = none ∧ aDf k l4 S' = none) ∨ ∃ T T', aDf k l4 S = some T ∧ aDf k l4 S' = some T' ∧ TE T T' := by
  have h1 := hG.1
  have hr := h.xR h1
  have hk := h.xK
  have hc := h.1
  have hcol := mo_lt l4 (n := S.1) h1
  unfold aDf
  rw [hr, hk, hc]
  by_cases c0 : k < 6 ∨ tR S = 0
  · rw [if_pos c0, if_pos c0]
    by_cases c1 : tR S = 60
    · rw [if_pos c1, if_pos c1]
      exact .inr ⟨_, _, rfl, rfl, h.del hG⟩
    · rw [if_neg c1, if_neg c1]
      exact .inr ⟨_, _, rfl, rfl, h.map (fun _ _ => rfl)⟩
  · rw [if_neg c0, if_neg c0]
    by_cases c1 : k < 10
    · rw [if_pos c1, if_pos c1]
      exact .inr ⟨_, _, rfl, rfl, h.setc (fun hc => by rw [h.2.2 _ hc])⟩
    · rw [if_neg c1, if_neg c1]
      by_cases c2 : k < 13
      · rw [if_pos c2, if_pos c2]
        refine .inr ⟨_, _, rfl, rfl, h.map (fun c hc => ?_)⟩
        have e : gord S' (mo l4 S.1) (decide (mo (l4 >>> ((5 : Int32) &&& 31)) 2 = 0)) = gord S (mo l4 S.1) (decide (mo (l4 >>> ((5 : Int32) &&& 31)) 2 = 0)) := by
          unfold gord tV
          rw [h.2.2 _ hcol, hr]
        show opRe (gord S' _ _) (S.2.1 c) = opRe (gord S _ _) (S.2.1 c)
        rw [e]
      · rw [if_neg c2, if_neg c2]
        by_cases c3 : k < 19
        · rw [if_pos c3, if_pos c3]
          by_cases c4 : tK S = 8
          · rw [if_pos c4, if_pos c4]
            exact .inl ⟨rfl, rfl⟩
          · rw [if_neg c4, if_neg c4]
            refine .inr ⟨_, _, rfl, rfl, h.1, ?_, h.2.2⟩
            show (addT S' _ _ _).2.2 = (addT S _ _ _).2.2
            unfold addT tFc tFv tFd
            rw [hk, h.2.1]
        · rw [if_neg c3, if_neg c3]
          by_cases c4 : k < 22
          · rw [if_pos c4, if_pos c4]
            by_cases c5 : tK S = 0
            · rw [if_pos c5, if_pos c5]
              exact .inl ⟨rfl, rfl⟩
            · rw [if_neg c5, if_neg c5]
              refine .inr ⟨_, _, rfl, rfl, h.1, ?_, h.2.2⟩
              show (remT S' _).2.2 = (remT S _).2.2
              unfold remT tFc tFv tFd
              rw [hk, h.2.1]
          · rw [if_neg c4, if_neg c4]
            by_cases c5 : k = 22
            · rw [if_pos c5, if_pos c5]
              by_cases c6 : tK S = 0
              · rw [if_pos c6, if_pos c6]
                exact .inl ⟨rfl, rfl⟩
              · rw [if_neg c6, if_neg c6]
                exact .inr ⟨_, _, rfl, rfl, h.del hG⟩
            · rw [if_neg c5, if_neg c5]
              by_cases c6 : k = 23
              · rw [if_pos c6, if_pos c6]
                exact .inr ⟨_, _, rfl, rfl, h.map (fun _ _ => rfl)⟩
              · rw [if_neg c6, if_neg c6]
                exact .inr ⟨_, _, rfl, rfl, h.setc (fun hc => by rw [h.2.2 _ hc])⟩
theorem TE.xT (h : TE S S') (hG : GS S) (x : Int32) : (aT S x = none ∧ aT S' x = none) ∨ ∃ T T', aT S x = some T ∧ aT S' x = some T' ∧ TE T T' := h.xD hG _ _
end TES
section GQS
variable {Q : gQ}
theorem GQ.undo (hG : GQ Q) (hz : 0 < qZ Q) : GQ (cpT (qR Q ((qX Q + 7) % 8)) (qS Q), qU Q, qH Q, ((qX Q + 7) % 8, qZ Q - 1, qR Q), Q.2.2.2.2) := by
  obtain ⟨g1, g2, g3, g4, g5, g6, g7, g8, g9⟩ := hG
  have hl := g3 (qZ Q - 1) (by omega)
  rw [show (qX Q + 8 - qZ Q + (qZ Q - 1)) % 8 = (qX Q + 7) % 8 by omega] at hl
  refine ⟨(hl.cp _).1, g2, fun i hi => ?_, g4, g5, by show (qX Q + 7) % 8 < 8; omega, by show qZ Q - 1 ≤ 8; omega, g8, g9⟩
  have hi : i < qZ Q - 1 := hi
  show GS (qR Q (((qX Q + 7) % 8 + 8 - (qZ Q - 1) + i) % 8))
  rw [show ((qX Q + 7) % 8 + 8 - (qZ Q - 1) + i) % 8 = (qX Q + 8 - qZ Q + i) % 8 by omega]
  exact g3 i (by omega)
theorem GQ.save (hG : GQ Q) : GQ (qS Q, cpT (qS Q) (qU Q), true, Q.2.2.2) := by
  obtain ⟨g1, g2, g3, g4, g5, g6, g7, g8, g9⟩ := hG
  exact ⟨g1, fun _ => (g1.cp _).1, g3, g1.2.1, g5, g6, g7, g8, g9⟩
theorem GQ.rest (hG : GQ Q) (hh : qH Q = true) : GQ (cpT (qU Q) (qS Q), qU Q, qH Q, (qX Q, 0, qR Q), Q.2.2.2.2) := by
  obtain ⟨g1, g2, g3, g4, g5, g6, g7, g8, g9⟩ := hG
  exact ⟨((g2 hh).cp _).1, g2, fun i hi => absurd hi (Nat.not_lt_zero _), g4, g5, g6, Nat.zero_le _, g8, g9⟩
theorem GQ.load (hG : GQ Q) {C R : Nat} {x : Nat → Int32} {e : Int32 × Int32} (hS : GS (repT C R x (qS Q))) : GQ (repT C R x (qS Q), qU Q, false, (qX Q, 0, qR Q), (0, qB Q), e, Q.2.2.2.2.2.2) := by
  obtain ⟨g1, g2, g3, g4, g5, g6, g7, g8, g9⟩ := hG
  exact ⟨hS, fun (z : false = true) => Bool.noConfusion z, fun i hi => absurd hi (Nat.not_lt_zero _), g4, g5, g6, Nat.zero_le _, Nat.zero_le _, g9⟩
/-- one change taken back: the table looks as before -/
theorem undo_TE (hX : qX Q < 8) {A : gQ} {S' : gT} (hq : qs A (qC Q S')) : TE (qS Q) (cpT (qR A ((qX A + 7) % 8)) (qS A)) := by
  obtain ⟨e1, e2, e3, e4⟩ := hq
  have eX : qX A = (qX Q + 1) % 8 := by
    show A.2.2.2.1.1 = _
    rw [e4]
    rfl
  have eR : qR A = fun i => if i = qX Q then cpT (qS Q) (qR Q i) else qR Q i := by
    show A.2.2.2.1.2.2 = _
    rw [e4]
    rfl
  rw [eX, show ((qX Q + 1) % 8 + 7) % 8 = qX Q by omega, eR]
  show TE (qS Q) (cpT (if qX Q = qX Q then cpT (qS Q) (qR Q (qX Q)) else qR Q (qX Q)) (qS A))
  rw [if_pos rfl]
  exact (TE.cp _ _).tr (TE.cp _ _)
end GQS
