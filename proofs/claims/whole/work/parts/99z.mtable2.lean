/-! pure: the reference reads the rows of a table -/
theorem dcol_cong {v v' : Nat → Int32} : ∀ n, (∀ r, r < n → v r = v' r) → dcol v n = dcol v' n
  | 0, _ => rfl
  | n + 1, h => by
    show dins (dcol v n) (px (v n)) = dins (dcol v' n) (px (v' n))
    rw [dcol_cong n fun r hr => h r (by omega), h n (by omega)]
theorem rc_lt {r C c R : Nat} (hr : r < R) (hc : c < C) : r * C + c < R * C := by
  have h1 : (r + 1) * C ≤ R * C := Nat.mul_le_mul_right _ hr
  rw [Nat.succ_mul] at h1
  omega
theorem rep_cong {g : Nat → Int32} {C R : Nat} {x x' : Nat → Int32} {S : gT} (hC : 0 < C) (h : MT g (repT C R x S)) (hx : ∀ j, j < R * C → x' j = x j) : MT g (repT C R x' S) := by
  have hcol : ∀ (x : Nat → Int32) c, c < C → (repT C R x S).2.1 c = repC C R c x := fun x c hc => if_pos hc
  have hr : ∀ x : Nat → Int32, tR (repT C R x S) = R := fun x => by
    show ((repT C R x S).2.1 0).1 = R
    rw [hcol x 0 hC]
    rfl
  refine h.congS rfl ((hr x').trans (hr x).symm) rfl (fun c r hc hrr => ?_) (fun c hc => ?_)
  · have hc : c < C := hc
    rw [hr] at hrr
    show ((repT C R x' S).2.1 c).2.1 r = ((repT C R x S).2.1 c).2.1 r
    rw [hcol x' c hc, hcol x c hc]
    exact hx _ (rc_lt hrr hc)
  · have hc : c < C := hc
    show ((repT C R x' S).2.1 c).2.2 = ((repT C R x S).2.1 c).2.2
    rw [hcol x' c hc, hcol x c hc]
    exact dcol_cong R fun r hr => hx _ (rc_lt hr hc)
section MM
variable {E : gE} {w : gWd} {m L C : Nat} {fi fi0 : Nat → Int32} {G : Nat → Nat → Int32} {u : Nat → Nat} {t : gMd} {S : gT}
theorem tb_err {ro : Nat} {p : Nat × Nat} (h : PQ E w m ro fi0 G u L (.inl p)) (q : Nat) : X13_readTable_33 E (q + 1) m w.1 = some w.1 := by
  obtain ⟨x, x1, x2⟩ := h.errN
  show X13_readTable_33_s E (X13_readTable_33 E q) m w.1 = _
  unfold X13_readTable_33_s
  rw [ob_e x1, if_neg x2]
/-- in an error a row changes nothing -/
theorem tb_62 (h : ∀ p, t ≠ .inr p) (hP : PQ E w m (m + 2) fi0 G u L t) (hN : 100000 ≤ gN E) (hB : BU G u L) (hC6 : C ≤ 6) (hC : G 2 0 = nI C) (q : Nat) : ∃ w' G', X13_readTable_62 E (X13_readTable_33 E (q + 1)) m w.1 = some w'.1 ∧ FS E J30 w w' ∧ PQ E w' m (m + 2) fi0 G' u L t ∧ PG G G' := by
  cases t with
  | inr s => exact absurd rfl (h s)
  | inl p =>
    obtain ⟨w1, G1, e1, F1, p1, g1, -⟩ := hP.readRow hN (Or.inr rfl) hC6 hB hC
    have p1 : PQ E w1 m (m + 2) fi0 G1 u L (.inl p) := p1
    obtain ⟨w2, e2, F2, p2⟩ := p1.expect hN (hB.pg (PG.o7 g1))
    have p2 : PQ E w2 m (m + 2) fi0 G1 u L (.inl p) := p2
    obtain ⟨x, x1, x2⟩ := p2.errN
    refine ⟨w2, G1, ?_, F1.trans F2, p2, PG.o7 g1⟩
    unfold X13_readTable_62
    rw [ob_e hP.cl, ob_e e1, ob_e p1.cl, ob_e e2, ob_e x1, if_neg x2]
    exact tb_err p2 q
theorem tb_loop (hN : 100000 ≤ gN E) (hC1 : 1 ≤ C) (hC6 : C ≤ 6) : ∀ (k q r : Nat) (w : gWd) (G : Nat → Nat → Int32) (t : gMd) (x : Nat → Int32), r + k = 60 → k + 1 < q → PQ E w m (m + 2) fi0 G u L t → BU G u L → (∀ j, j < r * C → vIn (x j)) → MT (G 2) (repT C r x S) → ∃ w' G', X13_readTable_33 E q m w.1 = some w'.1 ∧ FS E J30 w w' ∧ PQ E w' m (m + 2) fi0 G' u L (mdg (pTab u L C k) t) ∧ PG G G' ∧ ∀ s qq s', t = .inr s → pTab u L C k s = .inr (qq, s') → MT (G' 2) (repT C (r + qq.1) (fun j => if j < r * C then x j else qq.2 (j - r * C)) S) := by
  have hrow : ∀ (r : Nat) (x : Nat → Int32), tR (repT C r x S) = r := fun r x => by
    show ((repT C r x S).2.1 0).1 = r
    have e : (repT C r x S).2.1 0 = repC C r 0 x := if_pos (by omega)
    rw [e]
    rfl
  have hend : ∀ (k q r s : Nat) (w : gWd) (G : Nat → Nat → Int32) (x : Nat → Int32), kd u L s = 0 → PQ E w m (m + 2) fi0 G u L (.inr s) → MT (G 2) (repT C r x S) → pTab u L C k s = .inr ((0, fun _ => 0), s) → ∃ w' G', X13_readTable_33 E (q + 1) m w.1 = some w'.1 ∧ FS E J30 w w' ∧ PQ E w' m (m + 2) fi0 G' u L (mdg (pTab u L C k) (.inr s)) ∧ PG G G' ∧ ∀ s0 qq s', (.inr s : gMd) = .inr s0 → pTab u L C k s0 = .inr (qq, s') → MT (G' 2) (repT C (r + qq.1) (fun j => if j < r * C then x j else qq.2 (j - r * C)) S) := fun k q r s w G x hz h hT hp => by
    have r21 : gfI w.1 m 11 21 = some (nI (tkn (kd u L s))) := by
      obtain ⟨fi, c1, c2, c3, c4⟩ := id h
      rw [← c4.1.2.2.2.1]
      exact gfI_o (x := fi 21) c1.1.2.2 rfl
    refine ⟨w, G, ?_, FS.rf, ?_, PG.rf, fun s0 qq s' z z2 => ?_⟩
    · show X13_readTable_33_s E (X13_readTable_33 E q) m w.1 = _
      unfold X13_readTable_33_s
      rw [ob_e h.err0, if_pos rfl, ob_e r21, if_pos (show nI (tkn (kd u L s)) = 0 from by rw [hz]; rfl)]
    · show PQ E w m (m + 2) fi0 G u L (mdf (pTab u L C k s))
      rw [hp]
      exact h
    · cases z
      rw [hp] at z2
      cases z2
      exact rep_cong hC1 hT fun j hj => if_pos hj
  have hmid : ∀ (q r s : Nat) (w : gWd) (G : Nat → Nat → Int32) (x : Nat → Int32), ¬ kd u L s = 0 → r ≤ 60 → PQ E w m (m + 2) fi0 G u L (.inr s) → MT (G 2) (repT C r x S) → X13_readTable_33 E (q + 1) m w.1 = if r = 60 then ob (X13_refuseRow_f E m w.1) fun x21 => X13_readTable_62 E (X13_readTable_33 E q) m x21 else X13_readTable_62 E (X13_readTable_33 E q) m w.1 := fun q r s w G x hz hr h hT => by
    have r21 : gfI w.1 m 11 21 = some (nI (tkn (kd u L s))) := by
      obtain ⟨fi, c1, c2, c3, c4⟩ := id h
      rw [← c4.1.2.2.2.1]
      exact gfI_o (x := fi 21) c1.1.2.2 rfl
    have htl := tkn_le (kd u L s)
    have hn1 : gfR w.1 m 11 8 = some (m + 2) ∧ graI E 0 w.1 (m + 2) (1 : Int32) = some (nI r) := by
      obtain ⟨fi, b1, -⟩ := id h
      refine ⟨b1.row, ?_⟩
      have e := b1.rd (Or.inr rfl) (i := 1) (by omega)
      rw [hT.2.1, hrow] at e
      exact e
    show X13_readTable_33_s E (X13_readTable_33 E q) m w.1 = _
    unfold X13_readTable_33_s
    rw [ob_e h.err0, if_pos rfl, ob_e r21, if_neg (show ¬ nI (tkn (kd u L s)) = 0 from fun y => hz ((tkn_0 _).mp ((nI_eqI (b := 0) (by omega) (by omega)).mp y))), ob_e hn1.1, ob_e hn1.2]
    by_cases h60 : r = 60
    · rw [if_pos (show nI r = (60 : Int32) from by rw [h60]; rfl), if_pos h60, ob_e h.cl]
    · rw [if_neg (show ¬ nI r = (60 : Int32) from fun y => h60 ((nI_eqI (b := 60) (by omega) (by omega)).mp y)), if_neg h60]
  intro k
  induction k with
  | zero =>
    intro q r w G t x hr hq h hB hx hT
    obtain ⟨q, rfl⟩ : ∃ z, q = z + 2 := ⟨q - 2, by omega⟩
    cases t with
    | inl p => exact ⟨w, G, tb_err h _, FS.rf, h, PG.rf, fun s qq s' z => by cases z⟩
    | inr s =>
      by_cases hz : kd u L s = 0
      · exact hend 0 (q + 1) r s w G x hz h hT (by unfold pTab; rw [if_pos hz])
      · obtain ⟨w1, e1, F1, p1⟩ := h.refuse hN hB
        obtain ⟨w2, G2, e2, F2, p2, g2⟩ := tb_62 (fun p z => by cases z) p1 hN hB hC6 hT.1 q
        have hp : pTab u L C 0 s = .inl (pExtra u L s) := by
          unfold pTab
          rw [if_neg hz]
        refine ⟨w2, G2, ?_, F1.trans F2, ?_, g2, fun s0 qq s' z z2 => ?_⟩
        · rw [hmid (q + 1) r s w G x hz (by omega) h hT, if_pos (by omega), ob_e e1]
          exact e2
        · show PQ E w2 m (m + 2) fi0 G2 u L (mdf (pTab u L C 0 s))
          rw [hp]
          exact p2
        · cases z
          rw [hp] at z2
          cases z2
  | succ k ih =>
    intro q r w G t x hr hq h hB hx hT
    obtain ⟨q, rfl⟩ : ∃ z, q = z + 2 := ⟨q - 2, by omega⟩
    cases t with
    | inl p => exact ⟨w, G, tb_err h _, FS.rf, h, PG.rf, fun s qq s' z => by cases z⟩
    | inr s =>
      by_cases hz : kd u L s = 0
      · exact hend (k + 1) (q + 1) r s w G x hz h hT (by unfold pTab; rw [if_pos hz])
      · obtain ⟨w1, G1, e1, F1, p1, g1, v1⟩ := h.readRow hN (Or.inr rfl) hC6 hB hT.1
        have p1 : PQ E w1 m (m + 2) fi0 G1 u L (mdf (pRow u L C s)) := p1
        have hB1 := hB.pg (PG.o7 g1)
        obtain ⟨w2, e2, F2, p2⟩ := p1.expect hN hB1
        have hpt : pTab u L C (k + 1) s = pB (pRow u L C s) fun r s1 => pB (pSemi u L s1) fun _ s2 => pB (pTab u L C k s2) fun q s3 => .inr ((q.1 + 1, fun j => if j < C then r j else q.2 (j - C)), s3) := by
          show (if kd u L s = 0 then _ else _) = _
          rw [if_neg hz]
        have hgo : X13_readTable_33 E (q + 2) m w.1 = ob (gfI w2.1 m 11 22) fun x7 => if x7 = 0 then ob (gcl w2.1 m 11) fun _ => ob (X13_putRow_f E m w2.1) fun x9 => X13_readTable_33 E (q + 1) m x9 else X13_readTable_33 E (q + 1) m w2.1 := by
          rw [hmid (q + 1) r s w G x hz (by omega) h hT, if_neg (by omega)]
          unfold X13_readTable_62
          rw [ob_e h.cl, ob_e e1, ob_e p1.cl, ob_e e2]
        have bad : ∀ p, mdg (pSemi u L) (mdf (pRow u L C s)) = .inl p → pTab u L C (k + 1) s = .inl p → ∃ w' G', X13_readTable_33 E (q + 2) m w.1 = some w'.1 ∧ FS E J30 w w' ∧ PQ E w' m (m + 2) fi0 G' u L (mdg (pTab u L C (k + 1)) (.inr s)) ∧ PG G G' ∧ ∀ s0 qq s', (.inr s : gMd) = .inr s0 → pTab u L C (k + 1) s0 = .inr (qq, s') → MT (G' 2) (repT C (r + qq.1) (fun j => if j < r * C then x j else qq.2 (j - r * C)) S) := fun p z1 z2 => by
          rw [z1] at p2
          obtain ⟨y, y1, y2⟩ := p2.errN
          refine ⟨w2, G1, ?_, F1.trans F2, ?_, PG.o7 g1, fun s0 qq s' z z3 => ?_⟩
          · rw [hgo, ob_e y1, if_neg y2]
            exact tb_err p2 q
          · show PQ E w2 m (m + 2) fi0 G1 u L (mdf (pTab u L C (k + 1) s))
            rw [z2]
            exact p2
          · cases z
            rw [z2] at z3
            cases z3
        cases hp1 : pRow u L C s with
        | inl p =>
          refine bad p (by rw [hp1]; rfl) ?_
          rw [hpt, hp1]
          rfl
        | inr rs =>
          obtain ⟨r1, s1⟩ := rs
          by_cases hse : kd u L s1 = 4
          · have hps : pSemi u L s1 = .inr ((), tN u L s1) := if_pos hse
            have hmode : mdg (pSemi u L) (mdf (pRow u L C s)) = .inr (tN u L s1) := by
              rw [hp1]
              show mdf (pSemi u L s1) = _
              rw [hps]
              rfl
            rw [hmode] at p2
            have hv1 := pRow_v C s hp1
            have hx' : ∀ j, j < (r + 1) * C → vIn (if j < r * C then x j else r1 (j - r * C)) := fun j hj => by
              rw [Nat.succ_mul] at hj
              split
              · exact hx j ‹_›
              · exact hv1 _ (by omega)
            have hT1 : MT (G1 2) (repT C r (fun j => if j < r * C then x j else r1 (j - r * C)) S) := by
              rw [g1 2 (by decide)]
              exact rep_cong hC1 hT fun j hj => if_pos hj
            obtain ⟨hG1, -⟩ := GS.rep (R := r) (x := fun j => if j < r * C then x j else r1 (j - r * C)) (S := S) hC1 hC6 (by omega) (fun j hj => by
              show vIn (if j < r * C then x j else r1 (j - r * C))
              rw [if_pos hj]
              exact hx j hj)
            obtain ⟨fi, b2, pf2, n2, d2⟩ := id p2
            have hX : MX E w2 m 2 fi G1 (repT C r (fun j => if j < r * C then x j else r1 (j - r * C)) S) := ⟨b2, Or.inr rfl, hT1, hG1⟩
            obtain ⟨w3, G3, e3, F3, h3, o3⟩ := hX.putR (z := r1) hN (fun c hc => hv1 c hc) (fun c hc => v1 s r1 s1 rfl hp1 c hc) (by rw [hrow]; omega)
            have hap : apT (repT C r (fun j => if j < r * C then x j else r1 (j - r * C)) S) r1 = repT C (r + 1) (fun j => if j < r * C then x j else r1 (j - r * C)) S := by
              rw [← repT_s]
              exact mapC_cong fun c hc => by
                show opAp (r1 c) _ = opAp (if r * C + c < r * C then _ else r1 (r * C + c - r * C)) _
                rw [if_neg (by omega), Nat.add_sub_cancel_left]
            rw [hap] at h3
            have hPG3 : PG G1 G3 := fun j a _ _ => o3 j a
            have P3 : PQ E w3 m (m + 2) fi0 G3 u L (.inr (tN u L s1)) := ⟨fi, h3.1, pf2, n2, d2⟩
            obtain ⟨w4, G4, e4, F4, p4, g4, T4⟩ := ih (q + 1) (r + 1) w3 G3 (.inr (tN u L s1)) (fun j => if j < r * C then x j else r1 (j - r * C)) (by omega) (by omega) P3 (hB1.pg hPG3) hx' h3.2.2.1
            have hpt2 : pTab u L C (k + 1) s = pB (pTab u L C k (tN u L s1)) fun q s3 => .inr ((q.1 + 1, fun j => if j < C then r1 j else q.2 (j - C)), s3) := by
              rw [hpt, hp1]
              show pB (pSemi u L s1) _ = _
              rw [hps]
              rfl
            refine ⟨w4, G4, ?_, ((F1.trans F2).trans F3).trans F4, ?_, ((PG.o7 g1).tr hPG3).tr g4, fun s0 qq s' z z2 => ?_⟩
            · rw [hgo, ob_e p2.err0, if_pos rfl, ob_e p2.cl, ob_e e3]
              exact e4
            · have p4 : PQ E w4 m (m + 2) fi0 G4 u L (mdf (pTab u L C k (tN u L s1))) := p4
              show PQ E w4 m (m + 2) fi0 G4 u L (mdf (pTab u L C (k + 1) s))
              rw [hpt2]
              cases hk : pTab u L C k (tN u L s1) with
              | inl p =>
                rw [hk] at p4
                exact p4
              | inr qs =>
                rw [hk] at p4
                exact p4
            · cases z
              rw [hpt2] at z2
              obtain ⟨q2, s2, a1, a2⟩ := pB_r z2
              cases a2
              have hT4 := T4 _ _ _ rfl a1
              have e : (fun j => if j < (r + 1) * C then (if j < r * C then x j else r1 (j - r * C)) else q2.2 (j - (r + 1) * C)) = fun j => if j < r * C then x j else if j - r * C < C then r1 (j - r * C) else q2.2 (j - r * C - C) := by
                funext j
                rw [Nat.succ_mul]
                by_cases y : j < r * C
                · rw [if_pos (by omega), if_pos y, if_pos y]
                · rw [if_neg y, if_neg y]
                  by_cases y2 : j - r * C < C
                  · rw [if_pos (by omega), if_pos y2]
                  · rw [if_neg (by omega), if_neg y2, Nat.sub_add_eq]
              rw [e, show r + 1 + q2.1 = r + (q2.1 + 1) by omega] at hT4
              exact hT4
          · have hps : pSemi u L s1 = .inl (1, s1) := if_neg hse
            refine bad (1, s1) ?_ ?_
            · rw [hp1]
              show mdf (pSemi u L s1) = _
              rw [hps]
              rfl
            · rw [hpt, hp1]
              show pB (pSemi u L s1) _ = _
              rw [hps]
              rfl
end MM
