/-! pure: rows are written -/
abbrev gOb : Type := Nat × (Nat → Int32)
def pByt (o : gOb) (b : Nat) : gOb := (o.1 + 1, upd o.2 o.1 (nI b))
def pDig (n : Nat) : Nat → gOb → gOb
  | 0, o => pByt o (48 + n % 10)
  | k + 1, o => pDig n k (pByt o (48 + n / 10 ^ (k + 1) % 10))
/-- one less than the number of digits, up to four -/
def pLen (n : Nat) : Nat := if n < 10 then 0 else if n < 100 then 1 else if n < 1000 then 2 else 3
def pSgn (v : Int32) (o : gOb) : gOb := if v.toInt < 0 then pByt o 45 else o
def pVal (v : Int32) (o : gOb) : gOb := pDig v.toInt.natAbs (pLen v.toInt.natAbs) (pSgn v o)
/-- the first c values of row r -/
def pRw (S : gT) (r : Nat) : Nat → gOb → gOb
  | 0, o => o
  | c + 1, o => pVal (tV S c r) (if c = 0 then pRw S r c o else pByt (pRw S r c o) 32)
def pLine (S : gT) (r : Nat) (o : gOb) : gOb := if ssel S r = true then pByt (pRw S r S.1 o) 42 else pRw S r S.1 o
theorem pDig_n (n : Nat) : ∀ k o, (pDig n k o).1 = o.1 + k + 1
  | 0, o => rfl
  | k + 1, o => by
    have := pDig_n n k (pByt o (48 + n / 10 ^ (k + 1) % 10))
    have e : (pByt o (48 + n / 10 ^ (k + 1) % 10)).1 = o.1 + 1 := rfl
    show (pDig n k (pByt o _)).1 = _
    omega
theorem pLen_le (n : Nat) : pLen n ≤ 3 := by
  unfold pLen
  repeat' split
  all_goals omega
theorem pSgn_n (v : Int32) (o : gOb) : o.1 ≤ (pSgn v o).1 ∧ (pSgn v o).1 ≤ o.1 + 1 := by
  unfold pSgn
  split
  · exact ⟨Nat.le_succ _, Nat.le_refl _⟩
  · omega
theorem pVal_n (v : Int32) (o : gOb) : o.1 ≤ (pVal v o).1 ∧ (pVal v o).1 ≤ o.1 + 5 := by
  have h1 := pDig_n v.toInt.natAbs (pLen v.toInt.natAbs) (pSgn v o)
  have h2 := pLen_le v.toInt.natAbs
  have h3 := pSgn_n v o
  unfold pVal
  omega
theorem pRw_n (S : gT) (r : Nat) (o : gOb) : ∀ c, (pRw S r c o).1 ≤ o.1 + 6 * c - (if c = 0 then 0 else 1)
  | 0 => by
    show o.1 ≤ _
    simp
  | c + 1 => by
    have ih := pRw_n S r o c
    show (pVal (tV S c r) (if c = 0 then pRw S r c o else pByt (pRw S r c o) 32)).1 ≤ _
    have h1 := (pVal_n (tV S c r) (if c = 0 then pRw S r c o else pByt (pRw S r c o) 32)).2
    rw [if_neg (show ¬ c + 1 = 0 by omega)]
    by_cases h0 : c = 0
    · rw [if_pos h0] at h1 ih ⊢
      omega
    · rw [if_neg h0] at h1 ih ⊢
      have e : (pByt (pRw S r c o) 32).1 = (pRw S r c o).1 + 1 := rfl
      omega
theorem ten_lt {n j : Nat} (hn : n ≤ 9999) (hj : j ≤ 3) : (10 ^ j ≤ n / 10 ↔ j < pLen n) := by
  unfold pLen
  obtain rfl | rfl | rfl | rfl : j = 0 ∨ j = 1 ∨ j = 2 ∨ j = 3 := by omega
  all_goals
    repeat' split
    all_goals omega
theorem nar_d {b : Nat} (h : b < 128) : vp_nar .byte (gi2b (nI b)) = nI b := by
  rw [nar_b]
  exact fa_byte_small h
section KX
variable {E : gE} {w : gWd} {l : Nat} {ad : Nat → Nat} {Q : gQ}
theorem RK.pb (h : RK E w l ad Q) (hL : qL Q < 36) {b : Nat} (hb : b < 128) : ∃ w', X12_putByte_f E l (nI b) w.1 = some w'.1 ∧ FS E J25 w w' ∧ RK E w' l ad (qOut Q (pByt Q.2.2.2.2.2.2 b)) := by
  obtain ⟨g, h7, h8⟩ := h.2.2.2.2.2.2.1
  obtain ⟨e1, A1, F1⟩ := h7.st (i := qL Q) hL (by decide) (gi2b (nI b)) (J := fun t => t = (11, 25, 0)) rfl
  have O1 := h.1.fr F1 (t3_ne (by decide))
  obtain ⟨e2, O2, F2⟩ := O1.put (E := E) 7 (.int (nI (qL Q + 1))) (Nat.le_of_ble_eq_true rfl) (J := fun t => t = (10, 25, 0)) rfl
  have FF : FS E J25 w _ := (F1.mono (fun t z => by rw [z])).trans (F2.mono (fun t z => by rw [z]))
  refine ⟨_, ?_, FF, h.own (b := qH Q) (o := pByt Q.2.2.2.2.2.2 b) FF O2 ⟨_, A1.fr F2 (t3_ne (by decide)), fun i hi => ?_⟩⟩
  · unfold X12_putByte_f X12_putByte
    rw [ob_e (gfI_o h.1.2.2 rfl), ob_e h.f6, ob_e h7.2.2.len, if_neg (nI_ge hL (by decide)), ob_e h.f6, ob_e (gfI_o h.1.2.2 rfl), ob_e e1, ob_e (gfI_o O1.2.2 rfl), ← nI_succ, ob_e e2]
  · have hi : i < qL Q + 1 := hi
    show upd g (qL Q) (vp_nar .byte (gi2b (nI b))) i = upd (qO Q) (qL Q) (nI b) i
    unfold upd
    by_cases hz : i = qL Q
    · rw [if_pos hz, if_pos hz, nar_d hb]
    · rw [if_neg hz, if_neg hz]
      exact h8 i (by omega)
theorem pn33 (hN : 100000 ≤ gN E) {n : Nat} (hn : n ≤ 9999) : ∀ (j m : Nat) (w : gWd) (Q : gQ), j ≤ 3 → j + 1 < m → RK E w l ad Q → qL Q + j + 1 ≤ 36 → ∃ w', X12_putNumber_33 E m l (nI n) (nI (10 ^ j)) w.1 = some w'.1 ∧ FS E J25 w w' ∧ RK E w' l ad (qOut Q (pDig n j Q.2.2.2.2.2.2)) := by
  have last : ∀ (m : Nat) (w : gWd), X12_putNumber_33 E (m + 1) l (nI n) 0 w.1 = some w.1 := by
    intro m w
    show X12_putNumber_33_s E (X12_putNumber_33 E m) l (nI n) 0 w.1 = _
    unfold X12_putNumber_33_s
    rw [if_pos (by decide)]
  have one : ∀ (j m : Nat) (w : gWd) (Q : gQ), j ≤ 3 → RK E w l ad Q → qL Q < 36 → ∃ w', X12_putNumber_33 E (m + 1) l (nI n) (nI (10 ^ j)) w.1 = X12_putNumber_33 E m l (nI n) (nI (10 ^ j / 10)) w'.1 ∧ FS E J25 w w' ∧ RK E w' l ad (qOut Q (pByt Q.2.2.2.2.2.2 (48 + n / 10 ^ j % 10))) := by
    intro j m w Q hj h hL
    have hp : 1 ≤ 10 ^ j ∧ 10 ^ j ≤ 1000 := by
      obtain rfl | rfl | rfl | rfl : j = 0 ∨ j = 1 ∨ j = 2 ∨ j = 3 := by omega
      all_goals decide
    obtain ⟨w1, e1, F1, h1⟩ := h.pb hL (b := 48 + n / 10 ^ j % 10) (by omega)
    refine ⟨w1, ?_, F1, h1⟩
    have hd : nI n / nI (10 ^ j) = nI (n / 10 ^ j) := nI_div (by omega) (by omega)
    have hle : n / 10 ^ j ≤ n := Nat.div_le_self _ _
    have hr : nI (n / 10 ^ j) - nI (n / 10 ^ j) / (10 : Int32) * (10 : Int32) = nI (n / 10 ^ j % 10) := pk_rem (d := 10) (by omega) (by decide) (by decide)
    have hs : (48 : Int32) + nI (n / 10 ^ j % 10) = nI (48 + n / 10 ^ j % 10) := nI_add 48 _
    have ht : nI (10 ^ j) / (10 : Int32) = nI (10 ^ j / 10) := nI_div (b := 10) (by omega) (by decide)
    have hz : gnz (nI (10 ^ j)) = some () := by
      unfold gnz
      rw [if_neg (nI_ne0 (by omega) (by omega))]
    show X12_putNumber_33_s E (X12_putNumber_33 E m) l (nI n) (nI (10 ^ j)) w.1 = _
    unfold X12_putNumber_33_s
    rw [if_neg (nI_nle (by omega) (by omega)), ob_e hz, ob_e h.cl, hd, hr, hs, ob_e e1, ht]
  intro j
  induction j with
  | zero =>
    intro m w Q hj hm h hL
    obtain ⟨m, rfl⟩ : ∃ q, m = q + 2 := ⟨m - 2, by omega⟩
    obtain ⟨w1, e1, F1, h1⟩ := one 0 (m + 1) w Q hj h (by omega)
    refine ⟨w1, ?_, F1, ?_⟩
    · rw [e1]
      exact last m w1
    · have : n / 10 ^ 0 % 10 = n % 10 := by rw [Nat.pow_zero, Nat.div_one]
      rw [this] at h1
      exact h1
  | succ j ih =>
    intro m w Q hj hm h hL
    obtain ⟨m, rfl⟩ : ∃ q, m = q + 1 := ⟨m - 1, by omega⟩
    obtain ⟨w1, e1, F1, h1⟩ := one (j + 1) m w Q hj h (by omega)
    obtain ⟨w2, e2, F2, h2⟩ := ih m w1 _ (by omega) (by omega) h1 (by show qL Q + 1 + j + 1 ≤ 36; omega)
    refine ⟨w2, ?_, F1.trans F2, h2⟩
    rw [e1, show 10 ^ (j + 1) / 10 = 10 ^ j by rw [Nat.pow_succ]; omega]
    exact e2
theorem pn17 (hN : 100000 ≤ gN E) {n : Nat} (hn : n ≤ 9999) : ∀ (k j m : Nat) (σ : gS), j + k = pLen n → k < m → X12_putNumber_17 E m l (nI n) (nI (10 ^ j)) σ = X12_putNumber_33 E (gN E) l (nI n) (nI (10 ^ pLen n)) σ := by
  have h3 := pLen_le n
  have hd : nI n / (10 : Int32) = nI (n / 10) := nI_div (b := 10) (by omega) (by decide)
  intro k
  induction k with
  | zero =>
    intro j m σ hj hm
    obtain ⟨m, rfl⟩ : ∃ q, m = q + 1 := ⟨m - 1, by omega⟩
    have hp : 10 ^ j ≤ 1000 := by
      obtain rfl | rfl | rfl | rfl : j = 0 ∨ j = 1 ∨ j = 2 ∨ j = 3 := by omega
      all_goals decide
    have ht := ten_lt hn (j := j) (by omega)
    show X12_putNumber_17_s E (X12_putNumber_17 E m) l (nI n) (nI (10 ^ j)) σ = _
    unfold X12_putNumber_17_s
    rw [hd, if_pos (nI_lt (by omega) (by omega)), show pLen n = j by omega]
  | succ k ih =>
    intro j m σ hj hm
    obtain ⟨m, rfl⟩ : ∃ q, m = q + 1 := ⟨m - 1, by omega⟩
    have ht := ten_lt hn (j := j) (by omega)
    have hI := ih (j + 1) m σ (by omega) (by omega)
    show X12_putNumber_17_s E (X12_putNumber_17 E m) l (nI n) (nI (10 ^ j)) σ = _
    unfold X12_putNumber_17_s
    rw [hd, if_neg (nI_nlt (by omega) (by omega)), show nI (10 ^ j) * (10 : Int32) = nI (10 ^ (j + 1)) from by rw [Nat.pow_succ]; exact nI_mul _ 10]
    exact hI
theorem RK.pnum (hN : 100000 ≤ gN E) (h : RK E w l ad Q) {v : Int32} (hv : vIn v) (hL : qL Q + 5 ≤ 36) : ∃ w', X12_putNumber_f E l v w.1 = some w'.1 ∧ FS E J25 w w' ∧ RK E w' l ad (qOut Q (pVal v Q.2.2.2.2.2.2)) := by
  have q1 := hv.1
  have q2 := hv.2
  have hn : v.toInt.natAbs ≤ 9999 := by omega
  have h3 := pLen_le v.toInt.natAbs
  have core : ∀ (w : gWd) (Q : gQ), RK E w l ad Q → qL Q + 4 ≤ 36 → ∃ w', X12_putNumber_15 E l (nI v.toInt.natAbs) w.1 = some w'.1 ∧ FS E J25 w w' ∧ RK E w' l ad (qOut Q (pDig v.toInt.natAbs (pLen v.toInt.natAbs) Q.2.2.2.2.2.2)) := by
    intro w Q h hL
    obtain ⟨w1, e1, F1, h1⟩ := pn33 hN hn (pLen v.toInt.natAbs) (gN E) w Q h3 (by omega) h (by omega)
    refine ⟨w1, ?_, F1, h1⟩
    unfold X12_putNumber_15
    exact (pn17 (l := l) hN hn (pLen v.toInt.natAbs) 0 (gN E) w.1 (by omega) (by omega)).trans e1
  by_cases h0 : v.toInt < 0
  · obtain ⟨w1, e1, F1, h1⟩ := h.pb (b := 45) (by omega) (by decide)
    obtain ⟨w2, e2, F2, h2⟩ := core w1 _ h1 (by show qL Q + 1 + 4 ≤ 36; omega)
    refine ⟨w2, ?_, F1.trans F2, ?_⟩
    · have hneg : -v = nI v.toInt.natAbs := by
        apply Int32.toInt_inj.mp
        rw [fb_negI (by omega), nI_toInt (by omega)]
        omega
      unfold X12_putNumber_f X12_putNumber
      rw [if_neg (by rw [fa_le, toI0]; omega), ob_e h.cl]
      refine (ob_e e1).trans ?_
      rw [hneg]
      exact e2
    · unfold pVal pSgn
      rw [if_pos h0]
      exact h2
  · obtain ⟨w2, e2, F2, h2⟩ := core w Q h (by omega)
    refine ⟨w2, ?_, F2, ?_⟩
    · have hpos : v = nI v.toInt.natAbs := by
        apply Int32.toInt_inj.mp
        rw [nI_toInt (by omega)]
        omega
      unfold X12_putNumber_f X12_putNumber
      rw [if_pos (by rw [fa_le, toI0]; omega)]
      rw [← hpos] at e2
      exact e2
    · unfold pVal pSgn
      rw [if_neg h0]
      exact h2
theorem wr_loop (hN : 100000 ≤ gN E) {S : gT} (hG : GS S) {r : Nat} (hr : r < tR S) (o : gOb) (ho : o.1 = 0) : ∀ (k c m : Nat) (w : gWd) (Q : gQ), c + k = S.1 → k < m → RK E w l ad Q → qS Q = S → Q.2.2.2.2.2.2 = pRw S r c o → ∃ w', X12_writeRow_12 E m l (nI r) (nI c) w.1 = some (Sum.inr (nI (pLine S r o).1), w'.1) ∧ FS E J25 w w' ∧ RK E w' l ad (qOut Q (pLine S r o)) := by
  have hC := hG.2.1
  intro k
  induction k with
  | zero =>
    intro c m w Q hc hm h hS hQ
    obtain ⟨m, rfl⟩ : ∃ q, m = q + 1 := ⟨m - 1, by omega⟩
    subst hS
    have hcc : c = (qS Q).1 := by omega
    have hl := pRw_n (qS Q) r o c
    have hse := h.S.sel hN hG hr
    have hlen : qL Q = (pRw (qS Q) r c o).1 := congrArg Prod.fst hQ
    have hl2 : qL Q ≤ 35 := by
      rw [hlen]
      have := hG.1
      split at hl <;> omega
    cases hs : ssel (qS Q) r with
    | false =>
      rw [hs] at hse
      have hp : pLine (qS Q) r o = Q.2.2.2.2.2.2 := by
        unfold pLine
        rw [hs, if_neg (by decide), hQ, hcc]
      refine ⟨w, ?_, FS.rf, by rw [hp]; exact h⟩
      show X12_writeRow_12_s E (X12_writeRow_12 E m) l (nI r) (nI c) w.1 = _
      unfold X12_writeRow_12_s X12_writeRow_72
      rw [ob_e h.f0, ob_e h.c0, ob_e h.S.columns, if_pos (nI_le (by omega) (by omega)), ob_e h.f0, ob_e h.c0, ob_e hse, if_pos (by decide), ob_e (gfI_o h.1.2.2 rfl), hp]
    | true =>
      rw [hs] at hse
      obtain ⟨w1, e1, F1, h1⟩ := h.pb (b := 42) (by omega) (by decide)
      have hp : pLine (qS Q) r o = pByt Q.2.2.2.2.2.2 42 := by
        unfold pLine
        rw [hs, if_pos rfl, hQ, hcc]
      refine ⟨w1, ?_, F1, by rw [hp]; exact h1⟩
      show X12_writeRow_12_s E (X12_writeRow_12 E m) l (nI r) (nI c) w.1 = _
      unfold X12_writeRow_12_s X12_writeRow_72
      rw [ob_e h.f0, ob_e h.c0, ob_e h.S.columns, if_pos (nI_le (by omega) (by omega)), ob_e h.f0, ob_e h.c0, ob_e hse, if_neg (by decide), ob_e h.cl]
      refine (ob_e e1).trans ?_
      rw [ob_e (gfI_o h1.1.2.2 rfl), hp]
      rfl
  | succ k ih =>
    intro c m w Q hc hm h hS hQ
    obtain ⟨m, rfl⟩ : ∃ q, m = q + 1 := ⟨m - 1, by omega⟩
    subst hS
    have hc6 : c < 6 := by omega
    have hl := pRw_n (qS Q) r o c
    have hlen : qL Q = (pRw (qS Q) r c o).1 := congrArg Prod.fst hQ
    have hv := (hG.2.2.2.2.1 c r (by omega) hr).1
    have main : ∀ (w1 : gWd) (Q1 : gQ), RK E w1 l ad Q1 → qS Q1 = qS Q → Q1.2.2.2.2.2.2 = (if c = 0 then pRw (qS Q) r c o else pByt (pRw (qS Q) r c o) 32) → qL Q1 + 5 ≤ 36 → qOut Q1 (pLine (qS Q) r o) = qOut Q (pLine (qS Q) r o) → ∃ w', X12_writeRow_33 E (X12_writeRow_12 E m) l (nI r) (nI c) w1.1 = some (Sum.inr (nI (pLine (qS Q) r o).1), w'.1) ∧ FS E J25 w1 w' ∧ RK E w' l ad (qOut Q (pLine (qS Q) r o)) := by
      intro w1 Q1 h1 hS1 hQ1 hL1 hq
      obtain ⟨w2, e2, F2, h2⟩ := h1.pnum hN hv hL1
      have hV := h1.V (by rw [hS1]; exact hG) (c := c) (by rw [hS1]; omega)
      rw [hS1] at hV
      obtain ⟨w3, e3, F3, h3⟩ := ih (c + 1) m w2 _ (by omega) (by omega) h2 hS1 (by
        show pVal (tV (qS Q) c r) Q1.2.2.2.2.2.2 = _
        rw [hQ1]
        rfl)
      refine ⟨w3, ?_, F2.trans F3, by rw [← hq]; exact h3⟩
      unfold X12_writeRow_33
      rw [ob_e h1.f0, ob_e h1.c0, ob_e (h1.S.column hc6), ob_e (h1.S.ccl hc6), ob_e (hV.at hr), ob_e h1.cl, ob_e e2, ← nI_succ]
      exact e3
    by_cases h0 : c = 0
    · obtain ⟨w3, e3, F3, h3⟩ := main w Q h rfl (by rw [if_pos h0, hQ]) (by rw [hlen]; rw [if_pos h0] at hl; omega) rfl
      refine ⟨w3, ?_, F3, h3⟩
      show X12_writeRow_12_s E (X12_writeRow_12 E m) l (nI r) (nI c) w.1 = _
      unfold X12_writeRow_12_s
      rw [ob_e h.f0, ob_e h.c0, ob_e h.S.columns, if_neg (nI_ge (by omega) (by omega)), if_pos (by rw [h0]; decide)]
      exact e3
    · rw [if_neg h0] at hl
      obtain ⟨w1, e1, F1, h1⟩ := h.pb (b := 32) (by omega) (by decide)
      obtain ⟨w3, e3, F3, h3⟩ := main w1 _ h1 rfl (by
        rw [if_neg h0]
        show pByt Q.2.2.2.2.2.2 32 = _
        rw [hQ]) (by show qL Q + 1 + 5 ≤ 36; omega) rfl
      refine ⟨w3, ?_, F1.trans F3, h3⟩
      show X12_writeRow_12_s E (X12_writeRow_12 E m) l (nI r) (nI c) w.1 = _
      unfold X12_writeRow_12_s
      rw [ob_e h.f0, ob_e h.c0, ob_e h.S.columns, if_neg (nI_ge (by omega) (by omega)), if_neg (nI_nle (by omega) (by omega)), ob_e h.cl]
      refine (ob_e e1).trans ?_
      exact e3
theorem K_writeRow (hN : 100000 ≤ gN E) (h : RK E w l ad Q) (hG : GQ Q) {r : Nat} (hr : r < tR (qS Q)) : XA E w l ad (qOut Q (pLine (qS Q) r (0, qO Q))) (Sum.inr (nI (pLine (qS Q) r (0, qO Q)).1)) (X12_writeRow_f E l (nI r) w.1) := by
  have hC := hG.1.2.1
  obtain ⟨e1, O1, F1⟩ := h.1.put (E := E) 7 (.int (nI 0)) (Nat.le_of_ble_eq_true rfl) (J := fun t => t = (10, 25, 0)) rfl
  have F1' : FS E J25 w _ := F1.mono (fun t z => by rw [z])
  obtain ⟨g, h7, h8⟩ := h.2.2.2.2.2.2.1
  have h1 := h.own (b := qH Q) (o := (0, qO Q)) F1' O1 ⟨g, h7.fr F1 (t3_ne (by decide)), fun i hi => by have hi : i < 0 := hi; omega⟩
  obtain ⟨w2, e2, F2, h2⟩ := wr_loop hN hG.1 hr (0, qO Q) rfl (qS Q).1 0 (gN E) _ _ (by omega) (by omega) h1 rfl rfl
  refine ⟨w2, ?_, ((F1'.mono JK25).trans (F2.mono JK25)).kk h.pos, h2⟩
  unfold X12_writeRow_f X12_writeRow
  rw [ob_e h.cl, ob_e (h.row hr hG.1.2.2.2.1), gtry_r]
  refine (ob_e e1).trans ?_
  exact e2
theorem K_writeRowF (h : RK E w l ad Q) (hR : RM E w 1) {a : Int32} (ha : ¬ rOK (qS Q) a) : XA E w l ad Q (Sum.inl 0) (X12_writeRow_f E l a w.1) := by
  refine ⟨thW w, ?_, KK.th h.pos, h.th⟩
  unfold X12_writeRow_f X12_writeRow
  rw [ob_e h.cl, ob_e (h.rowF hR ha), gtry_l]
end KX
