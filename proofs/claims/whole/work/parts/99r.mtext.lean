/-! pure: the reference takes text in and writes rows -/
section MM
variable {E : gE} {w : gWd} {m : Nat} {th : Int32} {Q : gQ} {fi : Nat → Int32} {G : Nat → Nat → Int32}
theorem M_addLess {v : Int32 × gS} {a b : Int32} (h : gcl w.1 m 11 = some ()) (e : X13_addCondition_f E m a b (-1) w.1 = some v) : X13_addLess_f E m a b w.1 = some v := by
  unfold X13_addLess_f X13_addLess
  rw [ob_e h, ob_e e]
theorem M_addEqual {v : Int32 × gS} {a b : Int32} (h : gcl w.1 m 11 = some ()) (e : X13_addCondition_f E m a b 0 w.1 = some v) : X13_addEqual_f E m a b w.1 = some v := by
  unfold X13_addEqual_f X13_addEqual
  rw [ob_e h, ob_e e]
theorem M_addGreater {v : Int32 × gS} {a b : Int32} (h : gcl w.1 m 11 = some ()) (e : X13_addCondition_f E m a b 1 w.1 = some v) : X13_addGreater_f E m a b w.1 = some v := by
  unfold X13_addGreater_f X13_addGreater
  rw [ob_e h, ob_e e]
theorem mz10 : mz 10 = 700 := rfl
theorem ap_76 {ro n k : Nat} (h : MS E w m ro fi G) (hn : fi 17 = nI n) (hn7 : n < 700) (hk : k < 20) {r : Nat → Int32 → Int32 → Int32 → Int32 → Int32 → Int32 → gS → Option (Int32 × gS)} {a b c d e s0 : Int32} : ∃ w', X13_appendText_76 E r m a b c d e (nI k) s0 w.1 = r m a b c d e (nI (k + 1)) w'.1 ∧ FS E J30 w w' ∧ MS E w' m ro (upd fi 17 (nI (n + 1))) (updG G 10 (upd (G 10) n (nI (by4 s0 (24 - 8 * (k % 4)))))) := by
  obtain ⟨w1, e1, F1, h1⟩ := h.st 10 (i := n) (by omega) (by omega) (by rw [mz10]; exact hn7) (nI (by4 s0 (24 - 8 * (k % 4))))
  obtain ⟨w2, e2, F2, h2⟩ := h1.put 17 (nI (n + 1)) rfl (by decide)
  refine ⟨w2, ?_, F1.trans F2, h2⟩
  have ek : nI k - nI k / (4 : Int32) * (4 : Int32) = nI (k % 4) := fa_rem (k := 2) (by omega) (by decide)
  have es : (24 : Int32) - (8 : Int32) * nI (k % 4) = nI (24 - 8 * (k % 4)) := by
    rw [show (8 : Int32) = nI 8 from rfl, nI_mul, show (24 : Int32) = nI 24 from rfl, nI_sub (by omega)]
  unfold X13_appendText_76
  rw [ob_e h.f16, ob_e (gfI_o (x := fi 17) h.1.2.2 rfl), hn, ek, es, ← (by4_ok s0 (24 - 8 * (k % 4))).2, ob_e e1, ob_e (gfI_o (x := fi 17) h1.1.2.2 rfl), hn, nI_1, ob_e e2, nI_1]
theorem ap_st {ro n k : Nat} (h : MS E w m ro fi G) (hn : fi 17 = nI n) (hn7 : n < 700) (hk : k < 20) {r : Nat → Int32 → Int32 → Int32 → Int32 → Int32 → Int32 → gS → Option (Int32 × gS)} {a b c d e : Int32} : ∃ w', X13_appendText_23_s E r m a b c d e (nI k) w.1 = r m a b c d e (nI (k + 1)) w'.1 ∧ FS E J30 w w' ∧ MS E w' m ro (upd fi 17 (nI (n + 1))) (updG G 10 (upd (G 10) n (nI (apF a b c d e k)))) := by
  unfold X13_appendText_23_s apF
  rw [if_neg (show ¬ (20 : Int32) ≤ nI k from nI_ge (b := 20) hk (by omega))]
  by_cases h4 : k < 4
  · rw [if_neg (show ¬ (4 : Int32) ≤ nI k from nI_ge (b := 4) h4 (by omega)), if_pos h4]
    exact ap_76 h hn hn7 hk
  · rw [if_pos (show (4 : Int32) ≤ nI k from nI_le (a := 4) (by omega) (by omega)), if_neg h4]
    by_cases h8 : k < 8
    · rw [if_neg (show ¬ (8 : Int32) ≤ nI k from nI_ge (b := 8) h8 (by omega)), if_pos h8]
      exact ap_76 h hn hn7 hk
    · rw [if_pos (show (8 : Int32) ≤ nI k from nI_le (a := 8) (by omega) (by omega)), if_neg h8]
      by_cases h12 : k < 12
      · rw [if_neg (show ¬ (12 : Int32) ≤ nI k from nI_ge (b := 12) h12 (by omega)), if_pos h12]
        exact ap_76 h hn hn7 hk
      · rw [if_pos (show (12 : Int32) ≤ nI k from nI_le (a := 12) (by omega) (by omega)), if_neg h12]
        by_cases h16 : k < 16
        · rw [if_neg (show ¬ (16 : Int32) ≤ nI k from nI_ge (b := 16) h16 (by omega)), if_pos h16]
          exact ap_76 h hn hn7 hk
        · rw [if_pos (show (16 : Int32) ≤ nI k from nI_le (a := 16) (by omega) (by omega)), if_neg h16]
          exact ap_76 h hn hn7 hk
theorem M_appendText (hN : 100000 ≤ gN E) (h : RX E w m th Q) {a b c d e : Int32} (hn : qN Q + 20 ≤ 700) : XM E w m 0 (qI Q (qN Q + 20) (apB (qB Q) (qN Q) (apF a b c d e) 20)) (nI (qN Q + 20)) (X13_appendText_f E m a b c d e w.1) := by
  obtain ⟨w1, e1, F1, fi, G, b1, a1, a2, a3, a4, a5, a6, a7, a8, a9, a10, a11, a12⟩ := h.t 0
  obtain ⟨⟨w2, G2⟩, e2, F2, b2, o2, s2⟩ := lpe (F := fun u (x : gWd × (Nat → Nat → Int32)) k => X13_appendText_23 E u m a b c d e (nI k) x.1.1) (I := fun k x => FS E J30 w1 x.1 ∧ MS E x.1 m (m + 1) (upd fi 17 (nI (qN Q + k))) x.2 ∧ (∀ j, j ≠ 10 → x.2 j = G j) ∧ ∀ i, i < qN Q + k → x.2 10 i = nI (apB (qB Q) (qN Q) (apF a b c d e) k i)) (O := fun x => ob (gfI x.1.1 m 11 17) fun x11 => some (x11, x.1.1)) (n := 20) (fun u k x hk hI => by
      obtain ⟨Fa, ha, oa, sa⟩ := hI
      obtain ⟨w1, e1, F1, h1⟩ := ap_st (r := X13_appendText_23 E u) (a := a) (b := b) (c := c) (d := d) (e := e) ha rfl (by omega) hk
      rw [fa_upd_twice] at h1
      refine ⟨(w1, _), e1, Fa.trans F1, h1, fun j hj => (updG_o _ _ hj).trans (oa j hj), fun i hi => ?_⟩
      show updG x.2 10 (upd (x.2 10) (qN Q + k) (nI (apF a b c d e k))) 10 i = nI (updN (apB (qB Q) (qN Q) (apF a b c d e) k) (qN Q + k) (apF a b c d e k) i)
      rw [updG_s]
      unfold updN
      by_cases hz : i = qN Q + k
      · rw [if_pos hz, hz, upd_s]
      · rw [if_neg hz, upd_o _ _ hz]
        exact sa i (by omega)) (fun u x hI => by
      show X13_appendText_23_s E (X13_appendText_23 E u) m a b c d e (nI 20) x.1.1 = _
      unfold X13_appendText_23_s
      rw [if_pos (show (20 : Int32) ≤ nI 20 from nI_le (a := 20) (Nat.le_refl _) (by omega))]) 20 0 (gN E) (w1, G) (by omega) (by omega) ⟨FS.rf, by
      have e : upd fi 17 (nI (qN Q + 0)) = fi := fa_upd_same a6
      rw [e]
      exact b1, fun _ _ => rfl, a12⟩
  have o2 : ∀ j, j ≠ 10 → G2 j = G j := o2
  refine ⟨w2, ?_, F1.trans F2, _, G2, b2, a1, a2, a3, a4, a5, rfl, a7, ?_, fun z => ?_, fun i hi => ?_, fun i hi => ?_, s2⟩
  · have s17 : gfI w2.1 m 11 17 = some (nI (qN Q + 20)) := gfI_o (x := upd fi 17 (nI (qN Q + 20)) 17) b2.1.2.2 rfl
    unfold X13_appendText_f X13_appendText
    rw [ob_e e1, ob_e (gfI_o (x := fi 17) b1.1.2.2 rfl), a6, if_pos (show nI (qN Q) + (20 : Int32) ≤ (700 : Int32) from by
      rw [show nI (qN Q) + (20 : Int32) = nI (qN Q + 20) from nI_add _ 20]
      exact nI_le (b := 700) hn (by omega))]
    refine e2.trans ?_
    exact (ob_e s17).trans rfl
  · rw [o2 1 (by decide)]
    exact a8
  · rw [o2 4 (by decide)]
    exact a9 z
  · rw [o2 5 (by decide)]
    exact a10 i hi
  · rw [o2 9 (by decide)]
    exact a11 i hi
theorem M_appendTextF (h : RX E w m th Q) {a b c d e : Int32} (h7 : qN Q ≤ 700) (hn : ¬ qN Q + 20 ≤ 700) : XM E w m 0 Q (-1) (X13_appendText_f E m a b c d e w.1) := by
  obtain ⟨w1, e1, F1, h1⟩ := h.t 0
  have s17 : gfI w1.1 m 11 17 = some (nI (qN Q)) := by
    obtain ⟨fi, G, b1, h2⟩ := h1
    rw [← h2.2.2.2.2.2.1]
    exact gfI_o (x := fi 17) b1.1.2.2 rfl
  refine ⟨w1, ?_, F1, h1⟩
  unfold X13_appendText_f X13_appendText
  rw [ob_e e1, ob_e s17, if_neg (show ¬ nI (qN Q) + (20 : Int32) ≤ (700 : Int32) from by
      rw [show nI (qN Q) + (20 : Int32) = nI (qN Q + 20) from nI_add _ 20]
      exact nI_ge (a := 700) (by omega) (by omega))]
/-- a byte is written -/
theorem RX.pb (h : RX E w m th Q) (hL : qL Q < 60) (b : Nat) : ∃ w', X13_write_f E m (nI b) w.1 = some w'.1 ∧ FS E J30 w w' ∧ RX E w' m th (qOut Q (pByt Q.2.2.2.2.2.2 b)) := by
  obtain ⟨fi, G, b1, a1, a2, a3, a4, a5, a6, a7, a8, a9, a10, a11, a12⟩ := h
  obtain ⟨w1, e1, F1, h1⟩ := b1.st 9 (i := qL Q) (by omega) (by omega) (Nat.lt_of_lt_of_le hL (by decide)) (nI b)
  obtain ⟨w2, e2, F2, h2⟩ := h1.put 15 (nI (qL Q + 1)) rfl (by decide)
  refine ⟨w2, ?_, F1.trans F2, _, _, h2, a1, a2, a3, a4, rfl, a6, a7, ?_, fun z => ?_, fun i hi => ?_, fun i hi => ?_, fun i hi => ?_⟩
  · unfold X13_write_f X13_write
    rw [ob_e b1.f14, ob_e (gfI_o (x := fi 15) b1.1.2.2 rfl), a5, ob_e e1, ob_e (gfI_o (x := fi 15) h1.1.2.2 rfl), a5, nI_1, ob_e e2]
  · rw [updG_o _ _ (by decide)]
    exact a8
  · rw [updG_o _ _ (by decide)]
    exact a9 z
  · rw [updG_o _ _ (by decide)]
    exact a10 i hi
  · have hi : i < qL Q + 1 := hi
    rw [updG_s]
    show upd (G 9) (qL Q) (nI b) i = upd (qO Q) (qL Q) (nI b) i
    by_cases e : i = qL Q
    · rw [e, upd_s, upd_s]
    · rw [upd_o _ _ e, upd_o _ _ e]
      exact a11 i (by omega)
  · rw [updG_o _ _ (by decide)]
    exact a12 i hi
theorem wn42 (hN : 100000 ≤ gN E) {n : Nat} (hn : n ≤ 9999) : ∀ (j u : Nat) (w : gWd) (Q : gQ), j ≤ 3 → j + 1 < u → RX E w m th Q → qL Q + j + 1 ≤ 60 → ∃ w', X13_writeNumber_42 E u m (nI n) (nI (10 ^ j)) w.1 = some w'.1 ∧ FS E J30 w w' ∧ RX E w' m th (qOut Q (pDig n j Q.2.2.2.2.2.2)) := by
  have one : ∀ (j u : Nat) (w : gWd) (Q : gQ), j ≤ 3 → RX E w m th Q → qL Q < 60 → ∃ w', X13_writeNumber_42 E (u + 1) m (nI n) (nI (10 ^ j)) w.1 = X13_writeNumber_42 E u m (nI n) (nI (10 ^ j / 10)) w'.1 ∧ FS E J30 w w' ∧ RX E w' m th (qOut Q (pByt Q.2.2.2.2.2.2 (48 + n / 10 ^ j % 10))) := by
    intro j u w Q hj h hL
    have hp : 1 ≤ 10 ^ j ∧ 10 ^ j ≤ 1000 := by
      obtain rfl | rfl | rfl | rfl : j = 0 ∨ j = 1 ∨ j = 2 ∨ j = 3 := by omega
      all_goals decide
    obtain ⟨w1, e1, F1, h1⟩ := h.pb hL (48 + n / 10 ^ j % 10)
    refine ⟨w1, ?_, F1, h1⟩
    have hd : nI n / nI (10 ^ j) = nI (n / 10 ^ j) := nI_div (by omega) (by omega)
    have hle : n / 10 ^ j ≤ n := Nat.div_le_self _ _
    have hr : nI (n / 10 ^ j) - nI (n / 10 ^ j) / (10 : Int32) * (10 : Int32) = nI (n / 10 ^ j % 10) := pk_rem (d := 10) (by omega) (by decide) (by decide)
    have hs : (48 : Int32) + nI (n / 10 ^ j % 10) = nI (48 + n / 10 ^ j % 10) := nI_add 48 _
    have ht : nI (10 ^ j) / (10 : Int32) = nI (10 ^ j / 10) := nI_div (b := 10) (by omega) (by decide)
    have hz : gnz (nI (10 ^ j)) = some () := by
      unfold gnz
      rw [if_neg (nI_ne0 (by omega) (by omega))]
    show X13_writeNumber_42_s E (X13_writeNumber_42 E u) m (nI n) (nI (10 ^ j)) w.1 = _
    unfold X13_writeNumber_42_s
    rw [if_neg (nI_nle (by omega) (by omega)), ob_e hz, ob_e h.cl, hd, hr, hs, ob_e e1, ht]
  intro j
  induction j with
  | zero =>
    intro u w Q hj hm h hL
    obtain ⟨u, rfl⟩ : ∃ q, u = q + 2 := ⟨u - 2, by omega⟩
    obtain ⟨w1, e1, F1, h1⟩ := one 0 (u + 1) w Q hj h (by omega)
    refine ⟨w1, ?_, F1, ?_⟩
    · rw [e1]
      show X13_writeNumber_42_s E (X13_writeNumber_42 E u) m (nI n) 0 w1.1 = _
      unfold X13_writeNumber_42_s
      rw [if_pos (by decide)]
    · have : n / 10 ^ 0 % 10 = n % 10 := by rw [Nat.pow_zero, Nat.div_one]
      rw [this] at h1
      exact h1
  | succ j ih =>
    intro u w Q hj hm h hL
    obtain ⟨u, rfl⟩ : ∃ q, u = q + 1 := ⟨u - 1, by omega⟩
    obtain ⟨w1, e1, F1, h1⟩ := one (j + 1) u w Q hj h (by omega)
    obtain ⟨w2, e2, F2, h2⟩ := ih u w1 _ (by omega) (by omega) h1 (by show qL Q + 1 + j + 1 ≤ 60; omega)
    refine ⟨w2, ?_, F1.trans F2, h2⟩
    rw [e1, show 10 ^ (j + 1) / 10 = 10 ^ j by rw [Nat.pow_succ]; omega]
    exact e2
theorem nine_le {n j : Nat} (hn : n ≤ 9999) (hj : j ≤ 3) : n / 10 ^ j ≤ 9 ↔ ¬ j < pLen n := by
  unfold pLen
  obtain rfl | rfl | rfl | rfl : j = 0 ∨ j = 1 ∨ j = 2 ∨ j = 3 := by omega
  all_goals
    repeat' split
    all_goals omega
theorem wn23 (hN : 100000 ≤ gN E) {n : Nat} (hn : n ≤ 9999) (σ : gS) : X13_writeNumber_23 E (gN E) m (nI n) 1 σ = X13_writeNumber_42 E (gN E) m (nI n) (nI (10 ^ pLen n)) σ := by
  have h3 := pLen_le n
  have hp : ∀ j, j ≤ 3 → 1 ≤ 10 ^ j ∧ 10 ^ j ≤ 1000 := by
    intro j hj
    obtain rfl | rfl | rfl | rfl : j = 0 ∨ j = 1 ∨ j = 2 ∨ j = 3 := by omega
    all_goals decide
  have hz : ∀ j, j ≤ 3 → gnz (nI (10 ^ j)) = some () := fun j hj => by
    have := hp j hj
    unfold gnz
    rw [if_neg (nI_ne0 (by omega) (by omega))]
  refine lp (F := fun u (_ : Unit) j => X13_writeNumber_23 E u m (nI n) (nI (10 ^ j)) σ) (s := fun _ => ()) (n := pLen n) (fun u j hj => ?_) (fun u => ?_) (pLen n) 0 (gN E) (by omega) (by omega)
  · have hpj := hp j (by omega)
    have hle : n / 10 ^ j ≤ n := Nat.div_le_self _ _
    have hni := nine_le hn (j := j) (by omega)
    show X13_writeNumber_23_s E (X13_writeNumber_23 E u) m (nI n) (nI (10 ^ j)) σ = _
    unfold X13_writeNumber_23_s
    rw [ob_e (hz j (by omega)), nI_div (by omega) (by omega), if_neg (show ¬ nI (n / 10 ^ j) ≤ (9 : Int32) from nI_ge (a := 9) (by omega) (by omega)), show nI (10 ^ j) * (10 : Int32) = nI (10 ^ (j + 1)) from by rw [Nat.pow_succ]; exact nI_mul _ 10]
  · have hpj := hp (pLen n) h3
    have hle : n / 10 ^ pLen n ≤ n := Nat.div_le_self _ _
    have hni := nine_le hn (j := pLen n) h3
    show X13_writeNumber_23_s E (X13_writeNumber_23 E u) m (nI n) (nI (10 ^ pLen n)) σ = _
    unfold X13_writeNumber_23_s
    rw [ob_e (hz _ h3), nI_div (by omega) (by omega), if_pos (show nI (n / 10 ^ pLen n) ≤ (9 : Int32) from nI_le (b := 9) (by omega) (by omega))]
theorem RX.pnum (hN : 100000 ≤ gN E) (h : RX E w m th Q) {v : Int32} (hv : vIn v) (hL : qL Q + 5 ≤ 60) : ∃ w', X13_writeNumber_f E m v w.1 = some w'.1 ∧ FS E J30 w w' ∧ RX E w' m th (qOut Q (pVal v Q.2.2.2.2.2.2)) := by
  have q1 := hv.1
  have q2 := hv.2
  have hn : v.toInt.natAbs ≤ 9999 := by omega
  have h3 := pLen_le v.toInt.natAbs
  have core : ∀ (w : gWd) (Q : gQ), RX E w m th Q → qL Q + 4 ≤ 60 → ∃ w', X13_writeNumber_20 E m (nI v.toInt.natAbs) w.1 = some w'.1 ∧ FS E J30 w w' ∧ RX E w' m th (qOut Q (pDig v.toInt.natAbs (pLen v.toInt.natAbs) Q.2.2.2.2.2.2)) := by
    intro w Q h hL
    obtain ⟨w1, e1, F1, h1⟩ := wn42 hN hn (pLen v.toInt.natAbs) (gN E) w Q h3 (by omega) h (by omega)
    refine ⟨w1, ?_, F1, h1⟩
    unfold X13_writeNumber_20
    exact (wn23 (m := m) hN hn w.1).trans e1
  by_cases h0 : v.toInt < 0
  · obtain ⟨w1, e1, F1, h1⟩ := h.pb (by omega) 45
    obtain ⟨w2, e2, F2, h2⟩ := core w1 _ h1 (by show qL Q + 1 + 4 ≤ 60; omega)
    have e1 : X13_write_f E m (45 : Int32) w.1 = some w1.1 := e1
    refine ⟨w2, ?_, F1.trans F2, ?_⟩
    · have hneg : -v = nI v.toInt.natAbs := by
        apply Int32.toInt_inj.mp
        rw [fb_negI (by omega), nI_toInt (by omega)]
        omega
      have hc : ¬ (0 : Int32) ≤ v := by rw [fa_le, toI0]; omega
      unfold X13_writeNumber_f X13_writeNumber X13_writeNumber_10
      rw [if_neg hc, ob_e h.cl, ob_e e1, if_neg hc, hneg]
      exact e2
    · unfold pVal pSgn
      rw [if_pos h0]
      exact h2
  · obtain ⟨w2, e2, F2, h2⟩ := core w Q h (by omega)
    refine ⟨w2, ?_, F2, ?_⟩
    · have hpos : v = nI v.toInt.natAbs := by
        apply Int32.toInt_inj.mp
        rw [nI_toInt (by omega)]
        omega
      have hc : (0 : Int32) ≤ v := by rw [fa_le, toI0]; omega
      unfold X13_writeNumber_f X13_writeNumber X13_writeNumber_10
      rw [if_pos hc, if_pos hc]
      rw [← hpos] at e2
      exact e2
    · unfold pVal pSgn
      rw [if_neg h0]
      exact h2
theorem qOut2 (Q : gQ) (o o' : gOb) : qOut (qOut Q o) o' = qOut Q o' := rfl
theorem M_writeRow (hN : 100000 ≤ gN E) (h : RX E w m th Q) (hG : GS (qS Q)) {r : Nat} (hr : r < tR (qS Q)) : XM E w m 0 (qOut Q (pLine (qS Q) r (0, qO Q))) (nI (pLine (qS Q) r (0, qO Q)).1) (X13_writeRow_f E m (nI r) w.1) := by
  obtain ⟨g, q⟩ := h.q hG
  have hC := q.C
  obtain ⟨w1, e1, F1, fi, G, b1, a1, a2, a3, a4, a5, a6, a7, a8, a9, a10, a11, a12⟩ := h.lkY
  obtain ⟨w2, e2, F2, b2⟩ := b1.put 15 0 rfl (by decide)
  have h2 : RX E w2 m 0 (qOut Q (0, qO Q)) := ⟨_, G, b2, a1, a2, a3, a4, rfl, a6, a7, a8, a9, a10, fun i hi => by have hi : i < 0 := hi; omega, a12⟩
  have f15 : ∀ (w' : gWd) (o : gOb), RX E w' m 0 (qOut Q o) → X13_writeRow_71 E m w'.1 = some (nI o.1, w'.1) := fun w' o h' => by
    obtain ⟨fi, G, c1, c2⟩ := h'
    have e : fi 15 = nI o.1 := c2.2.2.2.2.1
    unfold X13_writeRow_71
    rw [← e, ob_e (gfI_o (x := fi 15) c1.1.2.2 rfl)]
  have hb : ∀ c, c ≤ (qS Q).1 → (pRw (qS Q) r c (0, qO Q)).1 ≤ 36 := fun c hc => by
    have := pRw_n (qS Q) r (0, qO Q) c
    split at this <;> (simp only at this; omega)
  obtain ⟨w3, e3, F3, h3⟩ := lpe (F := fun u (a : gWd) c => X13_writeRow_21 E u m (nI r) (nI c) a.1) (I := fun c a => FS E J30 w2 a ∧ RX E a m 0 (qOut Q (pRw (qS Q) r c (0, qO Q)))) (O := fun a => ob (gcl a.1 m 11) fun _ => ob (X13_selects_f E a.1 m (nI r)) fun x13 => if x13 = 0 then X13_writeRow_71 E m a.1 else ob (gcl a.1 m 11) fun _ => ob (X13_write_f E m (42 : Int32) a.1) fun x16 => X13_writeRow_71 E m x16) (n := (qS Q).1) (fun u c a hc hI => by
      obtain ⟨Fa, ha⟩ := hI
      obtain ⟨g, qa⟩ : ∃ g, mQ E a.1 m (m + 1) g (qS Q) := ha.q (show GS (qS (qOut Q (pRw (qS Q) r c (0, qO Q)))) from hG)
      have hv := (hG.2.2.2.2.1 c r hc hr).1
      have hbc := hb c (by omega)
      have hat : ∀ w' o, RX E w' m 0 (qOut Q o) → X13_at_f E w'.1 m (nI c) (nI r) = some (tV (qS Q) c r) := fun w' o h' => by
        obtain ⟨g, q'⟩ := h'.q (show GS (qS (qOut Q o)) from hG)
        exact q'.at (show c < (qS Q).1 from hc) hr
      have tail : ∀ w' o, RX E w' m 0 (qOut Q o) → o.1 + 5 ≤ 60 → ∃ w3, X13_writeRow_41 E (X13_writeRow_21 E u) m (nI r) (nI c) w'.1 = X13_writeRow_21 E u m (nI r) (nI (c + 1)) w3.1 ∧ FS E J30 w' w3 ∧ RX E w3 m 0 (qOut Q (pVal (tV (qS Q) c r) o)) := fun w' o h' ho => by
        obtain ⟨w3, e3, F3, h3⟩ := h'.pnum hN hv (by show o.1 + 5 ≤ 60; exact ho)
        refine ⟨w3, ?_, F3, h3⟩
        unfold X13_writeRow_41
        rw [ob_e h'.cl, ob_e (hat w' o h'), ob_e h'.cl, ob_e e3, nI_1]
      have hpr : pRw (qS Q) r (c + 1) (0, qO Q) = pVal (tV (qS Q) c r) (if c = 0 then pRw (qS Q) r c (0, qO Q) else pByt (pRw (qS Q) r c (0, qO Q)) 32) := rfl
      by_cases h0 : c = 0
      · obtain ⟨w3, e3, F3, h3⟩ := tail a _ ha (by omega)
        refine ⟨w3, ?_, Fa.trans F3, by rw [hpr, if_pos h0]; exact h3⟩
        show X13_writeRow_21_s E (X13_writeRow_21 E u) m (nI r) (nI c) a.1 = _
        unfold X13_writeRow_21_s
        rw [ob_e qa.r, ob_e qa.n0, if_neg (nI_ge hc (by omega)), if_pos (show nI c ≤ 0 from by rw [h0]; decide)]
        exact e3
      · obtain ⟨w4, e4, F4, h4⟩ := ha.pb (by show (pRw (qS Q) r c (0, qO Q)).1 < 60; omega) 32
        have e4 : X13_write_f E m (32 : Int32) a.1 = some w4.1 := e4
        obtain ⟨w3, e3, F3, h3⟩ := tail w4 _ h4 (by show (pRw (qS Q) r c (0, qO Q)).1 + 1 + 5 ≤ 60; omega)
        refine ⟨w3, ?_, (Fa.trans F4).trans F3, by rw [hpr, if_neg h0]; exact h3⟩
        show X13_writeRow_21_s E (X13_writeRow_21 E u) m (nI r) (nI c) a.1 = _
        unfold X13_writeRow_21_s
        rw [ob_e qa.r, ob_e qa.n0, if_neg (nI_ge hc (by omega)), if_neg (nI_nle (by omega) (by omega)), ob_e qa.cl, ob_e e4]
        exact e3) (fun u a hI => by
      obtain ⟨Fa, ha⟩ := hI
      obtain ⟨g, qa⟩ : ∃ g, mQ E a.1 m (m + 1) g (qS Q) := ha.q (show GS (qS (qOut Q (pRw (qS Q) r (qS Q).1 (0, qO Q)))) from hG)
      show X13_writeRow_21_s E (X13_writeRow_21 E u) m (nI r) (nI (qS Q).1) a.1 = _
      unfold X13_writeRow_21_s
      rw [ob_e qa.r, ob_e qa.n0, if_pos (nI_le (Nat.le_refl _) (by omega))]) (qS Q).1 0 (gN E) w2 (by omega) (by omega) ⟨FS.rf, h2⟩
  obtain ⟨g3, q3⟩ := h3.q (show GS (qS (qOut Q (pRw (qS Q) r (qS Q).1 (0, qO Q)))) from hG)
  have hse := q3.sel hN (show r < tR (qS Q) from hr)
  have hse : X13_selects_f E w3.1 m (nI r) = some (if ssel (qS Q) r = true then 1 else 0) := hse
  have hfst : X13_writeRow_f E m (nI r) w.1 = X13_writeRow_21 E (gN E) m (nI r) 0 w2.1 := by
    unfold X13_writeRow_f X13_writeRow
    rw [ob_e q.cl, ob_e (q.row (nI r)), if_pos (rOK_n q.R hr), ob_e q.cl, ob_e e1, if_pos rfl, ob_e e2]
  have hb1 := hb _ (Nat.le_refl (qS Q).1)
  rw [hfst]
  cases hs : ssel (qS Q) r with
  | false =>
    have hp : pLine (qS Q) r (0, qO Q) = pRw (qS Q) r (qS Q).1 (0, qO Q) := by
      unfold pLine
      rw [hs, if_neg (by decide)]
    rw [hp]
    refine ⟨w3, ?_, (F1.trans F2).trans F3, h3⟩
    refine e3.trans ?_
    rw [ob_e q3.cl, ob_e hse, hs, if_neg (by decide : ¬ false = true), if_pos rfl]
    exact f15 w3 _ h3
  | true =>
    have hp : pLine (qS Q) r (0, qO Q) = pByt (pRw (qS Q) r (qS Q).1 (0, qO Q)) 42 := by
      unfold pLine
      rw [hs, if_pos rfl]
    obtain ⟨w4, e4, F4, h4⟩ := h3.pb (by show (pRw (qS Q) r (qS Q).1 (0, qO Q)).1 < 60; omega) 42
    have e4 : X13_write_f E m (42 : Int32) w3.1 = some w4.1 := e4
    rw [hp]
    refine ⟨w4, ?_, ((F1.trans F2).trans F3).trans F4, h4⟩
    refine e3.trans ?_
    rw [ob_e q3.cl, ob_e hse, hs, if_pos rfl, if_neg i10, ob_e q3.cl, ob_e e4]
    exact f15 w4 _ h4
theorem M_writeRowF (h : RX E w m th Q) (hG : GS (qS Q)) {a : Int32} (ha : ¬ rOK (qS Q) a) : XM E w m 1 Q 0 (X13_writeRow_f E m a w.1) := by
  obtain ⟨g, q⟩ := h.q hG
  obtain ⟨w1, e1, F1, h1⟩ := h.lkN
  refine ⟨w1, ?_, F1, h1⟩
  unfold X13_writeRow_f X13_writeRow
  rw [ob_e q.cl, ob_e (q.row a), if_neg ha, ob_e q.cl, ob_e e1, if_neg i10]
end MM
