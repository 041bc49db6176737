/-! the law: isFilter, its loops -/
section IFT
variable {E : gE} {l : Nat} {ad : Nat → Nat} {Q : gQ}
theorem if_last (hN : 100000 ≤ gN E) (hG : GQ Q) {w : gWd} (h : RW E l ad Q w) : LG E l ad Q 1 w (L_isFilter_419 E l (nI (fb_ct (ssel (qS Q)) (tR (qS Q)))) w.1) := by
  unfold L_isFilter_419
  refine LG.ask h (K_selectedCount hN h.1 hG) ?_
  refine LG.it rfl ?_
  refine LG.two h (K_gap hN h.1 hG) JK21 fun w1 _ h1 => ?_
  exact LG.it rfl (LG.ret h1)
theorem if_cols (hN : 100000 ≤ gN E) (hG : GQ Q) :
    ∀ (d c m : Nat) (w : gWd), c + d = (qS Q).1 → d < m → RW E l ad Q w → LG E l ad Q 1 w (L_isFilter_318 E m l (nI (fb_ct (ssel (qS Q)) (tR (qS Q)))) (nI c) w.1) := by
  have h60 := hG.1.2.2.2.1
  have hC6 := hG.1.2.1
  have hle : fb_ct (ssel (qS Q)) (tR (qS Q)) ≤ tR (qS Q) := fb_ct_le _ _
  intro d
  induction d with
  | zero =>
    intro c m w hc hm h
    obtain ⟨m, rfl⟩ : ∃ q, m = q + 1 := ⟨m - 1, by omega⟩
    show LG E l ad Q 1 w (L_isFilter_318_s E (L_isFilter_318 E m) l (nI (fb_ct (ssel (qS Q)) (tR (qS Q)))) (nI c) w.1)
    unfold L_isFilter_318_s
    refine LG.ask h (K_columnCount hN h.1 hG) ?_
    refine LG.it (nI_le (by omega) (by omega)) ?_
    exact if_last hN hG h
  | succ d ih =>
    intro c m w hc hm h
    obtain ⟨m, rfl⟩ : ∃ q, m = q + 1 := ⟨m - 1, by omega⟩
    have hcl : c < (qS Q).1 := by omega
    show LG E l ad Q 1 w (L_isFilter_318_s E (L_isFilter_318 E m) l (nI (fb_ct (ssel (qS Q)) (tR (qS Q)))) (nI c) w.1)
    unfold L_isFilter_318_s
    refine LG.ask h (K_columnCount hN h.1 hG) ?_
    refine LG.ie (nI_ge (by omega) (by omega)) ?_
    by_cases h0 : fb_ct (ssel (qS Q)) (tR (qS Q)) = 0
    · refine LG.it (by rw [h0]; decide) ?_
      exact if_last hN hG h
    · refine LG.ie (nI_nle (by omega) (by omega)) ?_
      refine LG.call h (K_sumSelected hN h.1 hG hcl) fun w1 _ h1 => ?_
      obtain ⟨p, p1, p2, p3, hs⟩ := K_smallestSelected hN h1.1 hG h1.2 hcl h0
      refine LG.call h1 hs fun w2 _ h2 => ?_
      obtain ⟨q, q1, q2, q3, hg⟩ := K_greatestSelected hN h2.1 hG h2.2 hcl h0
      have hbd := gsum_bd hG.1 hcl (lo := (xp p).toInt) (hi := (xp q).toInt) (fun r hr hs => ⟨gsel_lo hG.1 hcl hr hs p1 p3, gsel_hi hG.1 hcl hr hs q1 q2 q3⟩) (tR (qS Q)) (Nat.le_refl _)
      have hxp := xp_int (p := p) (by omega)
      have hxq := xp_int (p := q) (by omega)
      have hprod : ∀ x : Int32, -9999 ≤ x.toInt → x.toInt ≤ 9999 → ((nI (fb_ct (ssel (qS Q)) (tR (qS Q)))).toInt64 * x.toInt64).toInt = x.toInt * (fb_ct (ssel (qS Q)) (tR (qS Q)) : Int) := by
        intro x x1 x2
        have e1 : ((nI (fb_ct (ssel (qS Q)) (tR (qS Q)))).toInt64).toInt = (fb_ct (ssel (qS Q)) (tR (qS Q)) : Int) := by
          rw [Int32.toInt_toInt64, nI_toInt (by omega)]
        have e2 : (x.toInt64).toInt = x.toInt := Int32.toInt_toInt64 _
        have b1 : (fb_ct (ssel (qS Q)) (tR (qS Q)) : Int) * x.toInt ≤ 60 * 9999 := by
          rcases Int.le_total 0 x.toInt with z | z
          · exact Int.mul_le_mul (by omega) x2 z (by omega)
          · have : (fb_ct (ssel (qS Q)) (tR (qS Q)) : Int) * x.toInt ≤ 0 := Int.mul_nonpos_of_nonneg_of_nonpos (by omega) z
            omega
        have b2 : -(60 * 9999) ≤ (fb_ct (ssel (qS Q)) (tR (qS Q)) : Int) * x.toInt := by
          rcases Int.le_total 0 x.toInt with z | z
          · have : 0 ≤ (fb_ct (ssel (qS Q)) (tR (qS Q)) : Int) * x.toInt := Int.mul_nonneg (by omega) z
            omega
          · have : (fb_ct (ssel (qS Q)) (tR (qS Q)) : Int) * (-x.toInt) ≤ 60 * 9999 := Int.mul_le_mul (by omega) (by omega) (by omega) (by omega)
            rw [Int.mul_neg] at this
            omega
        rw [fb_mulL (by rw [e1, e2]; omega) (by rw [e1, e2]; omega), e1, e2, Int.mul_comm]
      refine LG.ie ?_ ?_
      · rw [lg_cmp_lt, fa_lt64, hprod _ (by omega) (by omega)]
        omega
      refine LG.call h2 hg fun w3 _ h3 => ?_
      refine LG.ie ?_ ?_
      · rw [lg_cmp_gt, fa_lt64, hprod _ (by omega) (by omega)]
        omega
      have hdz := dsz_le (gsel (qS Q) c)
      refine LG.call h3 (K_distinctSelected hN h3.1 hG h3.2 hcl) fun w4 _ h4 => ?_
      refine LG.ie (nI_nlt (gsel_le hG.1 hcl) (by omega)) ?_
      obtain ⟨p', p1', p2', p3', hs'⟩ := K_smallestSelected hN h4.1 hG h4.2 hcl h0
      refine LG.call h4 hs' fun w5 _ h5 => ?_
      obtain ⟨q', q1', q2', q3', hg'⟩ := K_greatestSelected hN h5.1 hG h5.2 hcl h0
      refine LG.call h5 hg' fun w6 _ h6 => ?_
      have hone := gsel_one p1' q1' p2' p3' q2' q3'
      have hgo : ∀ s : Int32, s = (if dsz (gsel (qS Q) c) = 1 then 1 else 0) → LG E l ad Q 1 w6 (L_isFilter_394 E (L_isFilter_318 E m) l (nI (fb_ct (ssel (qS Q)) (tR (qS Q)))) (nI c) s w6.1) := by
        intro s hs9
        unfold L_isFilter_394
        refine LG.call h6 (K_distinctSelected hN h6.1 hG h6.2 hcl) fun w7 _ h7 => ?_
        have hfin : LG E l ad Q 1 w7 (L_isFilter_318 E m l (nI (fb_ct (ssel (qS Q)) (tR (qS Q)))) (nI c + 1) w7.1) := by
          rw [← nI_succ]
          exact ih (c + 1) m w7 (by omega) (by omega) h7
        by_cases hd1 : dsz (gsel (qS Q) c) = 1
        · refine LG.it (by rw [hd1]; rfl) ?_
          unfold L_isFilter_408
          refine LG.it ?_ hfin
          rw [hs9, if_pos hd1]
        · refine LG.ie (fun z => hd1 ((nI_eqI (by omega) (by omega)).mp (show nI _ = nI 1 from z))) ?_
          unfold L_isFilter_408
          refine LG.it ?_ hfin
          rw [hs9, if_neg hd1]
      by_cases hx : xp p' = xp q'
      · exact LG.it hx (hgo 1 (by rw [if_pos (hone.mp hx)]))
      · exact LG.ie hx (hgo 0 (by rw [if_neg (fun z => hx (hone.mpr z))]))
theorem if_match (hN : 100000 ≤ gN E) (hG : GQ Q) :
    ∀ (d i m : Nat) (w : gWd), i + d = tK (qS Q) → d < m → RW E l ad Q w → LG E l ad Q 1 w (L_isFilter_248 E m l (nI (tK (qS Q))) (nI (fb_ct (ssel (qS Q)) (tR (qS Q)))) (nI i) w.1) := by
  have h60 := hG.1.2.2.2.1
  have hC6 := hG.1.2.1
  have hK8 := hG.1.2.2.2.2.2.1
  intro d
  induction d with
  | zero =>
    intro i m w hi hm h
    obtain ⟨m, rfl⟩ : ∃ q, m = q + 1 := ⟨m - 1, by omega⟩
    show LG E l ad Q 1 w (L_isFilter_248_s E (L_isFilter_248 E m) l (nI (tK (qS Q))) (nI (fb_ct (ssel (qS Q)) (tR (qS Q)))) (nI i) w.1)
    unfold L_isFilter_248_s
    refine LG.it (nI_le (by omega) (by omega)) ?_
    exact if_cols hN hG (qS Q).1 0 (gN E) w (Nat.zero_add _) (by omega) h
  | succ d ih =>
    intro i m w hi hm h
    obtain ⟨m, rfl⟩ : ∃ q, m = q + 1 := ⟨m - 1, by omega⟩
    have hil : i < tK (qS Q) := by omega
    obtain ⟨f1, f2, f3⟩ := hG.1.2.2.2.2.2.2 i hil
    have hm1 : fb_ct (fun r => sful (qS Q) r i) (tR (qS Q)) ≤ tR (qS Q) := fb_ct_le _ _
    have hsub : fb_ct (ssel (qS Q)) (tR (qS Q)) ≤ fb_ct (fun r => sful (qS Q) r i) (tR (qS Q)) := fb_ct_sub (fun r _ hs => ssel_ful hs hil)
    have hg := gstr_lt (qS Q) (tK (qS Q)) (by omega)
    have hsl := slo_shi hG.1 hil
    have hdl := dsz_le (tD (qS Q) (tFc (qS Q) i))
    show LG E l ad Q 1 w (L_isFilter_248_s E (L_isFilter_248 E m) l (nI (tK (qS Q))) (nI (fb_ct (ssel (qS Q)) (tR (qS Q)))) (nI i) w.1)
    unfold L_isFilter_248_s
    refine LG.ie (nI_ge (by omega) (by omega)) ?_
    refine LG.call h (K_matches hN h.1 hG hil) fun w1 _ h1 => ?_
    refine LG.ie (nI_nlt hsub (by omega)) ?_
    refine LG.call h1 (K_matches hN h1.1 hG hil) fun w2 _ h2 => ?_
    have hst := K_strictestCondition hN h2.1 hG
    rw [if_neg (by omega)] at hst
    refine LG.ask h2 hst ?_
    refine LG.call h2 (K_matches hN h2.1 hG hg) fun w3 _ h3 => ?_
    refine LG.ie (nI_nlt (gstr_min _ _ _ hil) (by omega)) ?_
    refine LG.call h3 (K_lowerCode hN h3.1 hG hil) fun w4 _ h4 => ?_
    refine LG.call h4 (K_upperCode hN h4.1 hG hil) fun w5 _ h5 => ?_
    refine LG.ie (nI_nlt hsl.1 (by omega)) ?_
    refine LG.call h5 (K_upperCode hN h5.1 hG hil) fun w6 _ h6 => ?_
    refine LG.call h6 (K_conditionColumn hN h6.1 hG hil) fun w7 _ h7 => ?_
    refine LG.call h7 (K_dictionarySize hN h7.1 hG f1) fun w8 _ h8 => ?_
    refine LG.it (nI_le hsl.2 (by omega)) ?_
    rw [← nI_succ]
    exact ih (i + 1) m w8 (by omega) (by omega) h8
theorem if_rows (hN : 100000 ≤ gN E) (hG : GQ Q) :
    ∀ (d k m : Nat) (w : gWd), k + d = tR (qS Q) → d < m → RW E l ad Q w → LG E l ad Q 1 w (L_isFilter_9 E m l (nI (tK (qS Q))) (nI (fb_ct (ssel (qS Q)) k)) (nI k) w.1) := by
  have h60 := hG.1.2.2.2.1
  have hK8 := hG.1.2.2.2.2.2.1
  intro d
  induction d with
  | zero =>
    intro k m w hk hm h
    obtain ⟨m, rfl⟩ : ∃ q, m = q + 1 := ⟨m - 1, by omega⟩
    show LG E l ad Q 1 w (L_isFilter_9_s E (L_isFilter_9 E m) l (nI (tK (qS Q))) (nI (fb_ct (ssel (qS Q)) k)) (nI k) w.1)
    unfold L_isFilter_9_s
    refine LG.ask h (K_rowCount hN h.1 hG) ?_
    refine LG.it (nI_le (by omega) (by omega)) ?_
    rw [show k = tR (qS Q) by omega]
    exact if_match hN hG (tK (qS Q)) 0 (gN E) w (Nat.zero_add _) (by omega) h
  | succ d ih =>
    intro k m w hk hm h
    obtain ⟨m, rfl⟩ : ∃ q, m = q + 1 := ⟨m - 1, by omega⟩
    show LG E l ad Q 1 w (L_isFilter_9_s E (L_isFilter_9 E m) l (nI (tK (qS Q))) (nI (fb_ct (ssel (qS Q)) k)) (nI k) w.1)
    unfold L_isFilter_9_s
    refine LG.ask h (K_rowCount hN h.1 hG) ?_
    refine LG.ie (nI_ge (by omega) (by omega)) ?_
    have h9 := if_conds (r_9 := L_isFilter_9 E m) (sel := fb_ct (ssel (qS Q)) k) (k := k) hN hG (by omega) rfl (fun w1 h1 => by
      rw [← nI_succ]
      exact ih (k + 1) m w1 (by omega) (by omega) h1) (tK (qS Q)) (gN E) w (Nat.le_refl _) (by omega) h
    rw [rjn_end, if_pos rfl, if_neg (by omega)] at h9
    exact h9
theorem K_isFilter (hN : 100000 ≤ gN E) (hG : GQ Q) {w : gWd} (h : RW E l ad Q w) : LG E l ad Q 1 w (L_isFilter_f E l w.1) := by
  have h60 := hG.1.2.2.2.1
  unfold L_isFilter_f L_isFilter
  refine LG.ask h (K_conditionCount hN h.1 hG) ?_
  exact if_rows (l := l) (ad := ad) hN hG (tR (qS Q)) 0 (gN E) w (Nat.zero_add _) (by omega) h
end IFT
