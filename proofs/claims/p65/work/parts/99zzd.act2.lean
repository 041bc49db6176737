/-! the law: an act that adds no row -/
def nxt (Q : gQ) (o : Option gT) : gQ := match o with
  | none => Q
  | some S' => qC Q S'
section AC2
variable {E : gE} {l b : Nat} {ad : Nat → Nat} {Q : gQ} {w : gWd} {k : Nat} {l4 : Int32}
theorem ca_70 (hN : 100000 ≤ gN E) (hG : GQ Q) (hk : k < 26) (h6 : ¬ (k < 6 ∨ tR (qS Q) = 0)) (h : RW E l ad Q w) :
    LG E l ad (nxt Q (aDf k l4 (qS Q))) 1 w (L_act_70 E l b (nI k) l4 (nI (qS Q).1) (nI (tR (qS Q))) (nI (mo l4 (qS Q).1)) (aV l4) w.1) := by
  have hGS := hG.1
  have hC := hGS.1
  have hC6 := hGS.2.1
  have h60 := hGS.2.2.2.1
  have hK8 := hGS.2.2.2.2.2.1
  have hcol := mo_lt l4 (n := (qS Q).1) hC
  have hrow := mo_lt (l4 >>> ((1 : Int32) &&& 31)) (n := tR (qS Q)) (by omega)
  have hv := vSm_in (aV_v l4)
  have hs := fb_ct_le (ssel (qS Q)) (tR (qS Q))
  have cl : ∀ a, a < 2 ^ 31 → ((nI a ≤ nI k) ↔ a ≤ k) := fun a ha => le_lit ha (by omega)
  have c10 : ((10 : Int32) ≤ nI k) ↔ 10 ≤ k := cl 10 (by omega)
  have c13 : ((13 : Int32) ≤ nI k) ↔ 13 ≤ k := cl 13 (by omega)
  have c15 : ((15 : Int32) ≤ nI k) ↔ 15 ≤ k := cl 15 (by omega)
  have c17 : ((17 : Int32) ≤ nI k) ↔ 17 ≤ k := cl 17 (by omega)
  have c19 : ((19 : Int32) ≤ nI k) ↔ 19 ≤ k := cl 19 (by omega)
  have c22 : ((22 : Int32) ≤ nI k) ↔ 22 ≤ k := cl 22 (by omega)
  have e22 : (nI k = (22 : Int32)) ↔ k = 22 := nI_eqI (b := 22) (by omega) (by omega)
  have e23 : (nI k = (23 : Int32)) ↔ k = 23 := nI_eqI (b := 23) (by omega) (by omega)
  have eK0 : (nI (tK (qS Q)) = (0 : Int32)) ↔ tK (qS Q) = 0 := nI_eqI (b := 0) (by omega) (by omega)
  have eK8 : (nI (tK (qS Q)) = (8 : Int32)) ↔ tK (qS Q) = 8 := nI_eqI (b := 8) (by omega) (by omega)
  unfold L_act_70
  refine LG.ie (fun z => by
    have := (lt_lit (a := k) (k := 6) (by omega) (by omega)).mp z
    omega) ?_
  refine LG.ie (fun z => by
    have := (nI_eqI (a := tR (qS Q)) (b := 0) (by omega) (by omega)).mp z
    omega) ?_
  rw [ob_e (K_most (l4 >>> ((1 : Int32) &&& 31)) (n := tR (qS Q)) (by omega) (by omega))]
  unfold aDf
  rw [if_neg h6]
  by_cases d10 : k < 10
  · -- a value is set
    rw [if_pos d10]
    show LG E l ad (qC Q (putT1 (qS Q) (mo l4 (qS Q).1) (mo (l4 >>> ((1 : Int32) &&& 31)) (tR (qS Q))) (aV l4))) 1 w _
    have hS := hGS.put hcol hrow hv
    have hG' := hG.chg hS.1
    refine LG.ie (fun z => by have := c10.mp z; omega) ?_
    refine LG.call h (K_value hN h.1 hG hcol hrow) fun w1 _ h1 => ?_
    refine LG.call h1 (K_bitWidthWith hN h1.1 hG hcol hv) fun w2 _ h2 => ?_
    refine LG.call h2 (K_setValue hN h2.1 hG h2.2 hcol hrow hv) fun w3 _ h3 => ?_
    refine LG.it rfl ?_
    refine LG.call h3 (K_value hN h3.1 hG' (show mo l4 (qS Q).1 < (qS Q).1 from hcol) (r := mo (l4 >>> ((1 : Int32) &&& 31)) (tR (qS Q))) (by
      show _ < tR (putT1 (qS Q) _ _ _)
      rw [hS.2]
      exact hrow)) fun w4 _ h4 => ?_
    refine LG.it put_V ?_
    refine LG.call h4 (K_bitWidth hN h4.1 hG' (show mo l4 (qS Q).1 < (qS Q).1 from hcol)) fun w5 _ h5 => ?_
    refine LG.it ?_ (LG.ret h5)
    show nI (gwid (dsz (tD (putT1 (qS Q) _ _ _) _))) = _
    have e : dmem (tD (qS Q) (mo l4 (qS Q).1)) (aV l4) = tD (qS Q) (mo l4 (qS Q).1) (px (aV l4)) := by
      unfold dmem
      rw [decide_eq_true (show -9999 ≤ (aV l4).toInt ∧ (aV l4).toInt ≤ 9999 from hv), Bool.true_and]
    rw [put_D, dsz_dins (px_lt hv), e]
  rw [if_neg d10]
  refine LG.it (c10.mpr (by omega)) ?_
  by_cases d13 : k < 13
  · -- sorted
    rw [if_pos d13]
    refine LG.ie (fun z => by have := c13.mp z; omega) ?_
    rw [ob_e (show L_most_f E w.1 (l4 >>> ((5 : Int32) &&& 31)) (2 : Int32) = _ from K_most (l4 >>> ((5 : Int32) &&& 31)) (n := 2) (by omega) (by omega))]
    have h2 := mo_lt (l4 >>> ((5 : Int32) &&& 31)) (n := 2) (by omega)
    have ez : (nI (mo (l4 >>> ((5 : Int32) &&& 31)) 2) = (0 : Int32)) ↔ mo (l4 >>> ((5 : Int32) &&& 31)) 2 = 0 := nI_eqI (b := 0) (by omega) (by omega)
    by_cases z : mo (l4 >>> ((5 : Int32) &&& 31)) 2 = 0
    · refine LG.it (ez.mpr z) ?_
      have := ca_330 (col := mo l4 (qS Q).1) hN hG (d := 1) (.inr rfl) hcol h
      rw [decide_eq_true z]
      exact this
    · refine LG.ie (fun y => z (ez.mp y)) ?_
      have := ca_330 (col := mo l4 (qS Q).1) hN hG (d := 0) (.inl rfl) hcol h
      rw [decide_eq_false z]
      exact this
  rw [if_neg d13]
  refine LG.it (c13.mpr (by omega)) ?_
  by_cases d19 : k < 19
  · -- a condition
    rw [if_pos d19]
    refine LG.ie (fun z => by have := c19.mp z; omega) ?_
    refine LG.ask h (K_conditionCount hN h.1 hG) ?_
    by_cases z8 : tK (qS Q) = 8
    · rw [if_pos z8]
      refine LG.it (eK8.mpr z8) ?_
      refine LG.ask h (K_strictestCondition hN h.1 hG) ?_
      rw [if_neg (show ¬ tK (qS Q) = 0 by omega)]
      have hst := gstr_lt (qS Q) (tK (qS Q)) (by omega)
      refine LG.ie ?_ (LG.ret h)
      rw [fa_lt, nI_toInt (by omega)]
      show ¬ (_ < (0 : Int))
      omega
    · rw [if_neg z8]
      refine LG.ie (fun y => z8 (eK8.mp y)) ?_
      refine LG.ask h (K_selectedCount hN h.1 hG) ?_
      have hd : dOK (aD k) := by
        unfold aD
        by_cases z1 : k < 15
        · rw [if_pos z1]; exact .inl rfl
        · rw [if_neg z1]
          by_cases z2 : k < 17
          · rw [if_pos z2]; exact .inr (.inl rfl)
          · rw [if_neg z2]; exact .inr (.inr rfl)
      obtain ⟨a1, a2, a3⟩ := K_add (v := aV l4) hN h.1 hG h.2 hcol hv (by omega)
      by_cases z1 : k < 15
      · refine LG.ie (fun z => by have := c15.mp z; omega) ?_
        have e : aD k = -1 := if_pos z1
        rw [← e] at a1
        refine LG.call h a1 fun w1 _ h1 => ?_
        exact ca_551 hN hG hk hcol hv (by omega) h1 hd
      · refine LG.it (c15.mpr (by omega)) ?_
        by_cases z2 : k < 17
        · refine LG.ie (fun z => by have := c17.mp z; omega) ?_
          have e : aD k = 0 := by unfold aD; rw [if_neg z1, if_pos z2]
          rw [← e] at a2
          refine LG.call h a2 fun w1 _ h1 => ?_
          exact ca_551 hN hG hk hcol hv (by omega) h1 hd
        · refine LG.it (c17.mpr (by omega)) ?_
          have e : aD k = 1 := by unfold aD; rw [if_neg z1, if_neg z2]
          rw [← e] at a3
          refine LG.call h a3 fun w1 _ h1 => ?_
          exact ca_551 hN hG hk hcol hv (by omega) h1 hd
  rw [if_neg d19]
  refine LG.it (c19.mpr (by omega)) ?_
  by_cases d22 : k < 22
  · -- a condition goes
    rw [if_pos d22]
    refine LG.ie (fun z => by have := c22.mp z; omega) ?_
    refine LG.ask h (K_conditionCount hN h.1 hG) ?_
    by_cases z0 : tK (qS Q) = 0
    · rw [if_pos z0]
      refine LG.it (eK0.mpr z0) ?_
      refine LG.ask h (K_selectedCount hN h.1 hG) ?_
      exact LG.it (congrArg nI (none_sel z0)) (LG.ret h)
    · rw [if_neg z0]
      refine LG.ie (fun y => z0 (eK0.mp y)) ?_
      refine LG.ask h (K_selectedCount hN h.1 hG) ?_
      have hq := mo_lt l4 (n := tK (qS Q)) (by omega)
      rw [ob_e (K_most l4 (n := tK (qS Q)) (by omega) (by omega))]
      have hG' := hG.chg (hGS.rem hq)
      have hge := rem_sel_ge (S := qS Q) (q := mo l4 (tK (qS Q))) (n := tR (qS Q))
      have hs2 := fb_ct_le (ssel (remT (qS Q) (mo l4 (tK (qS Q))))) (tR (qS Q))
      refine LG.call h (K_removeCondition hN h.1 hG h.2 hq) fun w1 _ h1 => ?_
      refine LG.ie (fun z => by
        have := (lt_lit (by omega) (by omega)).mp z
        omega) ?_
      refine LG.ask h1 (K_selectedCount hN h1.1 hG') ?_
      refine LG.it rfl ?_
      refine LG.ask h1 (K_conditionCount hN h1.1 hG') ?_
      refine LG.it ?_ (LG.ret h1)
      show nI (tK (qS Q) - 1) = _
      exact (nI_sub1 (by omega)).symm
  rw [if_neg d22]
  refine LG.it (c22.mpr (by omega)) ?_
  by_cases d23 : k = 22
  · -- what is selected goes
    rw [if_pos d23]
    refine LG.it (e22.mpr d23) ?_
    refine LG.ask h (K_conditionCount hN h.1 hG) ?_
    by_cases z0 : tK (qS Q) = 0
    · rw [if_pos z0]
      refine LG.it (eK0.mpr z0) ?_
      refine LG.ask h (K_selectedCount hN h.1 hG) ?_
      exact LG.it (congrArg nI (none_sel z0)) (LG.ret h)
    · rw [if_neg z0]
      refine LG.ie (fun y => z0 (eK0.mp y)) ?_
      refine LG.ask h (K_selectedCount hN h.1 hG) ?_
      have hG' := hG.chg hGS.del.1
      have hdc := del_ct (S := qS Q)
      have hle := fb_ct_le (fun q => !ssel (qS Q) q) (tR (qS Q))
      refine LG.two h (K_deleteSelected hN h.1 hG h.2) (fun _ z => z) fun w1 _ h1 => ?_
      refine LG.it (congrArg nI hdc) ?_
      refine LG.ask h1 (K_rowCount hN h1.1 hG') ?_
      refine LG.it ?_ ?_
      · show nI (tR (delT (qS Q))) = _
        rw [hGS.del.2, nI_sub hs]
        congr 1
        omega
      refine LG.ask h1 (K_selectedCount hN h1.1 hG') ?_
      refine LG.it ?_ (LG.ret h1)
      show nI (fb_ct (ssel (delT (qS Q))) (tR (delT (qS Q)))) = 0
      rw [del_none hGS]
      rfl
  rw [if_neg d23]
  refine LG.ie (fun y => d23 (e22.mp y)) ?_
  by_cases d24 : k = 23
  · -- a row goes
    rw [if_pos d24]
    refine LG.it (e23.mpr d24) ?_
    have hS := hGS.row hrow
    have hG' := hG.chg hS.1
    refine LG.call h (K_removeRow hN h.1 hG h.2 hrow) fun w1 _ h1 => ?_
    refine LG.it (nI_sub1 (by omega)).symm ?_
    refine LG.ask h1 (K_rowCount hN h1.1 hG') ?_
    refine LG.it ?_ (LG.ret h1)
    show nI (tR (rowT (qS Q) _)) = _
    rw [hS.2]
    exact (nI_sub1 (by omega)).symm
  · -- a dictionary is made smaller
    rw [if_neg d24]
    refine LG.ie (fun y => d24 (e23.mp y)) ?_
    have hS := hGS.cmp hcol
    have hG' := hG.chg hS.1
    have hRR : tR (qS (qC Q (cmpT (qS Q) (mo l4 (qS Q).1)))) = tR (qS Q) := hS.2
    have hcc : mo l4 (qS Q).1 < (qS (qC Q (cmpT (qS Q) (mo l4 (qS Q).1)))).1 := hcol
    have hdl := dcol_le hGS hcol
    have hdz := dsz_le (tD (qS Q) (mo l4 (qS Q).1))
    have hD : tD (qS (qC Q (cmpT (qS Q) (mo l4 (qS Q).1)))) (mo l4 (qS Q).1) = dcol (tV (qS Q) (mo l4 (qS Q).1)) (tR (qS Q)) := cmp_D hGS hcol
    refine LG.call h (K_staleCount hN h.1 hG h.2 hcol) fun w1 _ h1 => ?_
    refine LG.call h1 (K_dictionarySize hN h1.1 hG hcol) fun w2 _ h2 => ?_
    refine LG.call h2 (K_bitWidthCompacted hN h2.1 hG h2.2 hcol) fun w3 _ h3 => ?_
    refine LG.call h3 (K_value hN h3.1 hG hcol hrow) fun w4 _ h4 => ?_
    refine LG.call h4 (K_compact hN h4.1 hG h4.2 hcol) fun w5 _ h5 => ?_
    refine LG.it rfl ?_
    have a1 := K_dictionarySize hN h5.1 hG' hcc
    rw [hD] at a1
    refine LG.call h5 a1 fun w6 _ h6 => ?_
    refine LG.it ?_ ?_
    · rw [nI_sub hdl, nI_sub (by omega)]
      congr 1
      omega
    have a2 := K_bitWidth hN h6.1 hG' hcc
    rw [hD] at a2
    refine LG.call h6 a2 fun w7 _ h7 => ?_
    refine LG.it rfl ?_
    have a3 := K_staleCount hN h7.1 hG' h7.2 hcc
    have hq : dcol (tV (qS (qC Q (cmpT (qS Q) (mo l4 (qS Q).1)))) (mo l4 (qS Q).1)) (tR (qS Q)) = dcol (tV (qS Q) (mo l4 (qS Q).1)) (tR (qS Q)) := dcol_cong (fun r _ => cmp_V)
    rw [hD, hRR, hq] at a3
    refine LG.call h7 a3 fun w8 _ h8 => ?_
    refine LG.it (Int32.sub_self _) ?_
    refine LG.call h8 (K_value hN h8.1 hG' hcc (r := mo (l4 >>> ((1 : Int32) &&& 31)) (tR (qS Q))) (by rw [hRR]; exact hrow)) fun w9 _ h9 => ?_
    exact LG.it cmp_V (LG.ret h9)
end AC2
