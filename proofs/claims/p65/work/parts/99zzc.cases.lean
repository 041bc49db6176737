/-! the law: the cases of an act -/
theorem cmp_self (x : Int64) : lg_cmp x x = 0 := by
  unfold lg_cmp
  rw [if_neg (fun z => by
    have := (fa_lt64 x x).mp z
    omega), if_pos rfl]
theorem put_V {S : gT} {c r : Nat} {v : Int32} : tV (putT1 S c r v) c r = v := by
  show ((if c = c then opPut r v (S.2.1 c) else S.2.1 c).2.1) r = v
  rw [if_pos rfl]
  exact pk_us
theorem put_D {S : gT} {c r : Nat} {v : Int32} : tD (putT1 S c r v) c = dins (tD S c) (px v) := by
  show (if c = c then opPut r v (S.2.1 c) else S.2.1 c).2.2 = _
  rw [if_pos rfl]
  rfl
theorem cmp_V {S : gT} {c r : Nat} : tV (cmpT S c) c r = tV S c r := by
  show ((if c = c then opCm (S.2.1 c) else S.2.1 c).2.1) r = _
  rw [if_pos rfl]
  rfl
theorem cmp_D {S : gT} (hG : GS S) {c : Nat} (hc : c < S.1) : tD (cmpT S c) c = dcol (tV S c) (tR S) := by
  show (if c = c then opCm (S.2.1 c) else S.2.1 c).2.2 = _
  rw [if_pos rfl, ← hG.2.2.1 c hc]
  rfl
theorem ap_V {S : gT} (hG : GS S) {z : Nat → Int32} : tV (apT S z) 0 (tR S) = z 0 := by
  show ((mapC (fun c y => opAp (z c) y) S.1 S).2.1 0).2.1 (tR S) = z 0
  rw [mapC_col (show 0 < S.1 from hG.1)]
  exact pk_us
theorem dcol_cong {v v' : Nat → Int32} : ∀ {n : Nat}, (∀ r, r < n → v r = v' r) → dcol v n = dcol v' n
  | 0, _ => rfl
  | n + 1, h => by rw [dcol_s, dcol_s, dcol_cong (fun r hr => h r (by omega)), h n (by omega)]
section CAS
variable {E : gE} {l b : Nat} {ad : Nat → Nat} {Q : gQ} {w : gWd} {k col row : Nat} {l4 v : Int32}
theorem K_add (hN : 100000 ≤ gN E) (h : RK E w l ad Q) (hG : GQ Q) (hR : RM E w 1) {c : Nat} (hc : c < (qS Q).1) (hv : vIn v) (hk : tK (qS Q) < 8) :
    XA E w l ad (qC Q (addT (qS Q) c v (-1))) (Sum.inr (nI (fb_ct (ssel (addT (qS Q) c v (-1))) (tR (qS Q))))) (X12_addLess_f E l (nI c) v w.1) ∧
    XA E w l ad (qC Q (addT (qS Q) c v 0)) (Sum.inr (nI (fb_ct (ssel (addT (qS Q) c v 0)) (tR (qS Q))))) (X12_addEqual_f E l (nI c) v w.1) ∧
    XA E w l ad (qC Q (addT (qS Q) c v 1)) (Sum.inr (nI (fb_ct (ssel (addT (qS Q) c v 1)) (tR (qS Q))))) (X12_addGreater_f E l (nI c) v w.1) := by
  refine ⟨?_, ?_, ?_⟩
  · obtain ⟨w', e, F, h'⟩ := K_addCondition hN h hG hR hc hv (d := -1) (.inl rfl) hk
    refine ⟨w', ?_, F, h'⟩
    unfold X12_addLess_f X12_addLess
    rw [ob_e h.cl, ob_e e]
    rfl
  · obtain ⟨w', e, F, h'⟩ := K_addCondition hN h hG hR hc hv (d := 0) (.inr (.inl rfl)) hk
    refine ⟨w', ?_, F, h'⟩
    unfold X12_addEqual_f X12_addEqual
    rw [ob_e h.cl, ob_e e]
    rfl
  · obtain ⟨w', e, F, h'⟩ := K_addCondition hN h hG hR hc hv (d := 1) (.inr (.inr rfl)) hk
    refine ⟨w', ?_, F, h'⟩
    unfold X12_addGreater_f X12_addGreater
    rw [ob_e h.cl, ob_e e]
    rfl
/-- a condition was added -/
theorem ca_551 (hN : 100000 ≤ gN E) (hG : GQ Q) (hk : k < 26) (hc : col < (qS Q).1) (hv : vIn v) (h8 : tK (qS Q) < 8) (h : RW E l ad (qC Q (addT (qS Q) col v (aD k))) w) (hd : dOK (aD k)) :
    LG E l ad (qC Q (addT (qS Q) col v (aD k))) 1 w (L_act_551 E l (nI k) (nI col) v (nI (tK (qS Q))) (nI (fb_ct (ssel (qS Q)) (tR (qS Q)))) (nI (fb_ct (ssel (addT (qS Q) col v (aD k))) (tR (qS Q)))) w.1) := by
  have hG' := hG.chg (hG.1.add hc hv hd h8)
  have h60 := hG.1.2.2.2.1
  have hs := fb_ct_le (ssel (qS Q)) (tR (qS Q))
  have hle := add_sel_le (S := qS Q) (c := col) (v := v) (d := aD k) (n := tR (qS Q))
  have htk : tK (qS Q) < tK (qS (qC Q (addT (qS Q) col v (aD k)))) := Nat.lt_succ_self _
  unfold L_act_551
  refine LG.ie (fun z => ?_) ?_
  · have := (lt_lit (by omega) (by omega)).mp z
    omega
  refine LG.ask h (K_selectedCount hN h.1 hG') ?_
  refine LG.it rfl ?_
  refine LG.ask h (K_conditionCount hN h.1 hG') ?_
  refine LG.it (show nI (tK (qS Q) + 1) = nI (tK (qS Q)) + (1 : Int32) from nI_succ _) ?_
  refine LG.call h (K_conditionColumn hN h.1 hG' htk) fun w1 _ h1 => ?_
  refine LG.it (show nI (updN (tFc (qS Q)) (tK (qS Q)) col (tK (qS Q))) = nI col by
    unfold updN
    rw [if_pos rfl]) ?_
  refine LG.call h1 (K_conditionValue hN h1.1 hG' htk) fun w2 _ h2 => ?_
  refine LG.it (show upd (tFv (qS Q)) (tK (qS Q)) v (tK (qS Q)) = v from pk_us) ?_
  refine LG.call h2 (K_conditionDirection hN h2.1 hG' htk) fun w3 _ h3 => ?_
  have e : tFd (qS (qC Q (addT (qS Q) col v (aD k)))) (tK (qS Q)) = aD k := pk_us
  rw [e]
  have c15 : ((15 : Int32) ≤ nI k) ↔ 15 ≤ k := le_lit (a := 15) (by omega) (by omega)
  have c17 : ((17 : Int32) ≤ nI k) ↔ 17 ≤ k := le_lit (a := 17) (by omega) (by omega)
  unfold L_act_629
  by_cases z1 : k < 15
  · refine LG.ie (fun z => by have := c15.mp z; omega) ?_
    exact LG.it (show aD k = -1 from if_pos z1) (LG.ret h3)
  · refine LG.it (c15.mpr (by omega)) ?_
    by_cases z2 : k < 17
    · refine LG.ie (fun z => by have := c17.mp z; omega) ?_
      exact LG.it (show aD k = 0 by unfold aD; rw [if_neg z1, if_pos z2]) (LG.ret h3)
    · refine LG.it (c17.mpr (by omega)) ?_
      exact LG.it (show aD k = 1 by unfold aD; rw [if_neg z1, if_neg z2]) (LG.ret h3)
/-- sorted: the sums behind -/
theorem ca_370 (hN : 100000 ≤ gN E) (hG : GQ Q) {d : Int32} (hd : d = 0 ∨ d = 1) (hc : col < (qS Q).1) :
    ∀ (n i m : Nat) (w : gWd), i + n = (qS Q).1 → n < m → RW E l ad (qC Q (srtT (qS Q) col (decide (¬ d = 0)))) w →
    LG E l ad (qC Q (srtT (qS Q) col (decide (¬ d = 0)))) 1 w (L_act_370 E m l (nI (qS Q).1) (nI col) d (nI (grby (qS Q) col)) (nI (fb_ct (ssel (qS Q)) (tR (qS Q)))) (gsumL (qS Q) col (tR (qS Q)))
      (nI (gruns (tV (srtT (qS Q) col (decide (¬ d = 0))) col) (fun k => k) (tR (qS Q)))) (nI (fb_sm (fun o => gruns (tV (srtT (qS Q) col (decide (¬ d = 0))) o) (fun k => k) (tR (qS Q))) i)) (nI i) w.1) := by
  have hS := hG.1.srt col (decide (¬ d = 0))
  have hG' := hG.chg hS.1
  have h6 := hG.1.2.1
  have hRR : tR (qS (qC Q (srtT (qS Q) col (decide (¬ d = 0))))) = tR (qS Q) := hS.2
  have hcc : col < (qS (qC Q (srtT (qS Q) col (decide (¬ d = 0))))).1 := hc
  intro n
  induction n with
  | zero =>
    intro i m w hi hm h
    obtain ⟨m, rfl⟩ : ∃ q, m = q + 1 := ⟨m - 1, by omega⟩
    have hi : i = (qS Q).1 := by omega
    show LG E l ad _ 1 w (L_act_370_s E (L_act_370 E m) l _ _ _ _ _ _ _ _ _ w.1)
    unfold L_act_370_s
    refine LG.it (nI_le (by omega) (by omega)) ?_
    have a1 := K_runCount hN h.1 hG' hcc
    rw [hRR] at a1
    refine LG.call h a1 fun w1 _ h1 => ?_
    refine LG.it rfl ?_
    refine LG.call h1 (K_dictionarySize hN h1.1 hG' hcc) fun w2 _ h2 => ?_
    have a2 := K_staleCount hN h2.1 hG' h2.2 hcc
    rw [hRR] at a2
    refine LG.call h2 a2 fun w3 _ h3 => ?_
    have hdl := dcol_le hS.1 (c := col) hc
    rw [hS.2] at hdl
    have hdz := dsz_le (tD (srtT (qS Q) col (decide (¬ d = 0))) col)
    have hq : tV (qS (qC Q (srtT (qS Q) col (decide (¬ d = 0))))) col = tV (srtT (qS Q) col (decide (¬ d = 0))) col := rfl
    have hq2 : tD (qS (qC Q (srtT (qS Q) col (decide (¬ d = 0))))) col = tD (srtT (qS Q) col (decide (¬ d = 0))) col := rfl
    refine LG.it ?_ ?_
    · rw [hq, hq2, srt_runs hG.1 hc, nI_sub hdl, nI_sub (by omega)]
      congr 1
      omega
    have h444 : ∀ w, RW E l ad (qC Q (srtT (qS Q) col (decide (¬ d = 0)))) w → LG E l ad (qC Q (srtT (qS Q) col (decide (¬ d = 0)))) 1 w (L_act_444 E l (nI col) (nI (fb_ct (ssel (qS Q)) (tR (qS Q)))) (gsumL (qS Q) col (tR (qS Q))) w.1) := by
      intro w h
      unfold L_act_444
      refine LG.ask h (K_selectedCount hN h.1 hG') ?_
      refine LG.it (by
        rw [hRR]
        exact congrArg nI (srt_sel hG.1)) ?_
      have a3 := K_sumSelected hN h.1 hG' hcc
      rw [hRR] at a3
      refine LG.call h a3 fun w1 _ h1 => ?_
      refine LG.it ?_ (LG.ret h1)
      have e : gsumL (qS (qC Q (srtT (qS Q) col (decide (¬ d = 0))))) col (tR (qS Q)) = gsumL (qS Q) col (tR (qS Q)) := srt_sum hG.1 hc
      rw [e, cmp_self]
    rcases hd with hd | hd
    · exact LG.it hd (h444 _ h3)
    · refine LG.ie (by rw [hd]; decide) ?_
      have hb : decide (¬ d = 0) = true := by rw [hd]; decide
      refine LG.it ?_ ?_
      · rw [hb, hi]
        exact congrArg nI srt_rby
      obtain ⟨b', hb', a4⟩ := K_isSorted hN h3.1 hG' hcc
      rw [hRR] at hb'
      refine LG.call h3 a4 fun w4 _ h4 => ?_
      have hasc : gasc (tV (qS (qC Q (srtT (qS Q) col (decide (¬ d = 0))))) col) (tR (qS Q)) := by
        show gasc (tV (srtT (qS Q) col (decide (¬ d = 0))) col) (tR (qS Q))
        rw [hb]
        exact srt_asc hc
      refine LG.ie ?_ (h444 _ h4)
      rcases hb' with ⟨rfl, -⟩ | ⟨-, z⟩
      · decide
      · exact absurd hasc z
  | succ n ih =>
    intro i m w hi hm h
    obtain ⟨m, rfl⟩ : ∃ q, m = q + 1 := ⟨m - 1, by omega⟩
    show LG E l ad _ 1 w (L_act_370_s E (L_act_370 E m) l _ _ _ _ _ _ _ _ _ w.1)
    unfold L_act_370_s
    refine LG.ie (nI_ge (by omega) (by omega)) ?_
    have a1 := K_runCount hN h.1 hG' (c := i) (show i < (qS Q).1 by omega)
    rw [hRR] at a1
    refine LG.call h a1 fun w1 _ h1 => ?_
    have := ih (i + 1) m w1 (by omega) (by omega) h1
    rw [nI_add, ← nI_succ]
    exact this
theorem ca_330 (hN : 100000 ≤ gN E) (hG : GQ Q) {d : Int32} (hd : d = 0 ∨ d = 1) (hc : col < (qS Q).1) (h : RW E l ad Q w) :
    LG E l ad (qC Q (srtT (qS Q) col (decide (¬ d = 0)))) 1 w (L_act_330 E l (nI (qS Q).1) (nI col) d w.1) := by
  have h6 := hG.1.2.1
  unfold L_act_330
  refine LG.call h (K_runsIfSorted hN h.1 hG hc) fun w1 _ h1 => ?_
  refine LG.ask h1 (K_selectedCount hN h1.1 hG) ?_
  refine LG.call h1 (K_sumSelected hN h1.1 hG hc) fun w2 _ h2 => ?_
  refine LG.call h2 (K_sort hN h2.1 hG h2.2 (d := d) hc) fun w3 _ h3 => ?_
  exact ca_370 hN hG hd hc (qS Q).1 0 (gN E) w3 (by omega) (by omega) h3
end CAS
