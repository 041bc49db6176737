/-! pure: the reference's changes of a row: deleting, sorting, compacting -/
theorem i_sm (x : Int32) : x - (1 : Int32) = x + (-1 : Int32) := Int32.sub_eq_add_neg x 1
theorem dT_ge {S : gT} {r : Nat} (hr : r ≤ tR S) : r ≤ fb_ct (dp S r) (tR S) := by
  have h := fb_ct_mono (dp S r) (m := r) (n := tR S) hr
  rw [dp_lo S r (Nat.le_refl _)] at h
  exact h
theorem dT_mt {g : Nat → Int32} {S : gT} (hG : GS S) {r : Nat} (hr : r < tR S) (hs : ssel S r = true) (h : MT g (rowT (dT S (r + 1)) r)) : MT g (dT S r) ∧ tR (dT S (r + 1)) = tR (dT S r) + 1 := by
  obtain ⟨g1, t1⟩ := hG.dT (r + 1)
  obtain ⟨g0, t0⟩ := hG.dT r
  have hc := dp_ct hs (tR S) hr
  have hlo := dT_ge (S := S) (r := r + 1) hr
  have hrow := (g1.row (q := r) (by omega)).2
  refine ⟨h.congS rfl (by omega) rfl (fun c i hcc hi => ?_) (fun c hcc => ?_), by omega⟩
  · have hcc : c < S.1 := hcc
    rw [hrow, t1] at hi
    have e1 : tV (dT S r) c i = tV S c (kth (dp S r) (tR S) i) := by
      unfold dT
      rw [tV, mapC_col hcc]
      rfl
    have e2 : tV (rowT (dT S (r + 1)) r) c i = gdel (fun i => tV S c (kth (dp S (r + 1)) (tR S) i)) r i := by
      unfold rowT
      rw [tV, mapC_col (show c < (dT S (r + 1)).1 from hcc)]
      show gdel (tV (dT S (r + 1)) c) r i = _
      unfold dT
      rw [tV, mapC_col hcc]
      rfl
    rw [e1, e2]
    unfold gdel
    by_cases z : i < r
    · rw [if_pos z, dp_kl S z (by omega)]
      show tV S c i = tV S c (kth (dp S (r + 1)) (tR S) i)
      rw [dp_kl S (show i < r + 1 by omega) (by omega)]
    · rw [if_neg z, dp_kh hs hr (by omega) (by omega)]
  · have hcc : c < S.1 := hcc
    have e1 : tD (dT S r) c = tD S c := by
      unfold dT
      rw [tD, mapC_col hcc]
      rfl
    have e2 : tD (rowT (dT S (r + 1)) r) c = tD S c := by
      unfold rowT
      rw [tD, mapC_col (show c < (dT S (r + 1)).1 from hcc)]
      show tD (dT S (r + 1)) c = _
      unfold dT
      rw [tD, mapC_col hcc]
      rfl
    rw [e1, e2]
theorem dT_all {g : Nat → Int32} {S : gT} (hG : GS S) (h : MT g S) : MT g (dT S (tR S)) ∧ tR (dT S (tR S)) = tR S := by
  have t0 := (hG.dT (tR S)).2
  rw [dp_lo S _ (Nat.le_refl _)] at t0
  refine ⟨h.congS rfl t0 rfl (fun c i hcc hi => ?_) (fun c hcc => ?_), t0⟩
  · unfold dT
    rw [tV, mapC_col hcc]
    show tV S c (kth (dp S (tR S)) (tR S) i) = _
    rw [dp_kl S hi (Nat.le_refl _)]
  · unfold dT
    rw [tD, mapC_col hcc]
    rfl
theorem dT_0 (S : gT) : dT S 0 = delT S := by
  have e : dp S 0 = fun q => !ssel S q := by
    funext q
    unfold dp
    rw [decide_eq_false (Nat.not_lt_zero _), Bool.false_or]
  unfold dT delT
  rw [e]
theorem dT_sel {S : gT} (hG : GS S) {r : Nat} (hr : r < tR S) : ssel (dT S (r + 1)) r = ssel S r := by
  refine ssel_cong rfl fun i hi => ?_
  obtain ⟨k1, -, -⟩ := hG.2.2.2.2.2.2 i hi
  unfold dT
  rw [tV, mapC_col k1]
  show tV S _ (kth (dp S (r + 1)) (tR S) r) = _
  rw [dp_kl S (Nat.lt_succ_self r) hr]
section MM
variable {E : gE} {w : gWd} {m k : Nat} {fi : Nat → Int32} {G : Nat → Nat → Int32} {S : gT}
theorem MX.del (h : MX E w m k fi G S) (hN : 100000 ≤ gN E) : ∃ w' G', X13_doDelete_f E m w.1 = some (0, w'.1) ∧ FS E J30 w w' ∧ MX E w' m k (upd fi 12 (nI (tR S - tR (delT S)))) G' (delT S) ∧ MO k G G' := by
  have hQ := h.q
  obtain ⟨hM, hk, hT, hG⟩ := h
  have hR : tR S ≤ 60 := hG.2.2.2.1
  obtain ⟨w0, e0, F0, h0⟩ := hM.put 12 0 (putF m _) (by decide)
  have hQ0 := h0.q hk hT hG
  obtain ⟨hTa, hta⟩ := dT_all hG hT
  have hl := lpe (F := fun u (a : gWd × (Nat → Nat → Int32)) x => X13_doDelete_14 E u m (nI (tR S - x) + (-1 : Int32)) a.1.1) (I := fun x a => FS E J30 w a.1 ∧ MX E a.1 m k (upd fi 12 (nI (tR S - tR (dT S (tR S - x))))) a.2 (dT S (tR S - x)) ∧ MO k G a.2) (O := fun a => some ((0 : Int32), a.1.1)) (n := tR S) (fun u x a hx hI => ?_) (fun u a hI => ?_) (tR S) 0 (gN E) (w0, G) (by omega) (by omega) ⟨F0, ⟨by rw [Nat.sub_zero, hta, Nat.sub_self]; exact h0, hk, by rw [Nat.sub_zero]; exact hTa, (hG.dT _).1⟩, MO.rf⟩
  · obtain ⟨a, e1, F1, h1, o1⟩ := hl
    rw [Nat.sub_self, dT_0] at h1
    refine ⟨a.1, a.2, ?_, F1, h1, o1⟩
    unfold X13_doDelete_f X13_doDelete
    rw [ob_e e0, ob_e hQ0.r, ob_e hQ0.n1, i_sm]
    exact e1
  · obtain ⟨Fa, ha, oa⟩ := hI
    obtain ⟨p, hp⟩ : ∃ p, tR S - x = p + 1 := ⟨tR S - x - 1, by omega⟩
    have hp2 : tR S - (x + 1) = p := by omega
    have hpR : p < tR S := by omega
    rw [hp] at ha
    rw [hp2]
    have hQa := ha.q
    have hge : p < tR (dT S (p + 1)) := by
      rw [(hG.dT (p + 1)).2]
      exact dT_ge hpR
    have hsl := hQa.sel hN hge
    rw [dT_sel hG hpR] at hsl
    have t1 := (hG.dT (p + 1)).2
    have tle := fb_ct_le (dp S (p + 1)) (tR S)
    cases hb : ssel S p with
    | false =>
      refine ⟨a, ?_, Fa, ?_, oa⟩
      · show X13_doDelete_14_s E (X13_doDelete_14 E u) m (nI (tR S - x) + (-1 : Int32)) a.1.1 = X13_doDelete_14 E u m (nI p + (-1 : Int32)) a.1.1
        unfold X13_doDelete_14_s X13_doDelete_41
        rw [hp, nI_dec, if_neg (nI_pos (by omega)), ob_e hQa.cl, ob_e hsl, hb, if_neg (by decide : ¬ false = true), if_pos rfl]
      · have e : dT S p = dT S (p + 1) := by
          unfold dT
          rw [dp_no hb]
        rw [e]
        exact ha
    | true =>
      obtain ⟨w1, G1, e1, F1, h1, o1⟩ := ha.take hN hge
      obtain ⟨hT1, ht1⟩ := dT_mt hG hpR hb h1.2.2.1
      obtain ⟨w2, e2, F2, h2⟩ := h1.1.put 12 (nI (tR S - tR (dT S p))) (putF m _) (by decide)
      rw [fa_upd_twice] at h2
      refine ⟨(w2, G1), ?_, (Fa.trans F1).trans F2, ⟨h2, hk, hT1, (hG.dT p).1⟩, oa.tr o1⟩
      have r12 : gfI w1.1 m 11 12 = some (nI (tR S - tR (dT S (p + 1)))) := gfI_o (x := upd fi 12 (nI (tR S - tR (dT S (p + 1)))) 12) h1.1.1.2.2 rfl
      show X13_doDelete_14_s E (X13_doDelete_14 E u) m (nI (tR S - x) + (-1 : Int32)) a.1.1 = X13_doDelete_14 E u m (nI p + (-1 : Int32)) w2.1
      unfold X13_doDelete_14_s X13_doDelete_41
      rw [hp, nI_dec, if_neg (nI_pos (by omega)), ob_e hQa.cl, ob_e hsl, hb, if_pos rfl, if_neg i10, ob_e hQa.cl, ob_e e1, ob_e r12, nI_1, show tR S - tR (dT S (p + 1)) + 1 = tR S - tR (dT S p) by omega, ob_e e2]
  · show X13_doDelete_14_s E (X13_doDelete_14 E u) m (nI (tR S - tR S) + (-1 : Int32)) a.1.1 = _
    unfold X13_doDelete_14_s
    rw [Nat.sub_self, if_pos (by decide)]
end MM
/-- the cells of a column from v -/
def cs (g : Nat → Int32) (o : Nat) (v : Nat → Int32) : Nat → (Nat → Int32)
  | 0 => g
  | r + 1 => upd (cs g o v r) (27 + 6 * r + o) (v r)
theorem cs_o (g : Nat → Int32) {o : Nat} (v : Nat → Int32) : ∀ (n i : Nat), (∀ r, r < n → i ≠ 27 + 6 * r + o) → cs g o v n i = g i
  | 0, _, _ => rfl
  | n + 1, i, h => by
    show upd _ _ _ _ = _
    rw [upd_o _ _ (h n (by omega)), cs_o g v n i fun r hr => h r (by omega)]
theorem cs_v (g : Nat → Int32) {o : Nat} (v : Nat → Int32) : ∀ (n r : Nat), r < n → cs g o v n (27 + 6 * r + o) = v r
  | 0, _, h => by omega
  | n + 1, r, h => by
    show upd _ _ _ _ = _
    by_cases e : r = n
    · rw [e, upd_s]
    · rw [upd_o _ _ (by omega), cs_v g v n r (by omega)]
theorem mapC_le {op : Nat → gCol → gCol} {o : Nat} {S : gT} (h : o ≤ S.1) : mapC op o S = mapC (fun c y => if c < o then op c y else y) S.1 S := by
  unfold mapC
  congr 2
  funext c
  by_cases h1 : c < o
  · rw [if_pos h1, if_pos (show c < S.1 by omega)]
    show _ = if c < o then op c (S.2.1 c) else S.2.1 c
    rw [if_pos h1]
  · rw [if_neg h1]
    by_cases h2 : c < S.1
    · rw [if_pos h2]
      show _ = if c < o then op c (S.2.1 c) else S.2.1 c
      rw [if_neg h1]
    · rw [if_neg h2]
/-- the first o columns are in order -/
def sT (S : gT) (s : Nat → Nat) (o : Nat) : gT := mapC (fun _ y => opRe s y) o S
theorem GS.sT {S : gT} (hG : GS S) {s : Nat → Nat} (hs : ∀ i, i < tR S → s i < tR S) {o : Nat} (ho : o ≤ S.1) : GS (sT S s o) ∧ tR (sT S s o) = tR S := by
  have h := hG.map (op := fun c y => if c < o then opRe s y else y) (n := tR S) hG.2.2.2.1 (fun c hc => by
    show (if c < o then opRe s (S.2.1 c) else S.2.1 c).1 = _
    split
    · exact hG.2.2.1 c hc
    · exact hG.2.2.1 c hc) (fun c r hc hr => by
    show vIn ((if c < o then opRe s (S.2.1 c) else S.2.1 c).2.1 r) ∧ _
    by_cases z : c < o
    · simp only [if_pos z]
      exact hG.2.2.2.2.1 c _ hc (hs r hr)
    · simp only [if_neg z]
      exact hG.2.2.2.2.1 c r hc hr)
  rw [← mapC_le ho] at h
  exact h
theorem MT.sT {g : Nat → Int32} {S : gT} (hG : GS S) {s : Nat → Nat} (hs : ∀ i, i < tR S → s i < tR S) {o : Nat} (ho : o < S.1) (h : MT g (sT S s o)) : MT (cs g o (fun i => tV S o (s i)) (tR S)) (sT S s (o + 1)) := by
  have hC : S.1 ≤ 6 := hG.2.1
  have hR : tR S ≤ 60 := hG.2.2.2.1
  have hK : tK S ≤ 8 := hG.2.2.2.2.2.1
  have t0 := (hG.sT hs (Nat.le_of_lt ho)).2
  have t1 := (hG.sT hs (o := o + 1) ho).2
  have hcol : ∀ o' c, (_root_.Prod.fst (mapC (fun _ y => opRe s y) o' S)) = S.1 ∧ (mapC (fun _ y => opRe s y) o' S).2.1 c = if c < o' then opRe s (S.2.1 c) else S.2.1 c := fun _ _ => ⟨rfl, rfl⟩
  obtain ⟨a1, a2, a3, a4, a5, a6⟩ := h
  refine ⟨?_, ?_, ?_, fun i hi => ?_, fun c r h1 h2 => ?_, fun c h1 => ?_⟩
  · rw [cs_o _ _ _ _ (fun r hr => by omega)]
    exact a1
  · rw [cs_o _ _ _ _ (fun r hr => by omega), t1, ← t0]
    exact a2
  · rw [cs_o _ _ _ _ (fun r hr => by omega)]
    exact a3
  · have hi : i < tK S := hi
    rw [cs_o _ _ _ _ (fun r hr => by omega), cs_o _ _ _ _ (fun r hr => by omega), cs_o _ _ _ _ (fun r hr => by omega)]
    exact a4 i hi
  · have h1 : c < S.1 := h1
    rw [t1] at h2
    show _ = ((mapC (fun _ y => opRe s y) (o + 1) S).2.1 c).2.1 r
    rw [(hcol _ c).2]
    by_cases e : c = o
    · subst e
      rw [cs_v _ _ _ r h2, if_pos (by omega)]
      rfl
    · rw [cs_o _ _ _ _ (fun r' hr' => by omega), a5 c r h1 (by rw [t0]; exact h2)]
      show ((mapC (fun _ y => opRe s y) o S).2.1 c).2.1 r = _
      rw [(hcol _ c).2]
      by_cases z : c < o
      · rw [if_pos z, if_pos (by omega)]
      · rw [if_neg z, if_neg (by omega)]
  · have h1 : c < S.1 := h1
    have e : tD (_root_.Prod.mk S.1 ((mapC (fun _ y => opRe s y) (o + 1) S).2)) c = tD S c := by
      show ((mapC (fun _ y => opRe s y) (o + 1) S).2.1 c).2.2 = _
      rw [(hcol _ c).2]
      split <;> rfl
    have e0 : ((mapC (fun _ y => opRe s y) o S).2.1 c).2.2 = tD S c := by
      rw [(hcol _ c).2]
      split <;> rfl
    have h6 := a6 c h1
    show sOK ((mapC (fun _ y => opRe s y) (o + 1) S).2.1 c).2.2 ∧ ∀ k i, k < 625 → i < 32 → bt _ i = ((mapC (fun _ y => opRe s y) (o + 1) S).2.1 c).2.2 (32 * k + i)
    have e1 : ((mapC (fun _ y => opRe s y) (o + 1) S).2.1 c).2.2 = tD S c := e
    rw [e1, ← e0]
    refine ⟨h6.1, fun k i hk hi => ?_⟩
    rw [cs_o _ _ _ _ (fun r hr => by omega)]
    exact h6.2 k i hk hi
section MM
variable {E : gE} {w : gWd} {m k : Nat} {fi : Nat → Int32} {G : Nat → Nat → Int32} {S : gT}
/-- one column is put in order -/
theorem so_col (hN : 100000 ≤ gN E) {s : Nat → Nat} (hs : ∀ i, i < tR S → s i < tR S) (hG : GS S) {c o : Nat} (ho : o < S.1) (h : MS E w m (m + k) fi G) (hk : k = 1 ∨ k = 2) (hT : MT (G k) (sT S s o)) (hO : ∀ i, i < tR S → G 6 i = nI (s i)) {r8 : Nat → Int32 → Int32 → gS → Option (Int32 × gS)} : ∃ w' G', X13_doSort_21 E r8 (gN E) m (nI c) (nI o) 0 w.1 = r8 m (nI c) (nI (o + 1)) w'.1 ∧ FS E J30 w w' ∧ MS E w' m (m + k) fi G' ∧ MT (G' k) (sT S s (o + 1)) ∧ (∀ i, i < tR S → G' 6 i = nI (s i)) ∧ MO k G G' := by
  have hC : S.1 ≤ 6 := hG.2.1
  have hR : tR S ≤ 60 := hG.2.2.2.1
  have hk6 : k ≠ 6 := by omega
  have hk8 : k ≠ 8 := by omega
  obtain ⟨g0, t0⟩ := hG.sT hs (o := o) (by omega)
  have hvo : tV (sT S s o) o = tV S o := by
    show ((mapC (fun _ y => opRe s y) o S).2.1 o).2.1 = _
    rw [mapC_at]
  obtain ⟨⟨w1, G1⟩, e1, F1, h1, c1, o1⟩ := lpe (F := fun u (a : gWd × (Nat → Nat → Int32)) r => X13_doSort_21 E r8 u m (nI c) (nI o) (nI r) a.1.1) (I := fun r a => FS E J30 w a.1 ∧ MS E a.1 m (m + k) fi a.2 ∧ (∀ j, j ≠ 8 → a.2 j = G j) ∧ ∀ i, i < r → a.2 8 i = tV S o (s i)) (O := fun a => X13_doSort_60 E r8 (gN E) m (nI c) (nI o) 0 a.1.1) (n := tR S) (fun u r a hr hI => by
      obtain ⟨Fa, ha, ca, oa⟩ := hI
      have hQ := ha.q hk (by rw [ca k hk8]; exact hT) g0
      have r5 : graI E 0 a.1.1 (m + 6) (nI r) = some (nI (s r)) := by
        rw [ha.ld 6 (by omega) (by omega) (Nat.lt_of_lt_of_le (show r < 60 by omega) (by decide)), ca 6 (by decide), hO r hr]
      have hat := hQ.at (c := o) (r := s r) ho (by rw [t0]; exact hs r hr)
      rw [hvo] at hat
      obtain ⟨w1, e1, F1, h1⟩ := ha.st 8 (i := r) (by omega) (by omega) (Nat.lt_of_lt_of_le (show r < 60 by omega) (by decide)) (tV S o (s r))
      refine ⟨(w1, _), ?_, Fa.trans F1, h1, fun j hj => (updG_o _ _ hj).trans (ca j hj), fun i hi => ?_⟩
      · have n1 := hQ.n1
        rw [t0] at n1
        show X13_doSort_21_s E r8 (X13_doSort_21 E r8 u) m (nI c) (nI o) (nI r) a.1.1 = _
        unfold X13_doSort_21_s
        rw [ob_e hQ.r, ob_e n1, if_neg (nI_ge hr (by omega)), ob_e ha.f7, ob_e ha.f5, ob_e r5, ob_e hQ.cl, ob_e hat, ob_e e1, nI_1]
      · show updG a.2 8 (upd (a.2 8) r (tV S o (s r))) 8 i = _
        rw [updG_s]
        by_cases e : i = r
        · rw [e, upd_s]
        · rw [upd_o _ _ e]
          exact oa i (by omega)) (fun u a hI => by
      obtain ⟨Fa, ha, ca, oa⟩ := hI
      have hQ := ha.q hk (by rw [ca k hk8]; exact hT) g0
      have n1 := hQ.n1
      rw [t0] at n1
      show X13_doSort_21_s E r8 (X13_doSort_21 E r8 u) m (nI c) (nI o) (nI (tR S)) a.1.1 = _
      unfold X13_doSort_21_s
      rw [ob_e hQ.r, ob_e n1, if_pos (nI_le (Nat.le_refl _) (by omega))]) (tR S) 0 (gN E) (w, G) (by omega) (by omega) ⟨FS.rf, h, fun _ _ => rfl, fun i hi => absurd hi (Nat.not_lt_zero _)⟩
  have n1' : ∀ (r : Nat) (a : gWd), r ≤ tR S → MS E a m (m + k) fi (updG G1 k (cs (G k) o (fun i => tV S o (s i)) r)) → graI E 0 a.1 (m + k) (1 : Int32) = some (nI (tR S)) := fun r a hr ha => by
    have e := ha.rd hk (i := 1) (by omega)
    rw [updG_s, cs_o _ _ _ _ (fun r hr => by omega), hT.2.1, t0] at e
    exact e
  obtain ⟨w2, e2, F2, h2⟩ := lpe (F := fun u (a : gWd) r => X13_doSort_60 E r8 u m (nI c) (nI o) (nI r) a.1) (I := fun r a => FS E J30 w1 a ∧ MS E a m (m + k) fi (updG G1 k (cs (G k) o (fun i => tV S o (s i)) r))) (O := fun a => r8 m (nI c) (nI (o + 1)) a.1) (n := tR S) (fun u r a hr hI => by
      obtain ⟨Fa, ha⟩ := hI
      have r8' : graI E 0 a.1 (m + 8) (nI r) = some (tV S o (s r)) := by
        rw [ha.ld 8 (by omega) (by omega) (Nat.lt_of_lt_of_le (show r < 60 by omega) (by decide)), updG_o _ _ (Ne.symm hk8)]
        exact congrArg some (o1 r hr)
      obtain ⟨w1, e1, F1, h1⟩ := ha.wr hk (i := 27 + 6 * r + o) (by omega) (tV S o (s r))
      rw [updG_s, updG_t] at h1
      refine ⟨w1, ?_, Fa.trans F1, h1⟩
      show X13_doSort_60_s E r8 (X13_doSort_60 E r8 u) m (nI c) (nI o) (nI r) a.1 = _
      unfold X13_doSort_60_s
      rw [ob_e ha.row, ob_e (n1' r a (by omega) ha), if_neg (nI_ge hr (by omega)), ob_e ha.row, ob_e (pl_f o r), ob_e ha.f7, ob_e r8', ob_e e1, nI_1]) (fun u a hI => by
      obtain ⟨Fa, ha⟩ := hI
      show X13_doSort_60_s E r8 (X13_doSort_60 E r8 u) m (nI c) (nI o) (nI (tR S)) a.1 = _
      unfold X13_doSort_60_s
      rw [ob_e ha.row, ob_e (n1' _ a (Nat.le_refl _) ha), if_pos (nI_le (Nat.le_refl _) (by omega)), nI_1]) (tR S) 0 (gN E) w1 (by omega) (by omega) ⟨FS.rf, by
      show MS E w1 m (m + k) fi (updG G1 k (G k))
      have e : updG G1 k (G k) = G1 := by
        funext j
        by_cases hj : j = k
        · rw [hj, updG_s]
          exact (c1 k hk8).symm
        · rw [updG_o _ _ hj]
      rw [e]
      exact h1⟩
  refine ⟨w2, _, e1.trans e2, F1.trans F2, h2, ?_, fun i hi => ?_, fun j a1 a2 a3 => (updG_o _ _ a1).trans (c1 j a3)⟩
  · rw [updG_s]
    exact MT.sT hG hs ho hT
  · rw [updG_o _ _ (Ne.symm hk6)]
    exact (congrFun (c1 6 (by decide)) i).trans (hO i hi)
theorem MX.sort (h : MX E w m k fi G S) (hN : 100000 ≤ gN E) {c : Nat} (hc : c < S.1) (b : Bool) : ∃ w' G', X13_doSort_f E m (nI c) (if b = true then (1 : Int32) else -1) w.1 = some (0, w'.1) ∧ FS E J30 w w' ∧ MX E w' m k (upd fi 12 (nI (gruns (tV (srtT S c b) c) (fun k => k) (tR S)))) G' (srtT S c b) ∧ MO k G G' := by
  obtain ⟨hM, hk, hT, hG⟩ := h
  have hC : S.1 ≤ 6 := hG.2.1
  have hR : tR S ≤ 60 := hG.2.2.2.1
  have hs : ∀ i, i < tR S → gord S c b i < tR S := fun i hi => gord_lt S c b hi
  obtain ⟨w1, G1, e1, F1, h1, g1, o1⟩ := hM.putO hN hk hT hG hc b
  have hT1 : MT (G1 k) (sT S (gord S c b) 0) := by
    unfold sT
    rw [g1 k (by omega), mapC_0]
    exact hT
  have hl := lpe (F := fun u (a : gWd × (Nat → Nat → Int32)) o => X13_doSort_8 E u m (nI c) (nI o) a.1.1) (I := fun o a => FS E J30 w a.1 ∧ MS E a.1 m (m + k) fi a.2 ∧ MT (a.2 k) (sT S (gord S c b) o) ∧ (∀ i, i < tR S → a.2 6 i = nI (gord S c b i)) ∧ MO k G a.2) (O := fun a => ob (gcl a.1.1 m 11) fun _ => ob (X13_countRuns_f E a.1.1 m (nI c)) fun x36 => ob (gpf E a.1.1 m 11 12 (.int x36)) fun σ39 => some ((0 : Int32), σ39)) (n := S.1) (fun u o a ho hI => ?_) (fun u a hI => ?_) S.1 0 (gN E) (w1, G1) (by omega) (by omega) ⟨F1, h1, hT1, o1, fun j a1 a2 a3 => g1 j a2⟩
  · obtain ⟨⟨w2, G2⟩, e2, F2, h2, hT2, o2, m2⟩ := hl
    obtain ⟨g2, t2⟩ := hG.sT hs (Nat.le_refl S.1)
    have hQ := h2.q hk hT2 g2
    have hru := hQ.runs hN (c := c) hc
    rw [t2] at hru
    obtain ⟨w3, e3, F3, h3⟩ := h2.put 12 (nI (gruns (tV (srtT S c b) c) (fun k => k) (tR S))) (putF m _) (by decide)
    refine ⟨w3, G2, ?_, F2.trans F3, ⟨h3, hk, hT2, g2⟩, m2⟩
    unfold X13_doSort_f X13_doSort
    rw [ob_e hM.cl, ob_e e1]
    refine e2.trans ?_
    rw [ob_e hQ.cl, ob_e hru]
    exact (ob_e e3).trans rfl
  · obtain ⟨Fa, ha, hTa, oa, ma⟩ := hI
    have n0 : graI E 0 a.1.1 (m + k) (0 : Int32) = some (nI S.1) := by
      have e := ha.rd hk (i := 0) (by omega)
      rw [hTa.1] at e
      exact e
    obtain ⟨w2, G2, e2, F2, h2, hT2, o2, m2⟩ := so_col (c := c) (r8 := X13_doSort_8 E u) hN hs hG ho ha hk hTa oa
    refine ⟨(w2, G2), ?_, Fa.trans F2, h2, hT2, o2, ma.tr m2⟩
    show X13_doSort_8_s E (X13_doSort_8 E u) m (nI c) (nI o) a.1.1 = _
    unfold X13_doSort_8_s
    rw [ob_e ha.row, ob_e n0, if_neg (nI_ge ho (by omega))]
    exact e2
  · obtain ⟨Fa, ha, hTa, oa, ma⟩ := hI
    have n0 : graI E 0 a.1.1 (m + k) (0 : Int32) = some (nI S.1) := by
      have e := ha.rd hk (i := 0) (by omega)
      rw [hTa.1] at e
      exact e
    show X13_doSort_8_s E (X13_doSort_8 E u) m (nI c) (nI S.1) a.1.1 = _
    unfold X13_doSort_8_s
    rw [ob_e ha.row, ob_e n0, if_pos (nI_le (Nat.le_refl _) (by omega))]
end MM
