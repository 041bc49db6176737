/-! pure: the reference's changes of a row: compacting; what is kept and recorded -/
def zs (g : Nat → Int32) (a : Nat) : Nat → (Nat → Int32)
  | 0 => g
  | n + 1 => upd (zs g a n) (a + n) 0
theorem zs_o (g : Nat → Int32) {a : Nat} : ∀ (n i : Nat), (i < a ∨ a + n ≤ i) → zs g a n i = g i
  | 0, _, _ => rfl
  | n + 1, i, h => by
    show upd _ _ _ _ = _
    rw [upd_o _ _ (by omega), zs_o g n i (by omega)]
theorem zs_i (g : Nat → Int32) {a : Nat} : ∀ (n i : Nat), i < n → zs g a n (a + i) = 0
  | 0, _, h => by omega
  | n + 1, i, h => by
    show upd _ _ _ _ = _
    by_cases e : i = n
    · rw [e, upd_s]
    · rw [upd_o _ _ (by omega), zs_i g n i (by omega)]
def lc (g : Nat → Int32) (c : Nat) (v : Nat → Int32) : Nat → (Nat → Int32)
  | 0 => g
  | n + 1 => lrn (lc g c v n) c (px (v n))
theorem lc_lo (g : Nat → Int32) (c : Nat) (v : Nat → Int32) : ∀ (n i : Nat), i < 387 → lc g c v n i = g i
  | 0, _, _ => rfl
  | n + 1, i, h => by
    show lrn _ _ _ _ = _
    rw [lrn_lo _ _ _ h, lc_lo g c v n i h]
theorem lc_b (g : Nat → Int32) {c : Nat} {v : Nat → Int32} : ∀ (n : Nat), (∀ j, j < n → px (v j) < 20000) → ∀ (c' k i : Nat), k < 625 → i < 32 → bt (lc g c v n (387 + 625 * c' + k)) i = if c' = c ∧ dcol v n (32 * k + i) = true then true else bt (g (387 + 625 * c' + k)) i
  | 0, _, c', k, i, _, _ => by
    rw [if_neg (fun z => by have := z.2; exact absurd this (by unfold dcol; decide))]
    rfl
  | n + 1, hz, c', k, i, h2, h3 => by
    have ih := lc_b g (c := c) (v := v) n (fun j hj => hz j (by omega)) c' k i h2 h3
    show bt (lrn _ c _ _) _ = _
    rw [lrn_bt _ (hz n (by omega)) h2 h3, ih]
    show _ = if c' = c ∧ dins (dcol v n) (px (v n)) (32 * k + i) = true then true else _
    unfold dins
    by_cases e : c' = c
    · by_cases e2 : 32 * k + i = px (v n)
      · rw [if_pos ⟨e, e2⟩, if_pos e2, if_pos ⟨e, rfl⟩]
      · rw [if_neg (fun z => e2 z.2), if_neg e2]
    · rw [if_neg (fun z => e z.1), if_neg (fun z => e z.1), if_neg (fun z => e z.1)]
theorem dcol_ok {v : Nat → Int32} : ∀ n, (∀ r, r < n → vIn (v r)) → sOK (dcol v n)
  | 0, _ => fun _ _ => rfl
  | n + 1, h => dins_ok (dcol_ok n fun r hr => h r (by omega)) (px_lt (h n (by omega)))
theorem MT.cmp {g : Nat → Int32} {S : gT} (h : MT g S) (hG : GS S) {c : Nat} (hc : c < S.1) : MT (lc (zs g (387 + 625 * c) 625) c (tV S c) (tR S)) (cmpT S c) := by
  have hC : S.1 ≤ 6 := hG.2.1
  have hR : tR S ≤ 60 := hG.2.2.2.1
  have hK : tK S ≤ 8 := hG.2.2.2.2.2.1
  have hv : ∀ r, r < tR S → vIn (tV S c r) := fun r hr => (hG.2.2.2.2.1 c r hc hr).1
  have hlo : ∀ i, i < 387 → lc (zs g (387 + 625 * c) 625) c (tV S c) (tR S) i = g i := fun i hi => by rw [lc_lo _ _ _ _ _ hi, zs_o _ _ _ (by omega)]
  have hrr := (hG.cmp hc).2
  have hcol : ∀ c', (cmpT S c).2.1 c' = if c' = c then opCm (S.2.1 c) else S.2.1 c' := fun _ => rfl
  obtain ⟨a1, a2, a3, a4, a5, a6⟩ := h
  refine ⟨by rw [hlo _ (by omega)]; exact a1, by rw [hlo _ (by omega), hrr]; exact a2, by rw [hlo _ (by omega)]; exact a3, fun i hi => ?_, fun c' r h1 h2 => ?_, fun c' h1 => ?_⟩
  · have hi : i < tK S := hi
    rw [hlo _ (by omega), hlo _ (by omega), hlo _ (by omega)]
    exact a4 i hi
  · have h1 : c' < S.1 := h1
    rw [hrr] at h2
    rw [hlo _ (by omega), a5 c' r h1 h2]
    show _ = ((cmpT S c).2.1 c').2.1 r
    rw [hcol]
    by_cases e : c' = c
    · rw [if_pos e, e]
      rfl
    · rw [if_neg e]
  · have h1 : c' < S.1 := h1
    rw [tD, hcol]
    by_cases e : c' = c
    · subst e
      rw [if_pos rfl]
      show sOK (dcol (tV S c') (S.2.1 c').1) ∧ ∀ k i, k < 625 → i < 32 → bt _ i = dcol (tV S c') (S.2.1 c').1 (32 * k + i)
      rw [hG.2.2.1 c' h1]
      refine ⟨dcol_ok _ hv, fun k i hk hi => ?_⟩
      rw [lc_b _ _ (fun j hj => Nat.lt_trans (px_lt (hv j hj)) (by decide)) c' k i hk hi, zs_i _ _ _ hk, b_0]
      cases hb : dcol (tV S c') (tR S) (32 * k + i) with
      | true => rw [if_pos ⟨rfl, rfl⟩]
      | false => rw [if_neg (fun z => absurd z.2 (by decide))]
    · rw [if_neg e]
      refine ⟨(a6 c' h1).1, fun k i hk hi => ?_⟩
      rw [lc_b _ _ (fun j hj => Nat.lt_trans (px_lt (hv j hj)) (by decide)) c' k i hk hi, if_neg (fun z => e z.1), zs_o _ _ _ (by omega)]
      exact (a6 c' h1).2 k i hk hi
section MM
variable {E : gE} {w : gWd} {m k ro : Nat} {fi : Nat → Int32} {G : Nat → Nat → Int32} {S : gT}
theorem updG_i (G : Nat → Nat → Int32) (k : Nat) : updG G k (G k) = G := by
  funext j
  by_cases hj : j = k
  · rw [hj, updG_s]
  · rw [updG_o _ _ hj]
theorem MX.cmp (h : MX E w m k fi G S) (hN : 100000 ≤ gN E) {c : Nat} (hc : c < S.1) : ∃ w' G', X13_doCompact_f E m (nI c) w.1 = some (0, w'.1) ∧ FS E J30 w w' ∧ MX E w' m k (upd fi 12 (nI (dsz (tD S c)) - nI (dsz (dcol (tV S c) (tR S))))) G' (cmpT S c) ∧ MO k G G' := by
  have hQ := h.q
  obtain ⟨hM, hk, hT, hG⟩ := h
  have hC : S.1 ≤ 6 := hG.2.1
  have hR : tR S ≤ 60 := hG.2.2.2.1
  have hv : ∀ r, r < tR S → vIn (tV S c r) := fun r hr => (hG.2.2.2.2.1 c r hc hr).1
  obtain ⟨w0, e0, F0, h0⟩ := hM.put 12 (nI (dsz (tD S c)) - nI (dsz (dcol (tV S c) (tR S)))) (putF m _) (by decide)
  generalize hfi : upd fi 12 (nI (dsz (tD S c)) - nI (dsz (dcol (tV S c) (tR S)))) = fi' at h0
  obtain ⟨w1, e1, F1, h1⟩ := lpe (F := fun u (a : gWd) r => X13_doCompact_17 E u m (nI c) (nI r) a.1) (I := fun r a => FS E J30 w a ∧ MS E a m (m + k) fi' (updG G k (zs (G k) (387 + 625 * c) r))) (O := fun a => X13_doCompact_49 E (gN E) m (nI c) 0 a.1) (n := 625) (fun u r a hr hI => by
      obtain ⟨Fa, ha⟩ := hI
      obtain ⟨w1, e1, F1, h1⟩ := ha.wr hk (i := 387 + 625 * c + r) (by omega) 0
      rw [updG_s, updG_t] at h1
      refine ⟨w1, ?_, Fa.trans F1, h1⟩
      show X13_doCompact_17_s E (X13_doCompact_17 E u) m (nI c) (nI r) a.1 = _
      unfold X13_doCompact_17_s
      rw [if_neg (show ¬ (625 : Int32) ≤ nI r from nI_ge (b := 625) hr (by omega)), ob_e ha.row, di_i, ob_e e1, nI_1]) (fun u a hI => by
      show X13_doCompact_17_s E (X13_doCompact_17 E u) m (nI c) (nI 625) a.1 = _
      unfold X13_doCompact_17_s
      rw [if_pos (show (625 : Int32) ≤ nI 625 from nI_le (a := 625) (Nat.le_refl _) (by omega))]) 625 0 (gN E) w0 (by omega) (by omega) ⟨F0, by show MS E w0 m (m + k) fi' (updG G k (G k)); rw [updG_i]; exact h0⟩
  have hlo : ∀ r i, i < 387 → lc (zs (G k) (387 + 625 * c) 625) c (tV S c) r i = G k i := fun r i hi => by rw [lc_lo _ _ _ _ _ hi, zs_o _ _ _ (by omega)]
  have n1 : ∀ (r : Nat) (a : gWd), MS E a m (m + k) fi' (updG G k (lc (zs (G k) (387 + 625 * c) 625) c (tV S c) r)) → graI E 0 a.1 (m + k) (1 : Int32) = some (nI (tR S)) := fun r a ha => by
    have e := ha.rd hk (i := 1) (by omega)
    rw [updG_s, hlo r 1 (by omega), hT.2.1] at e
    exact e
  obtain ⟨w2, e2, F2, h2⟩ := lpe (F := fun u (a : gWd) r => X13_doCompact_49 E u m (nI c) (nI r) a.1) (I := fun r a => FS E J30 w1 a ∧ MS E a m (m + k) fi' (updG G k (lc (zs (G k) (387 + 625 * c) 625) c (tV S c) r))) (O := fun a => some ((0 : Int32), a.1)) (n := tR S) (fun u r a hr hI => by
      obtain ⟨Fa, ha⟩ := hI
      have hat : X13_at_f E a.1 m (nI c) (nI r) = some (tV S c r) := by
        have e := ha.rd hk (i := 27 + 6 * r + c) (by omega)
        rw [updG_s, hlo r _ (by omega), hT.2.2.2.2.1 c r hc hr] at e
        unfold X13_at_f X13_at
        rw [ob_e ha.row, ob_e (pl_f c r), ob_e e]
      obtain ⟨w1, e1, F1, h1⟩ := ha.learn hk (c := c) (by omega) (hv r hr)
      rw [updG_s, updG_t] at h1
      refine ⟨w1, ?_, Fa.trans F1, h1⟩
      show X13_doCompact_49_s E (X13_doCompact_49 E u) m (nI c) (nI r) a.1 = _
      unfold X13_doCompact_49_s
      rw [ob_e ha.row, ob_e (n1 r a ha), if_neg (nI_ge hr (by omega)), ob_e ha.cl, ob_e hat, ob_e ha.cl, ob_e e1, nI_1]) (fun u a hI => by
      obtain ⟨Fa, ha⟩ := hI
      show X13_doCompact_49_s E (X13_doCompact_49 E u) m (nI c) (nI (tR S)) a.1 = _
      unfold X13_doCompact_49_s
      rw [ob_e ha.row, ob_e (n1 _ a ha), if_pos (nI_le (Nat.le_refl _) (by omega))]) (tR S) 0 (gN E) w1 (by omega) (by omega) ⟨FS.rf, h1⟩
  subst hfi
  refine ⟨w2, _, ?_, F1.trans F2, ⟨h2, hk, ?_, (hG.cmp hc).1⟩, MO.u _ _ _⟩
  · unfold X13_doCompact_f X13_doCompact
    rw [ob_e hQ.cl, ob_e (hQ.size hN hc), ob_e hQ.cl, ob_e (hQ.used hN hc), ob_e e0]
    exact e1.trans e2
  · rw [updG_s]
    exact hT.cmp hG hc
theorem MS.cpy (h : MS E w m ro fi G) {a b i j : Nat} (ha : 1 ≤ a) (ha2 : a ≤ 11) (hb : 1 ≤ b) (hb2 : b ≤ 11) (hs : 4137 * i + 4137 ≤ mz a) (hd : 4137 * j + 4137 ≤ mz b) : ∃ w', X13_copy_f E (m + a) (nI i) (m + b) (nI j) w.1 = some w'.1 ∧ FS E J30 w w' ∧ MS E w' m ro fi (updG G b (va_cpy (G a) (G b) (4137 * i) (4137 * j) 4137)) := by
  obtain ⟨w1, e1, F1, h1⟩ := h.cp a b ha ha2 hb hb2 hs hd
  refine ⟨w1, ?_, F1, h1⟩
  unfold X13_copy_f X13_copy
  rw [show (4137 : Int32) = nI 4137 from rfl, nI_mul, nI_mul, ob_e e1]
theorem cpy_in (f g : Nat → Int32) {sp dp n j : Nat} (h : j < n) : va_cpy f g sp dp n (dp + j) = f (sp + j) := by
  unfold va_cpy
  rw [if_pos (by omega), Nat.add_sub_cancel_left]
theorem cpy_out (f g : Nat → Int32) {sp dp n j : Nat} (h : j < dp ∨ dp + n ≤ j) : va_cpy f g sp dp n j = g j := if_neg (by omega)
theorem MS.keep (h : MS E w m ro fi G) : ∃ w', X13_keep_f E m w.1 = some w'.1 ∧ FS E J30 w w' ∧ MS E w' m ro fi (updG G 3 (va_cpy (G 1) (G 3) 0 0 4137)) := by
  obtain ⟨w1, e1, F1, h1⟩ := h.cpy (a := 1) (b := 3) (i := 0) (j := 0) (by omega) (by omega) (by omega) (by omega) (by decide) (by decide)
  have e1 : X13_copy_f E (m + 1) (0 : Int32) (m + 3) (0 : Int32) w.1 = some w1.1 := e1
  refine ⟨w1, ?_, F1, h1⟩
  unfold X13_keep_f X13_keep
  rw [ob_e h.f0, ob_e h.f2, ob_e e1]
theorem mz5 : mz 5 = 33096 := rfl
theorem MS.rec48 (h : MS E w m ro fi G) {z : Nat} (hz : fi 9 = nI z) (hz8 : z < 8) : ∃ w', X13_record_48 E m w.1 = some w'.1 ∧ FS E J30 w w' ∧ MS E w' m ro (upd fi 9 (nI (z + 1))) (updG G 5 (va_cpy (G 3) (G 5) 0 (4137 * z) 4137)) := by
  obtain ⟨w1, e1, F1, h1⟩ := h.cpy (a := 3) (b := 5) (i := 0) (j := z) (by omega) (by omega) (by omega) (by omega) (by decide) (by rw [mz5]; omega)
  have e1 : X13_copy_f E (m + 3) (0 : Int32) (m + 5) (nI z) w.1 = some w1.1 := e1
  obtain ⟨w2, e2, F2, h2⟩ := h1.put 9 (nI (z + 1)) rfl (by decide)
  refine ⟨w2, ?_, F1.trans F2, h2⟩
  unfold X13_record_48
  rw [ob_e h.f2, ob_e h.f4, ob_e (gfI_o (x := fi 9) h.1.2.2 rfl), hz, ob_e e1, ob_e (gfI_o (x := fi 9) h1.1.2.2 rfl), hz, nI_1, ob_e e2]
/-- the history has moved down by one, its first n - 1 slots -/
theorem MS.record (h : MS E w m ro fi G) (hN : 100000 ≤ gN E) {z : Nat} (hz : fi 9 = nI z) (hz8 : z ≤ 8) : ∃ w' G', X13_record_f E m w.1 = some w'.1 ∧ FS E J30 w w' ∧ MS E w' m ro (upd fi 9 (nI (min (z + 1) 8))) G' ∧ (∀ j, j ≠ 5 → G' j = G j) ∧ (z < 8 → (∀ i j, i < z → j < 4137 → G' 5 (4137 * i + j) = G 5 (4137 * i + j)) ∧ ∀ j, j < 4137 → G' 5 (4137 * z + j) = G 3 j) ∧ (z = 8 → (∀ i j, i < 7 → j < 4137 → G' 5 (4137 * i + j) = G 5 (4137 * (i + 1) + j)) ∧ ∀ j, j < 4137 → G' 5 (4137 * 7 + j) = G 3 j) := by
  unfold X13_record_f X13_record
  rw [ob_e (gfI_o (x := fi 9) h.1.2.2 rfl), hz]
  by_cases h8 : z = 8
  · subst h8
    obtain ⟨⟨w1, G1⟩, e1, F1, h1, c1, s1⟩ := lpe (F := fun u (a : gWd × (Nat → Nat → Int32)) r => X13_record_11 E u m (nI (r + 1)) a.1.1) (I := fun r a => FS E J30 w a.1 ∧ MS E a.1 m ro fi a.2 ∧ (∀ j, j ≠ 5 → a.2 j = G j) ∧ ∀ i j, j < 4137 → i < 8 → a.2 5 (4137 * i + j) = if i < r then G 5 (4137 * (i + 1) + j) else G 5 (4137 * i + j)) (O := fun a => ob (gfI a.1.1 m 11 9) fun x13 => ob (gpf E a.1.1 m 11 9 (.int (x13 - (1 : Int32)))) fun σ15 => X13_record_48 E m σ15) (n := 7) (fun u r a hr hI => by
        obtain ⟨Fa, ha, ca, sa⟩ := hI
        obtain ⟨w1, e1, F1, h1⟩ := ha.cpy (a := 5) (b := 5) (i := r + 1) (j := r) (by omega) (by omega) (by omega) (by omega) (by rw [mz5]; omega) (by rw [mz5]; omega)
        refine ⟨(w1, _), ?_, Fa.trans F1, h1, fun j hj => (updG_o _ _ hj).trans (ca j hj), fun i j hj hi => ?_⟩
        · show X13_record_11_s E (X13_record_11 E u) m (nI (r + 1)) a.1.1 = _
          unfold X13_record_11_s
          rw [if_neg (show ¬ (8 : Int32) ≤ nI (r + 1) from nI_ge (b := 8) (by omega) (by omega)), ob_e ha.f4, ob_e ha.f4, nI_sub1 (by omega), Nat.add_sub_cancel, ob_e e1, nI_1]
        · show updG a.2 5 (va_cpy (a.2 5) (a.2 5) (4137 * (r + 1)) (4137 * r) 4137) 5 _ = _
          rw [updG_s]
          by_cases e : i = r
          · subst e
            rw [cpy_in _ _ hj, sa (i + 1) j hj (by omega), if_neg (by omega), if_pos (by omega)]
          · rw [cpy_out _ _ (by omega), sa i j hj hi]
            by_cases e2 : i < r
            · rw [if_pos e2, if_pos (by omega)]
            · rw [if_neg e2, if_neg (by omega)]) (fun u a hI => by
        show X13_record_11_s E (X13_record_11 E u) m (nI (7 + 1)) a.1.1 = _
        unfold X13_record_11_s
        rw [if_pos (by decide)]) 7 0 (gN E) (w, G) (by omega) (by omega) ⟨FS.rf, h, fun _ _ => rfl, fun i j hj hi => by rw [if_neg (by omega)]⟩
    obtain ⟨w2, e2, F2, h2⟩ := h1.put 9 (nI 7) rfl (by decide)
    obtain ⟨w3, e3, F3, h3⟩ := h2.rec48 (z := 7) rfl (by omega)
    rw [fa_upd_twice] at h3
    refine ⟨w3, _, ?_, (F1.trans F2).trans F3, h3, fun j hj => (updG_o _ _ hj).trans (c1 j hj), fun hz => absurd hz (by omega), fun _ => ⟨fun i j hi hj => ?_, fun j hj => ?_⟩⟩
    · rw [if_pos (by decide)]
      refine e1.trans ?_
      rw [ob_e (gfI_o (x := fi 9) h1.1.2.2 rfl), hz, show nI 8 - (1 : Int32) = nI 7 from by decide, ob_e e2]
      exact e3
    · rw [updG_s, cpy_out _ _ (by omega)]
      exact (s1 i j hj (by omega)).trans (if_pos hi)
    · rw [updG_s, cpy_in _ _ hj, Nat.zero_add]
      exact congrFun (c1 3 (by decide)) j
  · obtain ⟨w1, e1, F1, h1⟩ := h.rec48 hz (by omega)
    rw [show z + 1 = min (z + 1) 8 by omega] at h1
    refine ⟨w1, _, ?_, F1, h1, fun j hj => updG_o _ _ hj, fun _ => ⟨fun i j hi hj => ?_, fun j hj => ?_⟩, fun hz => absurd hz h8⟩
    · rw [if_neg (show ¬ nI z = (8 : Int32) from fun y => h8 ((nI_eqI (b := 8) (by omega) (by omega)).mp y))]
      exact e1
    · rw [updG_s, cpy_out _ _ (by omega)]
    · rw [updG_s, cpy_in _ _ hj, Nat.zero_add]
theorem MS.lacks (h : MS E w m ro fi G) (b : Int32) : ∃ w', X13_lacks_f E m b w.1 = some (if b = 0 then 1 else 0, w'.1) ∧ FS E J30 w w' ∧ MS E w' m ro (upd fi 10 (if b = 0 then 1 else 0)) G := by
  unfold X13_lacks_f X13_lacks X13_lacks_10
  by_cases hb : b = 0
  · obtain ⟨w1, e1, F1, h1⟩ := h.put 10 1 rfl (by decide)
    rw [if_pos hb, if_pos hb, ob_e e1, if_pos hb]
    exact ⟨w1, rfl, F1, h1⟩
  · obtain ⟨w1, e1, F1, h1⟩ := h.put 10 0 rfl (by decide)
    rw [if_neg hb, if_neg hb, ob_e e1, if_neg hb]
    exact ⟨w1, rfl, F1, h1⟩
/-- 1 if the first is lacking, else 2 if the second is -/
def th2 (a b : Int32) : Int32 := if a = 0 then 1 else if b = 0 then 2 else 0
theorem MS.lacks2 (h : MS E w m ro fi G) (a b : Int32) : ∃ w', X13_lacksBoth_f E m a b w.1 = some (if th2 a b = 0 then 0 else 1, w'.1) ∧ FS E J30 w w' ∧ MS E w' m ro (upd fi 10 (th2 a b)) G := by
  obtain ⟨w1, e1, F1, h1⟩ := h.lacks a
  unfold X13_lacksBoth_f X13_lacksBoth X13_lacksBoth_20 th2
  rw [ob_e h.cl, ob_e e1]
  by_cases ha : a = 0
  · rw [if_pos ha] at h1 ⊢
    rw [if_neg i10, if_pos ha, if_neg i10]
    exact ⟨w1, rfl, F1, h1⟩
  · rw [if_neg ha] at h1 ⊢
    rw [if_pos rfl, if_neg ha]
    by_cases hb : b = 0
    · obtain ⟨w2, e2, F2, h2⟩ := h1.put 10 2 rfl (by decide)
      rw [fa_upd_twice] at h2
      rw [if_pos hb, if_pos hb, ob_e e2, ob_e (gfI_o (x := 2) h2.1.2.2 rfl), if_neg (by decide), if_neg (by decide)]
      exact ⟨w2, rfl, F1.trans F2, h2⟩
    · obtain ⟨w2, e2, F2, h2⟩ := h1.put 10 0 rfl (by decide)
      rw [fa_upd_twice] at h2
      rw [if_neg hb, if_neg hb, ob_e e2, ob_e (gfI_o (x := 0) h2.1.2.2 rfl), if_pos rfl, if_pos rfl]
      exact ⟨w2, rfl, F1.trans F2, h2⟩
end MM
