/-! pure: the reference begins a table; a row too many -/
theorem rep0_mt {g : Nat → Int32} {C : Nat} (hC : 1 ≤ C) (hC6 : C ≤ 6) (x : Nat → Int32) (S : gT) (h0 : g 0 = nI C) (hz : ∀ i, 0 < i → i < 4137 → g i = 0) : MT g (repT C 0 x S) ∧ GS (repT C 0 x S) ∧ tR (repT C 0 x S) = 0 := by
  obtain ⟨hG, hr⟩ := GS.rep (R := 0) (x := x) (S := S) hC hC6 (Nat.zero_le _) (fun j hj => by rw [Nat.zero_mul] at hj; omega)
  have hcol : ∀ c, c < C → (repT C 0 x S).2.1 c = repC C 0 c x := fun c hc => if_pos hc
  refine ⟨⟨h0, by rw [hr, hz 1 (by omega) (by omega)]; rfl, hz 2 (by omega) (by omega), fun i hi => ?_, fun c r _ h2 => ?_, fun c h1 => ?_⟩, hG, hr⟩
  · have hi : i < 0 := hi
    omega
  · rw [hr] at h2
    omega
  · have h1 : c < C := h1
    have e : tD (repT C 0 x S) c = fun _ => false := by
      rw [tD, hcol c h1]
      rfl
    rw [e]
    refine ⟨fun _ _ => rfl, fun k i hk hi => ?_⟩
    rw [hz _ (by omega) (by omega), b_0]
section MM
variable {E : gE} {w : gWd} {m ro L k : Nat} {fi fi0 : Nat → Int32} {G : Nat → Nat → Int32} {u : Nat → Nat} {t : gMd} {S : gT}
theorem MS.begin_ (h : MS E w m (m + k) fi G) (hN : 100000 ≤ gN E) (hk : k = 1 ∨ k = 2) {C : Nat} (hC : 1 ≤ C) (hC6 : C ≤ 6) (x : Nat → Int32) (S : gT) : ∃ w' G', X13_begin_f E m (nI C) w.1 = some w'.1 ∧ FS E J30 w w' ∧ MX E w' m k fi G' (repT C 0 x S) ∧ ∀ j, j ≠ k → G' j = G j := by
  obtain ⟨w1, e1, F1, h1⟩ := lpe (F := fun q (a : gWd) r => X13_begin_2 E q m (nI C) (nI r) a.1) (I := fun r a => FS E J30 w a ∧ MS E a m (m + k) fi (updG G k (zs (G k) 0 r))) (O := fun a => gwaI E a.1 (m + k) (0 : Int32) (nI C)) (n := 4137) (fun q r a hr hI => by
      obtain ⟨Fa, ha⟩ := hI
      obtain ⟨w1, e1, F1, h1⟩ := ha.wr hk hr 0
      rw [updG_s, updG_t] at h1
      refine ⟨w1, ?_, Fa.trans F1, ?_⟩
      · show X13_begin_2_s E (X13_begin_2 E q) m (nI C) (nI r) a.1 = _
        unfold X13_begin_2_s
        rw [if_neg (show ¬ (4137 : Int32) ≤ nI r from nI_ge (b := 4137) hr (by omega)), ob_e ha.row, ob_e e1, nI_1]
      · have e : zs (G k) 0 (r + 1) = upd (zs (G k) 0 r) r 0 := by
          show upd (zs (G k) 0 r) (0 + r) 0 = _
          rw [Nat.zero_add]
        rw [e]
        exact h1) (fun q a hI => by
      obtain ⟨Fa, ha⟩ := hI
      obtain ⟨w1, e1, -, -⟩ := ha.wr hk (i := 0) (by omega) (nI C)
      have e1 : gwaI E a.1 (m + k) (0 : Int32) (nI C) = some w1.1 := e1
      show X13_begin_2_s E (X13_begin_2 E q) m (nI C) (nI 4137) a.1 = _
      unfold X13_begin_2_s
      rw [if_pos (show (4137 : Int32) ≤ nI 4137 from nI_le (a := 4137) (Nat.le_refl _) (by omega)), ob_e ha.row, ob_e e1, e1]) 4137 0 (gN E) w (by omega) (by omega) ⟨FS.rf, by show MS E w m (m + k) fi (updG G k (G k)); rw [updG_i]; exact h⟩
  obtain ⟨w2, e2, F2, h2⟩ := h1.wr hk (i := 0) (by omega) (nI C)
  have e2 : gwaI E w1.1 (m + k) (0 : Int32) (nI C) = some w2.1 := e2
  rw [updG_s, updG_t] at h2
  have hm := rep0_mt (g := upd (zs (G k) 0 4137) 0 (nI C)) hC hC6 x S (upd_s _ _ _) (fun i hi hi2 => by
    rw [upd_o _ _ (by omega)]
    have e := zs_i (G k) (a := 0) 4137 i hi2
    rw [Nat.zero_add] at e
    exact e)
  refine ⟨w2, _, ?_, F1.trans F2, ⟨h2, hk, by rw [updG_s]; exact hm.1, hm.2.1⟩, fun j hj => updG_o _ _ hj⟩
  unfold X13_begin_f X13_begin
  exact e1.trans e2
theorem PQ.refuse {s : Nat} (h : PQ E w m ro fi0 G u L (.inr s)) (hN : 100000 ≤ gN E) (hB : BU G u L) : ∃ w', X13_refuseRow_f E m w.1 = some w'.1 ∧ FS E J30 w w' ∧ PQ E w' m ro fi0 G u L (.inl (pExtra u L s)) := by
  have r21 : ∀ (w1 : gWd), PQ E w1 m ro fi0 G u L (.inr s) → gfI w1.1 m 11 21 = some (nI (tkn (kd u L s))) := fun w1 h => by
    obtain ⟨fi, c1, c2, c3, c4⟩ := h
    rw [← c4.1.2.2.2.1]
    exact gfI_o (x := fi 21) c1.1.2.2 rfl
  have htl := tkn_le (kd u L s)
  have hsy := h.sym hB (c := 45) (K := 5) (by decide) bk_5 (Or.inr rfl)
  have hsy : X13_isSymbol_f E w.1 m (45 : Int32) = some (if kd u L s = 5 then 1 else 0) := hsy
  have hint : X13_isIntegerHere_f E w.1 m = some (if kd u L s = 3 ∨ kd u L s = 5 then 1 else 0) := by
    unfold X13_isIntegerHere_f X13_isIntegerHere X13_isIntegerHere_24 X13_isIntegerHere_28
    rw [ob_e h.err0, if_pos rfl, ob_e (r21 w h)]
    by_cases k3 : kd u L s = 3
    · rw [if_pos (show nI (tkn (kd u L s)) = (2 : Int32) from by rw [k3]; rfl), if_pos (Or.inl k3)]
    · rw [if_neg (show ¬ nI (tkn (kd u L s)) = (2 : Int32) from fun y => k3 ((tkn_2 _).mp ((nI_eqI (b := 2) (by omega) (by omega)).mp y))), ob_e h.cl, ob_e hsy]
      by_cases k5 : kd u L s = 5
      · rw [if_pos k5, if_neg i10, if_pos (Or.inr k5)]
      · rw [if_neg k5, if_pos rfl, if_neg (by omega)]
  obtain ⟨w1, e1, F1, h1⟩ := h.check (if kd u L s = 3 ∨ kd u L s = 5 then 1 else 0) (c := 1) (by decide)
  have e1 : X13_check_f E m _ (1 : Int32) w.1 = some w1.1 := e1
  have c40 : ∀ (b : Int32) (w1 : gWd) (t : gMd) (p : Nat × Nat), PQ E w1 m ro fi0 G u L t → chk 0 3 (chk b 2 t) = .inl p → ∃ w', X13_refuseRow_40 E m b m w1.1 = some w'.1 ∧ FS E J30 w1 w' ∧ PQ E w' m ro fi0 G u L (.inl p) := fun b w1 t p h1 z => by
    obtain ⟨w2, e2, F2, h2⟩ := h1.check b (c := 2) (by decide)
    have e2 : X13_check_f E m b (2 : Int32) w1.1 = some w2.1 := e2
    obtain ⟨w3, e3, F3, h3⟩ := h2.check 0 (c := 3) (by decide)
    have e3 : X13_check_f E m 0 (3 : Int32) w2.1 = some w3.1 := e3
    rw [z] at h3
    refine ⟨w3, ?_, F2.trans F3, h3⟩
    unfold X13_refuseRow_40
    rw [ob_e h1.cl, ob_e e2, ob_e h2.cl, ob_e e3]
  have hfst : X13_refuseRow_f E m w.1 = ob (gfI w1.1 m 11 22) fun x13 => if x13 = 0 then ob (gfI w1.1 m 11 21) fun x15 => if x15 = (2 : Int32) then ob (gcl w1.1 m 11) fun _ => ob (X13_value__f E w1.1 m) fun x17 => if (9999 : Int32) < x17 then X13_refuseRow_40 E m 0 m w1.1 else X13_refuseRow_40 E m 1 m w1.1 else X13_refuseRow_40 E m 1 m w1.1 else X13_refuseRow_40 E m 1 m w1.1 := by
    unfold X13_refuseRow_f X13_refuseRow X13_refuseRow_35
    rw [ob_e h.cl, ob_e hint, ob_e h.cl, ob_e e1]
  unfold pExtra
  by_cases k35 : kd u L s = 3 ∨ kd u L s = 5
  · rw [if_pos k35] at h1
    have h1 : PQ E w1 m ro fi0 G u L (.inr s) := h1
    rw [hfst, ob_e h1.err0, if_pos rfl, ob_e (r21 w1 h1)]
    by_cases k3 : kd u L s = 3
    · obtain ⟨v, e2, hv, hv2⟩ := h1.val hN hB
      have hvv := hv2 s rfl
      rw [if_pos k3] at hvv
      have hn : tNum u L s = dg u s (tE u L s - s) := if_pos k3
      have hdd := dv_dg u s (tE u L s - s)
      rw [← hvv, ← hn] at hdd
      rw [if_pos (show nI (tkn (kd u L s)) = (2 : Int32) from by rw [k3]; rfl), ob_e h1.cl, ob_e e2, if_neg (show ¬ kd u L s = 5 by omega), if_pos k3]
      by_cases h9 : tNum u L s ≤ 9999
      · rw [if_neg (show ¬ (9999 : Int32) < nI v from nI_nlt (a := 9999) (by omega) (by omega)), if_pos h9]
        obtain ⟨w3, e3, F3, h3⟩ := c40 1 w1 _ (3, s) h1 rfl
        exact ⟨w3, e3, F1.trans F3, h3⟩
      · rw [if_pos (show (9999 : Int32) < nI v from nI_lt (a := 9999) (by omega) (by omega)), if_neg h9]
        obtain ⟨w3, e3, F3, h3⟩ := c40 0 w1 _ (2, s) h1 rfl
        exact ⟨w3, e3, F1.trans F3, h3⟩
    · have k5 : kd u L s = 5 := by omega
      rw [if_neg (show ¬ nI (tkn (kd u L s)) = (2 : Int32) from fun y => k3 ((tkn_2 _).mp ((nI_eqI (b := 2) (by omega) (by omega)).mp y))), if_pos k5]
      obtain ⟨w3, e3, F3, h3⟩ := c40 1 w1 _ (3, s) h1 rfl
      exact ⟨w3, e3, F1.trans F3, h3⟩
  · rw [if_neg k35] at h1
    have h1 : PQ E w1 m ro fi0 G u L (.inl (1, s)) := h1
    obtain ⟨x, x1, x2⟩ := h1.errN
    rw [hfst, ob_e x1, if_neg x2, if_neg (show ¬ kd u L s = 5 by omega), if_neg (show ¬ kd u L s = 3 by omega)]
    obtain ⟨w3, e3, F3, h3⟩ := c40 1 w1 _ (1, s) h1 rfl
    exact ⟨w3, e3, F1.trans F3, h3⟩
end MM
