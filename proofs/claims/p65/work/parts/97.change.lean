/-! pure: changes of the object -/
def opPut (r : Nat) (y : Int32) (x : gCol) : gCol := (x.1, upd x.2.1 r y, dins x.2.2 (px y))
def opCm (x : gCol) : gCol := (x.1, x.2.1, dcol x.2.1 x.1)
def rowT (S : gT) (q : Nat) : gT := mapC (fun _ y => opDel q y) S.1 S
def putT1 (S : gT) (c r : Nat) (v : Int32) : gT := setC S c (opPut r v (S.2.1 c))
def srtT (S : gT) (c : Nat) (b : Bool) : gT := mapC (fun _ y => opRe (gord S c b) y) S.1 S
def addT (S : gT) (c : Nat) (v d : Int32) : gT := (S.1, S.2.1, tK S + 1, updN (tFc S) (tK S) c, upd (tFv S) (tK S) v, upd (tFd S) (tK S) d)
def remT (S : gT) (q : Nat) : gT := (S.1, S.2.1, tK S - 1, gdel (tFc S) q, gdel (tFv S) q, gdel (tFd S) q)
def delT (S : gT) : gT := mapC (fun _ y => opKp (fun q => !ssel S q) (tR S) y) S.1 S
def cmpT (S : gT) (c : Nat) : gT := setC S c (opCm (S.2.1 c))
def apT (S : gT) (z : Nat → Int32) : gT := mapC (fun c y => opAp (z c) y) S.1 S
theorem setC_n {S : gT} {c : Nat} {x : gCol} (h : x.1 = (S.2.1 c).1) (k : Nat) : ((setC S c x).2.1 k).1 = (S.2.1 k).1 := by
  show (if k = c then x else S.2.1 k).1 = _
  by_cases hk : k = c
  · rw [if_pos hk, h, hk]
  · rw [if_neg hk]
theorem dins_mono {f : Nat → Bool} {p q : Nat} (h : f q = true) : dins f p q = true := by
  unfold dins
  split
  · rfl
  · exact h
theorem dins_at (f : Nat → Bool) (p : Nat) : dins f p p = true := if_pos rfl
/-- tables stay as they should be -/
theorem GS.map {S : gT} (hG : GS S) {op : Nat → gCol → gCol} {n : Nat} (hn : n ≤ 60) (h1 : ∀ c, c < S.1 → (op c (S.2.1 c)).1 = n) (h2 : ∀ c r, c < S.1 → r < n → vIn ((op c (S.2.1 c)).2.1 r) ∧ (op c (S.2.1 c)).2.2 (px ((op c (S.2.1 c)).2.1 r)) = true) : GS (mapC op S.1 S) ∧ tR (mapC op S.1 S) = n := by
  obtain ⟨g1, g2, g3, g4, g5, g6, g7⟩ := hG
  have hr : tR (mapC op S.1 S) = n := by rw [mapC_row (by omega)]; exact h1 0 (by omega)
  refine ⟨⟨g1, g2, fun c hc => ?_, by rw [hr]; exact hn, fun c r hc hrr => ?_, g6, g7⟩, hr⟩
  · rw [hr, mapC_col (show c < S.1 from hc)]
    exact h1 c hc
  · rw [hr] at hrr
    rw [tV, tD, mapC_col (show c < S.1 from hc)]
    exact h2 c r hc hrr
theorem GS.row {S : gT} (hG : GS S) {q : Nat} (hq : q < tR S) : GS (rowT S q) ∧ tR (rowT S q) = tR S - 1 := by
  have g3 := hG.2.2.1
  have g5 := hG.2.2.2.2.1
  have h60 := hG.2.2.2.1
  refine hG.map (by omega) (fun c hc => ?_) (fun c r hc hr => ?_)
  · show (S.2.1 c).1 - 1 = _
    rw [g3 c hc]
  · show vIn (gdel (tV S c) q r) ∧ tD S c (px (gdel (tV S c) q r)) = true
    unfold gdel
    split
    · exact g5 c r hc (by omega)
    · exact g5 c (r + 1) hc (by omega)
theorem GS.put {S : gT} (hG : GS S) {c r : Nat} {v : Int32} (hc : c < S.1) (hr : r < tR S) (hv : vIn v) : GS (putT1 S c r v) ∧ tR (putT1 S c r v) = tR S := by
  obtain ⟨g1, g2, g3, g4, g5, g6, g7⟩ := hG
  have hn : ∀ k, ((putT1 S c r v).2.1 k).1 = (S.2.1 k).1 := setC_n rfl
  have hr' : tR (putT1 S c r v) = tR S := hn 0
  refine ⟨⟨g1, g2, fun k hk => by rw [hn, hr']; exact g3 k hk, by rw [hr']; exact g4, fun k i hk hi => ?_, g6, g7⟩, hr'⟩
  rw [hr'] at hi
  by_cases hkc : k = c
  · subst hkc
    have e : (putT1 S k r v).2.1 k = opPut r v (S.2.1 k) := if_pos rfl
    rw [tV, tD, e]
    show vIn (upd (tV S k) r v i) ∧ dins (tD S k) (px v) (px (upd (tV S k) r v i)) = true
    unfold upd
    by_cases hir : i = r
    · rw [if_pos hir]
      exact ⟨hv, dins_at _ _⟩
    · rw [if_neg hir]
      exact ⟨(g5 k i hk hi).1, dins_mono (g5 k i hk hi).2⟩
  · have e : (putT1 S c r v).2.1 k = S.2.1 k := if_neg hkc
    rw [tV, tD, e]
    exact g5 k i hk hi
theorem GS.srt {S : gT} (hG : GS S) (c : Nat) (b : Bool) : GS (srtT S c b) ∧ tR (srtT S c b) = tR S :=
  hG.map hG.2.2.2.1 (fun k hk => hG.2.2.1 k hk) (fun k r hk hr => hG.2.2.2.2.1 k _ hk (gord_lt S c b hr))
theorem GS.add {S : gT} (hG : GS S) {c : Nat} {v d : Int32} (hc : c < S.1) (hv : vIn v) (hd : dOK d) (hk : tK S < 8) : GS (addT S c v d) := by
  obtain ⟨g1, g2, g3, g4, g5, g6, g7⟩ := hG
  refine ⟨g1, g2, g3, g4, g5, by show tK S + 1 ≤ 8; omega, fun i hi => ?_⟩
  have hi : i < tK S + 1 := hi
  show updN (tFc S) (tK S) c i < S.1 ∧ vIn (upd (tFv S) (tK S) v i) ∧ dOK (upd (tFd S) (tK S) d i)
  unfold updN upd
  by_cases hz : i = tK S
  · rw [if_pos hz, if_pos hz, if_pos hz]
    exact ⟨hc, hv, hd⟩
  · rw [if_neg hz, if_neg hz, if_neg hz]
    exact g7 i (by omega)
theorem GS.rem {S : gT} (hG : GS S) {q : Nat} (hq : q < tK S) : GS (remT S q) := by
  obtain ⟨g1, g2, g3, g4, g5, g6, g7⟩ := hG
  refine ⟨g1, g2, g3, g4, g5, by show tK S - 1 ≤ 8; omega, fun i hi => ?_⟩
  have hi : i < tK S - 1 := hi
  show gdel (tFc S) q i < S.1 ∧ vIn (gdel (tFv S) q i) ∧ dOK (gdel (tFd S) q i)
  unfold gdel
  by_cases hz : i < q
  · rw [if_pos hz, if_pos hz, if_pos hz]
    exact g7 i (by omega)
  · rw [if_neg hz, if_neg hz, if_neg hz]
    exact g7 (i + 1) (by omega)
theorem GS.del {S : gT} (hG : GS S) : GS (delT S) ∧ tR (delT S) = fb_ct (fun q => !ssel S q) (tR S) := by
  have hle := fb_ct_le (fun q => !ssel S q) (tR S)
  have h60 := hG.2.2.2.1
  refine hG.map (by omega) (fun c hc => rfl) (fun c r hc hr => ?_)
  exact hG.2.2.2.2.1 c _ hc (kth_ok hr).1
theorem GS.cmp {S : gT} (hG : GS S) {c : Nat} (hc : c < S.1) : GS (cmpT S c) ∧ tR (cmpT S c) = tR S := by
  obtain ⟨g1, g2, g3, g4, g5, g6, g7⟩ := hG
  have hn : ∀ k, ((cmpT S c).2.1 k).1 = (S.2.1 k).1 := setC_n rfl
  have hr' : tR (cmpT S c) = tR S := hn 0
  refine ⟨⟨g1, g2, fun k hk => by rw [hn, hr']; exact g3 k hk, by rw [hr']; exact g4, fun k i hk hi => ?_, g6, g7⟩, hr'⟩
  rw [hr'] at hi
  by_cases hkc : k = c
  · subst hkc
    have e : (cmpT S k).2.1 k = opCm (S.2.1 k) := if_pos rfl
    rw [tV, tD, e]
    show vIn (tV S k i) ∧ dcol (tV S k) (S.2.1 k).1 (px (tV S k i)) = true
    refine ⟨(g5 k i hk hi).1, (dcol_iff _ _ _).mpr ⟨i, ?_, rfl⟩⟩
    rw [g3 k hk]
    exact hi
  · have e : (cmpT S c).2.1 k = S.2.1 k := if_neg hkc
    rw [tV, tD, e]
    exact g5 k i hk hi
theorem GS.ap {S : gT} (hG : GS S) {z : Nat → Int32} (hz : ∀ c, c < S.1 → vIn (z c)) (hr : tR S < 60) : GS (apT S z) ∧ tR (apT S z) = tR S + 1 := by
  have g3 := hG.2.2.1
  have g5 := hG.2.2.2.2.1
  refine hG.map (by omega) (fun c hc => ?_) (fun c r hc hrr => ?_)
  · show (S.2.1 c).1 + 1 = _
    rw [g3 c hc]
  · show vIn (upd (tV S c) (S.2.1 c).1 (z c) r) ∧ dins (tD S c) (px (z c)) (px (upd (tV S c) (S.2.1 c).1 (z c) r)) = true
    rw [g3 c hc]
    unfold upd
    by_cases hz2 : r = tR S
    · rw [if_pos hz2]
      exact ⟨hz c hc, dins_at _ _⟩
    · rw [if_neg hz2]
      exact ⟨(g5 c r hc (by omega)).1, dins_mono (g5 c r hc (by omega)).2⟩
theorem GS.cp {U : gT} (hG : GS U) (S : gT) : GS (cpT U S) ∧ tR (cpT U S) = tR U := by
  obtain ⟨g1, g2, g3, g4, g5, g6, g7⟩ := hG
  have hk : ∀ c, c < U.1 → (cpT U S).2.1 c = U.2.1 c := fun c hc => if_pos hc
  have hr' : tR (cpT U S) = tR U := by unfold tR; rw [hk 0 g1]
  refine ⟨⟨g1, g2, fun c hc => ?_, by rw [hr']; exact g4, fun c r hc hr => ?_, g6, g7⟩, hr'⟩
  · rw [hk c hc, hr']
    exact g3 c hc
  · rw [hr'] at hr
    rw [tV, tD, hk c hc]
    exact g5 c r hc hr
theorem GS.rep {C R : Nat} {x : Nat → Int32} {S : gT} (hC : 1 ≤ C) (hC6 : C ≤ 6) (hR : R ≤ 60) (hx : ∀ j, j < R * C → vIn (x j)) : GS (repT C R x S) ∧ tR (repT C R x S) = R := by
  have hk : ∀ c, c < C → (repT C R x S).2.1 c = repC C R c x := fun c hc => if_pos hc
  have hr' : tR (repT C R x S) = R := by unfold tR; rw [hk 0 (by omega)]; rfl
  refine ⟨⟨hC, hC6, fun c hc => ?_, by rw [hr']; exact hR, fun c r hc hr => ?_, Nat.zero_le _, fun i hi => by have hi : i < 0 := hi; omega⟩, hr'⟩
  · rw [hk c hc, hr']
    rfl
  · rw [hr'] at hr
    have hc : c < C := hc
    rw [tV, tD, hk c hc]
    have hlt : r * C + c < R * C := by
      have h1 : (r + 1) * C ≤ R * C := Nat.mul_le_mul_right _ hr
      rw [Nat.succ_mul] at h1
      omega
    exact ⟨hx _ hlt, (dcol_iff _ _ _).mpr ⟨r, hr, rfl⟩⟩
/-- the state behind a recorded change -/
def qC (Q : gQ) (S' : gT) : gQ := (S', qU Q, qH Q, ((qX Q + 1) % 8, min (qZ Q + 1) 8, fun i => if i = qX Q then cpT (qS Q) (qR Q i) else qR Q i), Q.2.2.2.2)
theorem GQ.chg {Q : gQ} (hG : GQ Q) {S' : gT} (hS : GS S') : GQ (qC Q S') := by
  obtain ⟨g1, g2, g3, g4, g5, g6, g7, g8, g9⟩ := hG
  refine ⟨hS, g2, fun i hi => ?_, g4, fun i hi => ?_, by show (qX Q + 1) % 8 < 8; omega, by show min (qZ Q + 1) 8 ≤ 8; omega, g8, g9⟩
  · have hi : i < min (qZ Q + 1) 8 := hi
    show GS (if ((qX Q + 1) % 8 + 8 - min (qZ Q + 1) 8 + i) % 8 = qX Q then cpT (qS Q) (qR Q _) else qR Q _)
    by_cases hz : ((qX Q + 1) % 8 + 8 - min (qZ Q + 1) 8 + i) % 8 = qX Q
    · rw [if_pos hz]
      exact (g1.cp _).1
    · rw [if_neg hz]
      by_cases h8 : qZ Q = 8
      · have := g3 (i + 1) (by omega)
        have e : ((qX Q + 1) % 8 + 8 - min (qZ Q + 1) 8 + i) % 8 = (qX Q + 8 - qZ Q + (i + 1)) % 8 := by omega
        show GS (qR Q (((qX Q + 1) % 8 + 8 - min (qZ Q + 1) 8 + i) % 8))
        rw [e]
        exact this
      · have := g3 i (by omega)
        have e : ((qX Q + 1) % 8 + 8 - min (qZ Q + 1) 8 + i) % 8 = (qX Q + 8 - qZ Q + i) % 8 := by omega
        show GS (qR Q (((qX Q + 1) % 8 + 8 - min (qZ Q + 1) 8 + i) % 8))
        rw [e]
        exact this
  · show (if i = qX Q then cpT (qS Q) (qR Q i) else qR Q i).1 ≤ 6
    by_cases hz : i = qX Q
    · rw [if_pos hz]
      exact g1.2.1
    · rw [if_neg hz]
      exact g5 i hi
section KV
variable {E : gE} {w : gWd} {l : Nat} {ad : Nat → Nat} {Q : gQ}
theorem RK.clH (h : RK E w l ad Q) : gcl w.1 (ad 3) 4 = some () := gcl_o h.2.2.2.1.1.2.2
theorem JKh (t : Nat × Nat × Nat) (h : Jh t) : JK t := by
  show t.2.1 < 30
  rcases h with h | h
  · rw [h]; decide
  · have := h.2
    omega
theorem JKs0 (t : Nat × Nat × Nat) (h : Js 0 t) : JK t := by
  show t.2.1 < 30
  rw [show t.2.1 = 0 from h]
  decide
theorem RK.rcd (hN : 100000 ≤ gN E) (h : RK E w l ad Q) (hG : GS (qS Q)) (hR : RM E w 1) : ∃ w', X5_record_f E (ad 3) (ad 0) w.1 = some w'.1 ∧ FS E Jh w w' ∧ RK E w' l ad (qC Q (qS Q)) := by
  obtain ⟨h1, h2, h3, h4, h5, h6, ⟨g, h7, h8⟩, ⟨n, s, h9⟩, ⟨f, h10⟩, wd, W, h11⟩ := h
  obtain ⟨w1, e1, F1, H1, S1⟩ := h4.record hN h2 hG.2.1 (by decide) hR
  have no : ∀ κ j c, ¬ j = 24 → ¬ (2 ≤ j ∧ j < 10) → ¬ Jh (κ, j, c) := fun κ j c a b z => z.elim a b
  exact ⟨w1, e1, F1, h1.fr F1 (no _ _ _ (by decide) (by decide)), S1, h3.fr F1 (fun κ c => no _ _ _ (by decide) (by decide)), H1, h5.fr F1 (fun κ => no _ _ _ (by decide) (by decide)), h6.fr F1 (fun κ i => no _ _ _ (by decide) (by decide)), ⟨g, h7.fr F1 (no _ _ _ (by decide) (by decide)), h8⟩, ⟨n, s, h9.fr F1 (fun κ => no _ _ _ (by decide) (by decide))⟩, ⟨f, h10.fr F1 (no _ _ _ (by decide) (by decide)) (no _ _ _ (by decide) (by decide))⟩, wd, W, h11.fr F1 (fun κ => no _ _ _ (by decide) (by decide))⟩
/-- another store -/
theorem RK.st (h : RK E w l ad Q) {w' : gWd} {S' : gT} (hF : FS E (Js 0) w w') (hS : RS E w' (ad 0) 0 S') : RK E w' l ad (S', Q.2) := by
  obtain ⟨h1, h2, h3, h4, h5, h6, ⟨g, h7, h8⟩, ⟨n, s, h9⟩, ⟨f, h10⟩, wd, W, h11⟩ := h
  have no : ∀ κ j c, ¬ j = 0 → ¬ Js 0 (κ, j, c) := fun κ j c a z => a z
  exact ⟨h1.fr hF (no _ _ _ (by decide)), hS, h3.fr hF (fun κ c => no _ _ _ (by decide)), h4.fr hF (fun κ j c hj => by
    have hj' : j = 24 ∨ (2 ≤ j ∧ j < 10) := hj
    exact no _ _ _ (by omega)), h5.fr hF (fun κ => no _ _ _ (by decide)), h6.fr hF (fun κ i => no _ _ _ (by decide)), ⟨g, h7.fr hF (no _ _ _ (by decide)), h8⟩, ⟨n, s, h9.fr hF (fun κ => no _ _ _ (by decide))⟩, ⟨f, h10.fr hF (no _ _ _ (by decide)) (no _ _ _ (by decide))⟩, wd, W, h11.fr hF (fun κ => no _ _ _ (by decide))⟩
theorem RK.filt (h : RK E w l ad Q) {w' : gWd} {k : Nat} {fc : Nat → Nat} {fv fd : Nat → Int32} (hF : FS E (fun t => t.2 = (0, 0) ∧ 2 ≤ t.1 ∧ t.1 < 6) w w') (hS : RF E w' (ad 0 + 2) 0 k fc fv fd) : RK E w' l ad (((qS Q).1, (qS Q).2.1, k, fc, fv, fd), Q.2) := by
  refine h.st (hF.mono (fun t z => by show t.2.1 = 0; rw [z.1])) ?_
  obtain ⟨g1, ⟨g, g2, g3⟩, g4, g5⟩ := h.S
  exact ⟨g1.fr hF (fun z => by have : 2 ≤ 0 := z.2.1; omega), ⟨g, g2.fr hF (fun z => by have : 2 ≤ 1 := z.2.1; omega), g3⟩, hS, fun c hc => (g5 c hc).fr hF (fun κ hk z => by have : κ < 6 := z.2.2; omega)⟩
theorem K_removeRow (hN : 100000 ≤ gN E) (h : RK E w l ad Q) (hG : GQ Q) (hR : RM E w 1) {r : Nat} (hr : r < tR (qS Q)) : XA E w l ad (qC Q (rowT (qS Q) r)) (Sum.inr (nI (tR (qS Q) - 1))) (X12_removeRow_f E l (nI r) w.1) := by
  obtain ⟨w1, e1, F1, h1⟩ := h.rcd hN hG.1 hR
  obtain ⟨w2, e2, F2, S2⟩ := RS.del hN h1.S hG.1 hr
  have h2 := h1.st F2 S2
  have hg := hG.1.row hr
  refine ⟨w2, ?_, ((F1.mono JKh).trans (F2.mono JKs0)).kk h.pos, h2⟩
  unfold X12_removeRow_f X12_removeRow
  rw [ob_e h.cl, ob_e (h.row hr hG.1.2.2.2.1), gtry_r, ob_e h.f3, ob_e h.f0, ob_e h.clH, ob_e e1, ob_e h1.f0, ob_e h1.c0, ob_e e2, ob_e h2.f0, ob_e h2.c0, ob_e h2.S.rows]
  show some (Sum.inr (nI (tR (rowT (qS Q) r))), w2.1) = _
  rw [hg.2]
theorem RK.putv (hN : 100000 ≤ gN E) (h : RK E w l ad Q) (hG : GS (qS Q)) (hR : RM E w 1) {c r : Nat} {v : Int32} (hc : c < (qS Q).1) (hr : r < tR (qS Q)) (hv : vIn v) : ∃ w', X1_put_f E (ad 0 + 6 + 4 * c) (nI r) v w.1 = some w'.1 ∧ FS E (Js 0) w w' ∧ RK E w' l ad (putT1 (qS Q) c r v, Q.2) := by
  have hc6 : c < 6 := by have := hG.2.1; omega
  obtain ⟨w1, e1, F1, C1⟩ := (h.C hG hc).put hN hr hv (by decide) hc6 hR (J := Jc 0 c) Jc_k
  have hx : RC E w1 (ad 0 + 6 + 4 * c) 0 c (opPut r v ((qS Q).2.1 c)).1 (opPut r v ((qS Q).2.1 c)).2.1 (opPut r v ((qS Q).2.1 c)).2.2 := by
    show RC E w1 (ad 0 + 6 + 4 * c) 0 c ((qS Q).2.1 c).1 _ _
    rw [hG.2.2.1 c hc]
    exact C1
  exact ⟨w1, e1, F1.mono Jc_s, h.st (F1.mono Jc_s) (h.S.colup F1 hx)⟩
theorem K_setValue (hN : 100000 ≤ gN E) (h : RK E w l ad Q) (hG : GQ Q) (hR : RM E w 1) {c r : Nat} {v : Int32} (hc : c < (qS Q).1) (hr : r < tR (qS Q)) (hv : vIn v) : XA E w l ad (qC Q (putT1 (qS Q) c r v)) (Sum.inr (tV (qS Q) c r)) (X12_setValue_f E l (nI c) (nI r) v w.1) := by
  have hc6 : c < 6 := by have := hG.1.2.1; omega
  obtain ⟨w1, e1, F1, h1⟩ := h.rcd hN hG.1 hR
  obtain ⟨w2, e2, F2, h2⟩ := h1.putv hN hG.1 (F1.2.2.2 _ hR) hc hr hv
  refine ⟨w2, ?_, ((F1.mono JKh).trans (F2.mono JKs0)).kk h.pos, h2⟩
  unfold X12_setValue_f X12_setValue
  rw [ob_e h.cl, ob_e (h.col hc hG.1.2.1), gtry_r, ob_e h.cl, ob_e (h.row hr hG.1.2.2.2.1), gtry_r, ob_e h.cl, ob_e (RK.valu hv), gtry_r, ob_e h.f0, ob_e h.c0, ob_e (h.S.column hc6), ob_e (h.S.ccl hc6), ob_e ((h.V hG.1 hc).at hr), ob_e h.f3, ob_e h.f0, ob_e h.clH, ob_e e1, ob_e h1.f0, ob_e h1.c0, ob_e (h1.S.column hc6), ob_e (h1.S.ccl hc6), ob_e e2]
/-- the order room and the store -/
theorem RK.so (h : RK E w l ad Q) {w' : gWd} {S' : gT} {n : Nat} {s : Nat → Nat} (hF : FS E (fun t => t.2.1 = 0 ∨ t.2 = (20, 0)) w w') (hO : RO E w' (ad 8) n s) (hS : RS E w' (ad 0) 0 S') : RK E w' l ad (S', Q.2) := by
  obtain ⟨h1, h2, h3, h4, h5, h6, ⟨g, h7, h8⟩, -, ⟨f, h10⟩, wd, W, h11⟩ := h
  have no : ∀ κ j c, ¬ j = 0 → ¬ j = 20 → ¬ ((κ, j, c).2.1 = 0 ∨ ((κ, j, c) : Nat × Nat × Nat).2 = (20, 0)) := fun κ j c a b z => z.elim a (fun z => b (congrArg Prod.fst z))
  exact ⟨h1.fr hF (no _ _ _ (by decide) (by decide)), hS, h3.fr hF (fun κ c => no _ _ _ (by decide) (by decide)), h4.fr hF (fun κ j c hj => by
    have hj' : j = 24 ∨ (2 ≤ j ∧ j < 10) := hj
    exact no _ _ _ (by omega) (by omega)), h5.fr hF (fun κ => no _ _ _ (by decide) (by decide)), h6.fr hF (fun κ i => no _ _ _ (by decide) (by decide)), ⟨g, h7.fr hF (no _ _ _ (by decide) (by decide)), h8⟩, ⟨n, s, hO⟩, ⟨f, h10.fr hF (no _ _ _ (by decide) (by decide)) (no _ _ _ (by decide) (by decide))⟩, wd, W, h11.fr hF (fun κ => no _ _ _ (by decide) (by decide))⟩
theorem RK.srtr (hN : 100000 ≤ gN E) (h : RK E w l ad Q) (hG : GS (qS Q)) {c : Nat} (hc : c < (qS Q).1) (d : Int32) : ∃ w', X12_sortRows_f E l (nI c) d w.1 = some w'.1 ∧ FS E (fun t => t.2.1 = 0 ∨ t.2 = (20, 0)) w w' ∧ RK E w' l ad (srtT (qS Q) c (decide (¬ d = 0)), Q.2) := by
  have hc6 : c < 6 := by have := hG.2.1; omega
  obtain ⟨w1, e1, F1, h1, O1⟩ := h.srt hN hG hc d
  obtain ⟨w2, e2, F2, O2, S2⟩ := h1.S.re hN O1 hG.2.1 (by decide) (fun k hk => hG.2.2.1 k hk) (fun k hk => gord_lt _ _ _ hk)
  have h2 := h1.so F2 O2 S2
  refine ⟨w2, ?_, (F1.mono (fun t z => Or.inr z)).trans F2, h2⟩
  unfold X12_sortRows_f X12_sortRows
  rw [ob_e h.f8, ob_e h.f0, ob_e h.c0, ob_e (h.S.column hc6), ob_e h.clO, ob_e e1, ob_e h1.f0, ob_e h1.f8, ob_e h1.c0, ob_e e2]
theorem JKso (t : Nat × Nat × Nat) (h : t.2.1 = 0 ∨ t.2 = (20, 0)) : JK t := by
  rcases h with h | h
  · exact JKs0 t h
  · exact JK20 t h
theorem K_sort (hN : 100000 ≤ gN E) (h : RK E w l ad Q) (hG : GQ Q) (hR : RM E w 1) {c : Nat} {d : Int32} (hc : c < (qS Q).1) : XA E w l ad (qC Q (srtT (qS Q) c (decide (¬ d = 0)))) (Sum.inr (nI (gruns (tV (srtT (qS Q) c (decide (¬ d = 0))) c) (fun k => k) (tR (qS Q))))) (X12_sort_f E l (nI c) d w.1) := by
  have hc6 : c < 6 := by have := hG.1.2.1; omega
  obtain ⟨w1, e1, F1, h1⟩ := h.rcd hN hG.1 hR
  obtain ⟨w2, e2, F2, h2'⟩ := h1.srtr hN hG.1 hc d
  have h2 : RK E w2 l ad (srtT (qS Q) c (decide (¬ d = 0)), (qC Q (qS Q)).2) := h2'
  have hg := hG.1.srt c (decide (¬ d = 0))
  obtain ⟨-, -, -, -, -, -, -, ⟨n, s, h9⟩, -⟩ := id h2
  obtain ⟨w3, e3, F3, O3⟩ := h9.reset hN hG.1.2.2.2.1
  have h3 := h2.sO F3 O3
  have hV : RV E w3 (ad 0 + 6 + 4 * c) 0 c (tR (qS Q)) (tV (srtT (qS Q) c (decide (¬ d = 0))) c) := by
    have this : RV E w3 (ad 0 + 6 + 4 * c) 0 c (tR (srtT (qS Q) c (decide (¬ d = 0)))) (tV (srtT (qS Q) c (decide (¬ d = 0))) c) := h3.V hg.1 (c := c) hc
    rw [hg.2] at this
    exact this
  refine ⟨w3, ?_, ((F1.mono JKh).trans ((F2.mono JKso).trans (F3.mono JK20))).kk h.pos, h3⟩
  unfold X12_sort_f X12_sort
  rw [ob_e h.cl, ob_e (h.col hc hG.1.2.1), gtry_r, ob_e h.f3, ob_e h.f0, ob_e h.clH, ob_e e1, ob_e h1.cl, ob_e e2, ob_e h2.f8, ob_e h2.f0, ob_e h2.c0, ob_e h2.S.rows, ob_e h2.clO]
  rw [show tR (qS (srtT (qS Q) c (decide (¬ d = 0)), (qC Q (qS Q)).2)) = tR (qS Q) from hg.2, ob_e e3, ob_e h3.f0, ob_e h3.c0, ob_e (h3.S.column hc6), ob_e h3.f8, ob_e (h3.S.ccl hc6), ob_e (hV.runs hN O3 (fun k hk => hk))]
theorem RK.addc (h : RK E w l ad Q) (hG : GS (qS Q)) {c : Nat} {v d : Int32} (hk : tK (qS Q) < 8) : ∃ w', X4_add_f E (ad 0 + 2) (nI c) v d w.1 = some w'.1 ∧ FS E (Js 0) w w' ∧ RK E w' l ad (addT (qS Q) c v d, Q.2) := by
  obtain ⟨w1, e1, F1, R1⟩ := RF.add (cc := c) (y := v) (d := d) h.S.2.2.1 hk (J := fun t => t.2 = (0, 0) ∧ 2 ≤ t.1 ∧ t.1 < 6) (fun κ q1 q2 => ⟨rfl, q1, q2⟩)
  exact ⟨w1, e1, F1.mono (fun t z => by show t.2.1 = 0; rw [z.1]), h.filt F1 R1⟩
theorem RK.remc (hN : 100000 ≤ gN E) (h : RK E w l ad Q) {q : Nat} (hq : q < tK (qS Q)) : ∃ w', X4_remove_f E (ad 0 + 2) (nI q) w.1 = some w'.1 ∧ FS E (Js 0) w w' ∧ RK E w' l ad (remT (qS Q) q, Q.2) := by
  obtain ⟨w1, e1, F1, R1⟩ := RF.remove hN h.S.2.2.1 hq (J := fun t => t.2 = (0, 0) ∧ 2 ≤ t.1 ∧ t.1 < 6) (fun κ q1 q2 => ⟨rfl, q1, q2⟩)
  exact ⟨w1, e1, F1.mono (fun t z => by show t.2.1 = 0; rw [z.1]), h.filt F1 R1⟩
theorem K_addCondition (hN : 100000 ≤ gN E) (h : RK E w l ad Q) (hG : GQ Q) (hR : RM E w 1) {c : Nat} {v d : Int32} (hc : c < (qS Q).1) (hv : vIn v) (hd : dOK d) (hk : tK (qS Q) < 8) : XA E w l ad (qC Q (addT (qS Q) c v d)) (Sum.inr (nI (fb_ct (ssel (addT (qS Q) c v d)) (tR (qS Q))))) (X12_addCondition_f E l (nI c) v d w.1) := by
  obtain ⟨w1, e1, F1, h1⟩ := h.rcd hN hG.1 hR
  obtain ⟨w2, e2, F2, h2⟩ := h1.addc hG.1 (c := c) (v := v) (d := d) hk
  have hg := hG.1.add hc hv hd hk
  refine ⟨w2, ?_, ((F1.mono JKh).trans (F2.mono JKs0)).kk h.pos, h2⟩
  unfold X12_addCondition_f X12_addCondition
  rw [ob_e h.cl, ob_e (h.col hc hG.1.2.1), gtry_r, ob_e h.cl, ob_e (RK.valu hv), gtry_r, ob_e h.f0, ob_e h.c0, ob_e h.S.filter, ob_e h.S.fcl, ob_e h.S.2.2.1.full, if_neg (show ¬ tK (qS Q) = 8 by omega), if_pos rfl, ob_e h.f3, ob_e h.f0, ob_e h.clH, ob_e e1, ob_e h1.f0, ob_e h1.c0, ob_e h1.S.filter, ob_e h1.S.fcl, ob_e e2, ob_e h2.f0, ob_e h2.c0, ob_e (h2.S.nsel hN hg)]
  rfl
theorem K_removeCondition (hN : 100000 ≤ gN E) (h : RK E w l ad Q) (hG : GQ Q) (hR : RM E w 1) {q : Nat} (hq : q < tK (qS Q)) : XA E w l ad (qC Q (remT (qS Q) q)) (Sum.inr (nI (fb_ct (ssel (remT (qS Q) q)) (tR (qS Q))))) (X12_removeCondition_f E l (nI q) w.1) := by
  obtain ⟨w1, e1, F1, h1⟩ := h.rcd hN hG.1 hR
  obtain ⟨w2, e2, F2, h2⟩ := h1.remc hN (q := q) hq
  have hg := hG.1.rem hq
  refine ⟨w2, ?_, ((F1.mono JKh).trans (F2.mono JKs0)).kk h.pos, h2⟩
  unfold X12_removeCondition_f X12_removeCondition
  rw [ob_e h.cl, ob_e (h.con hq hG.1.2.2.2.2.2.1), gtry_r, ob_e h.f3, ob_e h.f0, ob_e h.clH, ob_e e1, ob_e h1.f0, ob_e h1.c0, ob_e h1.S.filter, ob_e h1.S.fcl, ob_e e2, ob_e h2.f0, ob_e h2.c0, ob_e (h2.S.nsel hN hg)]
  rfl
theorem K_deleteSelected (hN : 100000 ≤ gN E) (h : RK E w l ad Q) (hG : GQ Q) (hR : RM E w 1) : ∃ w', X12_deleteSelected_f E l w.1 = some (nI (tR (qS Q) - fb_ct (fun q => !ssel (qS Q) q) (tR (qS Q))), w'.1) ∧ FS E JK w w' ∧ RK E w' l ad (qC Q (delT (qS Q))) := by
  obtain ⟨w1, e1, F1, h1⟩ := h.rcd hN hG.1 hR
  obtain ⟨w2, e2, F2, S2⟩ := RS.delsel hN h1.S hG.1
  have h2 := h1.st F2 S2
  refine ⟨w2, ?_, (F1.mono JKh).trans (F2.mono JKs0), h2⟩
  unfold X12_deleteSelected_f X12_deleteSelected
  rw [ob_e h.f3, ob_e h.f0, ob_e h.clH, ob_e e1, ob_e h1.f0, ob_e h1.c0, ob_e e2]
  rfl
theorem RK.cmpc (hN : 100000 ≤ gN E) (h : RK E w l ad Q) (hG : GS (qS Q)) (hR : RM E w 1) {c : Nat} (hc : c < (qS Q).1) : ∃ w', X1_dropStale_f E (ad 0 + 6 + 4 * c) w.1 = some w'.1 ∧ FS E (Js 0) w w' ∧ RK E w' l ad (cmpT (qS Q) c, Q.2) := by
  have hc6 : c < 6 := by have := hG.2.1; omega
  obtain ⟨w1, e1, F1, C1⟩ := (h.C hG hc).drop hN (fun r hr => (hG.2.2.2.2.1 c r hc hr).1) (by decide) hc6 hR (J := Jc 0 c) Jc_k
  have hx : RC E w1 (ad 0 + 6 + 4 * c) 0 c (opCm ((qS Q).2.1 c)).1 (opCm ((qS Q).2.1 c)).2.1 (opCm ((qS Q).2.1 c)).2.2 := by
    show RC E w1 (ad 0 + 6 + 4 * c) 0 c ((qS Q).2.1 c).1 _ (dcol _ ((qS Q).2.1 c).1)
    rw [hG.2.2.1 c hc]
    exact C1
  exact ⟨w1, e1, F1.mono Jc_s, h.st (F1.mono Jc_s) (h.S.colup F1 hx)⟩
theorem K_compact (hN : 100000 ≤ gN E) (h : RK E w l ad Q) (hG : GQ Q) (hR : RM E w 1) {c : Nat} (hc : c < (qS Q).1) : XA E w l ad (qC Q (cmpT (qS Q) c)) (Sum.inr (nI (dsz (tD (qS Q) c)) - nI (dsz (dcol (tV (qS Q) c) (tR (qS Q)))))) (X12_compact_f E l (nI c) w.1) := by
  have hc6 : c < 6 := by have := hG.1.2.1; omega
  obtain ⟨w1, e1, F1, h1⟩ := h.rcd hN hG.1 hR
  obtain ⟨w2, e2, F2, h2⟩ := h1.cmpc hN hG.1 (F1.2.2.2 _ hR) (c := c) hc
  have hd : tD (cmpT (qS Q) c) c = dcol (tV (qS Q) c) (tR (qS Q)) := by
    have e : (cmpT (qS Q) c).2.1 c = opCm ((qS Q).2.1 c) := if_pos rfl
    rw [tD, e]
    show dcol _ ((qS Q).2.1 c).1 = _
    rw [hG.1.2.2.1 c hc]
  have hz := (h2.D hc6).size
  rw [show tD (qS (cmpT (qS (qC Q (qS Q))) c, (qC Q (qS Q)).2)) c = dcol (tV (qS Q) c) (tR (qS Q)) from hd] at hz
  refine ⟨w2, ?_, ((F1.mono JKh).trans (F2.mono JKs0)).kk h.pos, h2⟩
  unfold X12_compact_f X12_compact
  rw [ob_e h.cl, ob_e (h.col hc hG.1.2.1), gtry_r, ob_e h.f3, ob_e h.f0, ob_e h.clH, ob_e e1, ob_e h1.f0, ob_e h1.c0, ob_e (h1.S.dict hc6), ob_e (h1.S.dcl hc6), ob_e (h1.D hc6).size, ob_e h1.f0, ob_e h1.c0, ob_e (h1.S.column hc6), ob_e (h1.S.ccl hc6), ob_e e2, ob_e h2.f0, ob_e h2.c0, ob_e (h2.S.dict hc6), ob_e (h2.S.dcl hc6), ob_e hz]
  rfl
end KV
