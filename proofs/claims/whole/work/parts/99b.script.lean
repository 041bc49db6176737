/-! pure: scripts are run -/
abbrev JX : Nat × Nat × Nat → Prop := fun t => t.2.1 = 0 ∨ t.2 = (20, 0)
theorem JX0 (t : Nat × Nat × Nat) (h : Js 0 t) : JX t := Or.inl h
theorem JXno {κ i : Nat} : ¬ JX (κ, 23, i) := fun z => z.elim (fun z => by cases (z : (23 : Nat) = 0)) (fun z => by cases (congrArg Prod.fst z : (23 : Nat) = 20))
theorem cm_in {E : gE} {w : gWd} {a i q : Nat} {x1 x2 x3 x4 : Int32} {g : Nat → Int32} {β : Type} (hO : gOK E) (h : CO E w a i (gst E (30 + q)) x1 x2 x3 x4 g) (hq : q < 9) (k : Int32 → Option β) : ob (gfR w.1 (a + 3 + 2 * i) 1 0) (fun x9 => ob (gxc E x9 101) fun _ => ob (Jx29ce0_ordinal_8abf5_f E w.1 x9) fun x11 => ob (graI E 0 w.1 (gst E 42) x11) k) = k (nI (swm.getD q 0)) := by
  obtain ⟨o1, o2, o3⟩ := ordq hO (σ := w.1) hq
  rw [ob_e (gfR_o h.1.2.2 rfl), ob_e o1, ob_e o2, ob_e o3]
theorem gzif (p : Prop) [Decidable p] : gz (if p then (1 : Int32) else 0) = some () := by
  by_cases h : p
  · rw [if_pos h]; rfl
  · rw [if_neg h]; rfl
theorem ifd (p : Prop) [Decidable p] : (if decide p = true then (1 : Int32) else 0) = if p then 1 else 0 := by
  by_cases h : p
  · rw [if_pos h, if_pos (decide_eq_true h)]
  · rw [if_neg h, if_neg (by simp [h])]
section KZ
variable {E : gE} {w : gWd} {l : Nat} {ad : Nat → Nat} {Q : gQ} {i : Nat} {x1 x2 x3 x4 : Int32} {g : Nat → Int32}
theorem RK.p76 (h : RK E w l ad Q) : X12_isPossible_76 E w.1 l = some (if decide (tK (qS Q) < 8) = true then 1 else 0) := by
  have h8 := h.S.2.2.1.2.1
  unfold X12_isPossible_76
  rw [ob_e h.f0, ob_e h.c0, ob_e h.S.filter, ob_e h.S.fcl, ob_e h.S.2.2.1.full, ifd]
  by_cases hk : tK (qS Q) = 8
  · rw [if_pos hk, if_neg (by decide), if_neg (by omega)]
  · rw [if_neg hk, if_pos rfl, if_pos (by omega)]
theorem RK.poss (hO : gOK E) (h : RK E w l ad Q) (hG : GS (qS Q)) {cm : gCmd} (hc : CO E w (ad 5) i (gst E (30 + cm.1)) x1 x2 x3 x4 g) (hf : cmF (qS Q).1 cm x1 x2 x3 x4 g) (hw : cmW (qS Q).1 cm) : X12_isPossible_f E w.1 l (ad 5 + 3 + 2 * i) = some (if cmP (qS Q) cm = true then 1 else 0) := by
  have h60 := hG.2.2.2.1
  have h8 := hG.2.2.2.2.2.1
  obtain ⟨q, cx, cy, cv, cb, cg⟩ := cm
  obtain ⟨f0, f1, f2, f3, f4⟩ := hf
  obtain ⟨hq, w1, w2, w3, w4⟩ := hw
  have hq : q < 9 := hq
  have hc : CO E w (ad 5) i (gst E (30 + q)) x1 x2 x3 x4 g := hc
  have w3 : cy < 60 := w3
  unfold X12_isPossible_f X12_isPossible
  refine (cm_in hO hc hq _).trans ?_
  obtain rfl | rfl | rfl | rfl | rfl | rfl | rfl | rfl | rfl : q = 0 ∨ q = 1 ∨ q = 2 ∨ q = 3 ∨ q = 4 ∨ q = 5 ∨ q = 6 ∨ q = 7 ∨ q = 8 := by omega
  · show _ = some (if decide (tR (qS Q) < 60) = true then 1 else 0)
    rw [if_pos (by decide), ob_e h.f0, ob_e h.c0, ob_e h.S.full, ifd]
    by_cases hk : tR (qS Q) < 60
    · rw [if_pos hk, if_pos rfl, if_pos hk]
    · rw [if_neg hk, if_neg (by decide), if_neg hk]
  · show _ = some (if decide (cy < tR (qS Q)) = true then 1 else 0)
    have e2 : x2 = nI cy := f2 (Or.inl rfl)
    rw [if_neg (by decide), if_pos (by decide), ob_e h.f0, ob_e (gfI_o hc.1.2.2 rfl), ob_e h.c0, ob_e (h.S.has _), ob_e (gzif _), ifd, e2, nI_toInt (by omega)]
    congr 1
    by_cases hk : cy < tR (qS Q)
    · rw [if_pos (by omega), if_pos hk]
    · rw [if_neg (by omega), if_neg hk]
  · show _ = some 1
    rw [if_neg (by decide), if_neg (by decide), if_neg (by decide), if_neg (by decide), if_neg (by decide), if_neg (by decide)]
  · show _ = some (if decide (tK (qS Q) < 8) = true then 1 else 0)
    rw [if_neg (by decide), if_neg (by decide), if_pos (by decide), h.p76]
  · show _ = some (if decide (tK (qS Q) < 8) = true then 1 else 0)
    rw [if_neg (by decide), if_neg (by decide), if_neg (by decide), if_pos (by decide), h.p76]
  · show _ = some (if decide (tK (qS Q) < 8) = true then 1 else 0)
    rw [if_neg (by decide), if_neg (by decide), if_neg (by decide), if_neg (by decide), if_pos (by decide), h.p76]
  · show _ = some (if decide (cy < tK (qS Q)) = true then 1 else 0)
    have e2 : x2 = nI cy := f2 (Or.inr rfl)
    rw [if_neg (by decide), if_neg (by decide), if_neg (by decide), if_neg (by decide), if_neg (by decide), if_pos (by decide), ob_e h.f0, ob_e h.c0, ob_e h.S.filter, ob_e (gfI_o hc.1.2.2 rfl), ob_e h.S.fcl, ob_e (h.S.2.2.1.has _), ob_e (gzif _), ifd, e2, nI_toInt (by omega)]
    congr 1
    by_cases hk : cy < tK (qS Q)
    · rw [if_pos (by omega), if_pos hk]
    · rw [if_neg (by omega), if_neg hk]
  · show _ = some 1
    rw [if_neg (by decide), if_neg (by decide), if_neg (by decide), if_neg (by decide), if_neg (by decide), if_neg (by decide)]
  · show _ = some 1
    rw [if_neg (by decide), if_neg (by decide), if_neg (by decide), if_neg (by decide), if_neg (by decide), if_neg (by decide)]
theorem RK.exec (hO : gOK E) (h : RK E w l ad Q) (hG : GS (qS Q)) (hR : RM E w 1) {cm : gCmd} (hc : CO E w (ad 5) i (gst E (30 + cm.1)) x1 x2 x3 x4 g) (hf : cmF (qS Q).1 cm x1 x2 x3 x4 g) (hw : cmW (qS Q).1 cm) (hp : cmP (qS Q) cm = true) : ∃ w', X12_execute_f E l (ad 5 + 3 + 2 * i) w.1 = some w'.1 ∧ FS E JX w w' ∧ RK E w' l ad (cmD (qS Q) cm, Q.2) := by
  have hN := hO.1
  have h60 := hG.2.2.2.1
  have h8 := hG.2.2.2.2.2.1
  have hC6 := hG.2.1
  obtain ⟨q, cx, cy, cv, cb, cg⟩ := cm
  obtain ⟨f0, f1, f2, f3, f4⟩ := hf
  obtain ⟨hq, w1, w2, w3, w4⟩ := hw
  have hq : q < 9 := hq
  have w1 : q ≠ 0 → q ≠ 6 → q ≠ 7 → cx < (qS Q).1 := w1
  have w2 : vIn cv := w2
  have hin : ∀ kk : Option gS, (let x9 := nI (swm.getD q 0); if x9 = (1 : Int32) then ob (gfR w.1 l 10 0) fun x12 => ob (gfR w.1 (ad 5 + 3 + 2 * i) 1 5) fun x14 => ob (gcl w.1 x12 9) fun _ => ob (X11_appendRow_f E x12 x14 (0 : Int32) w.1) fun x16 => some x16 else if x9 = (2 : Int32) then ob (gfR w.1 l 10 0) fun x20 => ob (gfI w.1 (ad 5 + 3 + 2 * i) 1 1) fun x22 => ob (gcl w.1 x20 9) fun _ => ob (X11_column_f E w.1 x20 x22) fun x24 => ob (gfI w.1 (ad 5 + 3 + 2 * i) 1 2) fun x27 => ob (gfI w.1 (ad 5 + 3 + 2 * i) 1 3) fun x29 => ob (gcl w.1 x24 0) fun _ => ob (X1_put_f E x24 x27 x29 w.1) fun x31 => some x31 else if x9 = (3 : Int32) then ob (gfR w.1 l 10 0) fun x35 => ob (gcl w.1 x35 9) fun _ => ob (X11_filter_f E w.1 x35) fun x37 => ob (gfI w.1 (ad 5 + 3 + 2 * i) 1 1) fun x40 => ob (gfI w.1 (ad 5 + 3 + 2 * i) 1 3) fun x42 => ob (gcl w.1 x37 3) fun _ => ob (X4_add_f E x37 x40 x42 (-1 : Int32) w.1) fun x44 => some x44 else if x9 = (4 : Int32) then ob (gfR w.1 l 10 0) fun x48 => ob (gcl w.1 x48 9) fun _ => ob (X11_filter_f E w.1 x48) fun x50 => ob (gfI w.1 (ad 5 + 3 + 2 * i) 1 1) fun x53 => ob (gfI w.1 (ad 5 + 3 + 2 * i) 1 3) fun x55 => ob (gcl w.1 x50 3) fun _ => ob (X4_add_f E x50 x53 x55 (0 : Int32) w.1) fun x57 => some x57 else if x9 = (5 : Int32) then ob (gfR w.1 l 10 0) fun x61 => ob (gcl w.1 x61 9) fun _ => ob (X11_filter_f E w.1 x61) fun x63 => ob (gfI w.1 (ad 5 + 3 + 2 * i) 1 1) fun x66 => ob (gfI w.1 (ad 5 + 3 + 2 * i) 1 3) fun x68 => ob (gcl w.1 x63 3) fun _ => ob (X4_add_f E x63 x66 x68 (1 : Int32) w.1) fun x70 => some x70 else if x9 = (6 : Int32) then ob (gfR w.1 l 10 0) fun x74 => ob (gcl w.1 x74 9) fun _ => ob (X11_filter_f E w.1 x74) fun x76 => ob (gfI w.1 (ad 5 + 3 + 2 * i) 1 2) fun x79 => ob (gcl w.1 x76 3) fun _ => ob (X4_remove_f E x76 x79 w.1) fun x81 => some x81 else if x9 = (7 : Int32) then ob (gfI w.1 (ad 5 + 3 + 2 * i) 1 1) fun x85 => ob (gfI w.1 (ad 5 + 3 + 2 * i) 1 4) fun x87 => if x87 = 0 then X12_execute_117 E (1 : Int32) x85 l w.1 else X12_execute_117 E (0 : Int32) x85 l w.1 else if x9 = (8 : Int32) then ob (gfR w.1 l 10 0) fun x91 => ob (gcl w.1 x91 9) fun _ => ob (X11_deleteSelectedRows_f E x91 w.1) fun x93 => some x93.2 else if x9 = (9 : Int32) then ob (gfR w.1 l 10 0) fun x97 => ob (gfI w.1 (ad 5 + 3 + 2 * i) 1 1) fun x99 => ob (gcl w.1 x97 9) fun _ => ob (X11_column_f E w.1 x97 x99) fun x101 => ob (gcl w.1 x101 0) fun _ => ob (X1_dropStale_f E x101 w.1) fun x104 => some x104 else some w.1) = kk → X12_execute_f E l (ad 5 + 3 + 2 * i) w.1 = kk := by
    intro kk hkk
    unfold X12_execute_f X12_execute
    exact (cm_in hO hc hq _).trans hkk
  obtain rfl | rfl | rfl | rfl | rfl | rfl | rfl | rfl | rfl : q = 0 ∨ q = 1 ∨ q = 2 ∨ q = 3 ∨ q = 4 ∨ q = 5 ∨ q = 6 ∨ q = 7 ∨ q = 8 := by omega
  · have hlt : tR (qS Q) < 60 := of_decide_eq_true hp
    have g0 : ∀ j, j < (qS Q).1 → g j = cg j := f0 rfl
    obtain ⟨w4', e4, F4, S4⟩ := RS.ap (z := cg) (f0 := 0) (x := 1) hN h.S hC6 (by decide) (fun c hcc => by rw [hG.2.2.1 c hcc]; exact hlt) (fun c hcc => by rw [Nat.zero_add]; exact w4 c hcc rfl) (by omega) (cl := ad 5 + 4 + 2 * i) (fun w' hF c hcc => by
      rw [(hc.2.fr hF (fun z => by cases (z : (23 : Nat) = 0))).2.2.ld (show 0 + c < 6 by omega) (by decide), Nat.zero_add, g0 c hcc]) hR
    rw [mapC_z] at S4
    refine ⟨w4', hin _ ?_, F4.mono JX0, h.st F4 S4⟩
    show (if nI (swm.getD 0 0) = (1 : Int32) then _ else _) = _
    rw [if_pos (by decide), ob_e h.f0, ob_e (gfR_o hc.1.2.2 rfl), ob_e h.c0]
    exact (ob_e e4).trans rfl
  · have hlt : cy < tR (qS Q) := of_decide_eq_true hp
    have hcx := w1 (by decide) (by decide) (by decide)
    have e1 : x1 = nI cx := f1 (Or.inl rfl)
    have e2 : x2 = nI cy := f2 (Or.inl rfl)
    have e3 : x3 = cv := f3 (Or.inl rfl)
    obtain ⟨w2', e5, F2, h2⟩ := h.putv hN hG hR hcx hlt w2
    refine ⟨w2', hin _ ?_, F2.mono JX0, h2⟩
    show (if nI (swm.getD 1 0) = (1 : Int32) then _ else if nI (swm.getD 1 0) = (2 : Int32) then _ else _) = _
    rw [if_neg (by decide), if_pos (by decide), ob_e h.f0, ob_e (gfI_o hc.1.2.2 rfl), ob_e h.c0, e1, ob_e (h.S.column (by omega)), ob_e (gfI_o hc.1.2.2 rfl), ob_e (gfI_o hc.1.2.2 rfl), ob_e (h.S.ccl (by omega)), e2, e3, ob_e e5]
  · have hcx := w1 (by decide) (by decide) (by decide)
    have e1 : x1 = nI cx := f1 (Or.inr (Or.inl rfl))
    have e4 : x4 = if cb = true then 1 else 0 := f4 rfl
    have main : ∀ d : Int32, decide (¬ d = 0) = (!cb) → ∃ w', X12_execute_117 E d (nI cx) l w.1 = some w'.1 ∧ FS E JX w w' ∧ RK E w' l ad (srtT (qS Q) cx (!cb), Q.2) := by
      intro d hd
      obtain ⟨w2', e5, F2, h2⟩ := h.srtr hN hG hcx d
      rw [hd] at h2
      refine ⟨w2', ?_, F2, h2⟩
      unfold X12_execute_117
      rw [ob_e h.cl, ob_e e5]
    cases cb with
    | true =>
      obtain ⟨w2', e5, F2, h2⟩ := main 0 (by decide)
      refine ⟨w2', hin _ ?_, F2, h2⟩
      show (if nI (swm.getD 2 0) = (1 : Int32) then _ else if nI (swm.getD 2 0) = (2 : Int32) then _ else if nI (swm.getD 2 0) = (3 : Int32) then _ else if nI (swm.getD 2 0) = (4 : Int32) then _ else if nI (swm.getD 2 0) = (5 : Int32) then _ else if nI (swm.getD 2 0) = (6 : Int32) then _ else if nI (swm.getD 2 0) = (7 : Int32) then _ else _) = _
      rw [if_neg (by decide), if_neg (by decide), if_neg (by decide), if_neg (by decide), if_neg (by decide), if_neg (by decide), if_pos (by decide), ob_e (gfI_o hc.1.2.2 rfl), ob_e (gfI_o hc.1.2.2 rfl), e4, e1, if_neg (by decide)]
      exact e5
    | false =>
      obtain ⟨w2', e5, F2, h2⟩ := main 1 (by decide)
      refine ⟨w2', hin _ ?_, F2, h2⟩
      show (if nI (swm.getD 2 0) = (1 : Int32) then _ else if nI (swm.getD 2 0) = (2 : Int32) then _ else if nI (swm.getD 2 0) = (3 : Int32) then _ else if nI (swm.getD 2 0) = (4 : Int32) then _ else if nI (swm.getD 2 0) = (5 : Int32) then _ else if nI (swm.getD 2 0) = (6 : Int32) then _ else if nI (swm.getD 2 0) = (7 : Int32) then _ else _) = _
      rw [if_neg (by decide), if_neg (by decide), if_neg (by decide), if_neg (by decide), if_neg (by decide), if_neg (by decide), if_pos (by decide), ob_e (gfI_o hc.1.2.2 rfl), ob_e (gfI_o hc.1.2.2 rfl), e4, e1, if_pos (by decide)]
      exact e5
  · have hlt : tK (qS Q) < 8 := of_decide_eq_true hp
    have e1 : x1 = nI cx := f1 (Or.inr (Or.inr (Or.inl rfl)))
    have e3 : x3 = cv := f3 (Or.inr (Or.inl rfl))
    obtain ⟨w2', e5, F2, h2⟩ := h.addc hG (c := cx) (v := cv) (d := -1) hlt
    refine ⟨w2', hin _ ?_, F2.mono JX0, h2⟩
    show (if nI (swm.getD 3 0) = (1 : Int32) then _ else if nI (swm.getD 3 0) = (2 : Int32) then _ else if nI (swm.getD 3 0) = (3 : Int32) then _ else _) = _
    rw [if_neg (by decide), if_neg (by decide), if_pos (by decide), ob_e h.f0, ob_e h.c0, ob_e h.S.filter, ob_e (gfI_o hc.1.2.2 rfl), ob_e (gfI_o hc.1.2.2 rfl), ob_e h.S.fcl, e1, e3, ob_e e5]
  · have hlt : tK (qS Q) < 8 := of_decide_eq_true hp
    have e1 : x1 = nI cx := f1 (Or.inr (Or.inr (Or.inr (Or.inl rfl))))
    have e3 : x3 = cv := f3 (Or.inr (Or.inr (Or.inl rfl)))
    obtain ⟨w2', e5, F2, h2⟩ := h.addc hG (c := cx) (v := cv) (d := 0) hlt
    refine ⟨w2', hin _ ?_, F2.mono JX0, h2⟩
    show (if nI (swm.getD 4 0) = (1 : Int32) then _ else if nI (swm.getD 4 0) = (2 : Int32) then _ else if nI (swm.getD 4 0) = (3 : Int32) then _ else if nI (swm.getD 4 0) = (4 : Int32) then _ else _) = _
    rw [if_neg (by decide), if_neg (by decide), if_neg (by decide), if_pos (by decide), ob_e h.f0, ob_e h.c0, ob_e h.S.filter, ob_e (gfI_o hc.1.2.2 rfl), ob_e (gfI_o hc.1.2.2 rfl), ob_e h.S.fcl, e1, e3, ob_e e5]
  · have hlt : tK (qS Q) < 8 := of_decide_eq_true hp
    have e1 : x1 = nI cx := f1 (Or.inr (Or.inr (Or.inr (Or.inr (Or.inl rfl)))))
    have e3 : x3 = cv := f3 (Or.inr (Or.inr (Or.inr rfl)))
    obtain ⟨w2', e5, F2, h2⟩ := h.addc hG (c := cx) (v := cv) (d := 1) hlt
    refine ⟨w2', hin _ ?_, F2.mono JX0, h2⟩
    show (if nI (swm.getD 5 0) = (1 : Int32) then _ else if nI (swm.getD 5 0) = (2 : Int32) then _ else if nI (swm.getD 5 0) = (3 : Int32) then _ else if nI (swm.getD 5 0) = (4 : Int32) then _ else if nI (swm.getD 5 0) = (5 : Int32) then _ else _) = _
    rw [if_neg (by decide), if_neg (by decide), if_neg (by decide), if_neg (by decide), if_pos (by decide), ob_e h.f0, ob_e h.c0, ob_e h.S.filter, ob_e (gfI_o hc.1.2.2 rfl), ob_e (gfI_o hc.1.2.2 rfl), ob_e h.S.fcl, e1, e3, ob_e e5]
  · have hlt : cy < tK (qS Q) := of_decide_eq_true hp
    have e2 : x2 = nI cy := f2 (Or.inr rfl)
    obtain ⟨w2', e5, F2, h2⟩ := h.remc hN (q := cy) hlt
    refine ⟨w2', hin _ ?_, F2.mono JX0, h2⟩
    show (if nI (swm.getD 6 0) = (1 : Int32) then _ else if nI (swm.getD 6 0) = (2 : Int32) then _ else if nI (swm.getD 6 0) = (3 : Int32) then _ else if nI (swm.getD 6 0) = (4 : Int32) then _ else if nI (swm.getD 6 0) = (5 : Int32) then _ else if nI (swm.getD 6 0) = (6 : Int32) then _ else _) = _
    rw [if_neg (by decide), if_neg (by decide), if_neg (by decide), if_neg (by decide), if_neg (by decide), if_pos (by decide), ob_e h.f0, ob_e h.c0, ob_e h.S.filter, ob_e (gfI_o hc.1.2.2 rfl), ob_e h.S.fcl, e2, ob_e e5]
  · obtain ⟨w2', e5, F2, S2⟩ := RS.delsel hN h.S hG
    refine ⟨w2', hin _ ?_, F2.mono JX0, h.st F2 S2⟩
    show (if nI (swm.getD 7 0) = (1 : Int32) then _ else if nI (swm.getD 7 0) = (2 : Int32) then _ else if nI (swm.getD 7 0) = (3 : Int32) then _ else if nI (swm.getD 7 0) = (4 : Int32) then _ else if nI (swm.getD 7 0) = (5 : Int32) then _ else if nI (swm.getD 7 0) = (6 : Int32) then _ else if nI (swm.getD 7 0) = (7 : Int32) then _ else if nI (swm.getD 7 0) = (8 : Int32) then _ else _) = _
    rw [if_neg (by decide), if_neg (by decide), if_neg (by decide), if_neg (by decide), if_neg (by decide), if_neg (by decide), if_neg (by decide), if_pos (by decide), ob_e h.f0, ob_e h.c0, ob_e e5]
  · have hcx := w1 (by decide) (by decide) (by decide)
    have e1 : x1 = nI cx := f1 (Or.inr (Or.inr (Or.inr (Or.inr (Or.inr rfl)))))
    obtain ⟨w2', e5, F2, h2⟩ := h.cmpc hN hG hR (c := cx) hcx
    refine ⟨w2', hin _ ?_, F2.mono JX0, h2⟩
    show (if nI (swm.getD 8 0) = (1 : Int32) then _ else if nI (swm.getD 8 0) = (2 : Int32) then _ else if nI (swm.getD 8 0) = (3 : Int32) then _ else if nI (swm.getD 8 0) = (4 : Int32) then _ else if nI (swm.getD 8 0) = (5 : Int32) then _ else if nI (swm.getD 8 0) = (6 : Int32) then _ else if nI (swm.getD 8 0) = (7 : Int32) then _ else if nI (swm.getD 8 0) = (8 : Int32) then _ else if nI (swm.getD 8 0) = (9 : Int32) then _ else _) = _
    rw [if_neg (by decide), if_neg (by decide), if_neg (by decide), if_neg (by decide), if_neg (by decide), if_neg (by decide), if_neg (by decide), if_neg (by decide), if_pos (by decide), ob_e h.f0, ob_e (gfI_o hc.1.2.2 rfl), ob_e h.c0, e1, ob_e (h.S.column (by omega)), ob_e (h.S.ccl (by omega)), ob_e e5]
end KZ
section KZ2
variable {E : gE} {l : Nat} {ad : Nat → Nat} {Q : gQ}
theorem rs_loop2 (hO : gOK E) {C mm : Nat} {f : Nat → gCmd} (hm20 : mm ≤ 20) (hf : ∀ i, i < mm → cmW C (f i)) {nu co ro er of : Int32} : ∀ (k i m : Nat) (w : gWd) (S : gT), i + k = mm → k < m → RK E w l ad (S, Q.2) → GS S → S.1 = C → RM E w 1 → Ob w (10, 23, 0) (ad 5) 7 [.ref (ad 4), .int er, .int of, .int nu, .int co, .int ro, .ref (ad 5 + 1), .ref (ad 5 + 2), .int (nI mm)] → PK E w (ad 5) mm C f →
    ∃ w', X12_runScript_47 E m l (nI i) w.1 = some (Sum.inr (nI (rnS f k i S).1), w'.1) ∧ FS E JX w w' ∧ RK E w' l ad ((rnS f k i S).2, Q.2) := by
  intro k
  induction k with
  | zero =>
    intro i m w S hi hm h hG hC hR hOb hK
    obtain ⟨m, rfl⟩ : ∃ q, m = q + 1 := ⟨m - 1, by omega⟩
    refine ⟨w, ?_, FS.rf, h⟩
    have hcc : X9_commandCount_f E w.1 (ad 5) = some (nI mm) := by
      unfold X9_commandCount_f X9_commandCount
      rw [ob_e (gfI_o hOb.2.2 rfl)]
    show X12_runScript_47_s E (X12_runScript_47 E m) l (nI i) w.1 = _
    unfold X12_runScript_47_s X12_runScript_91
    rw [ob_e h.f5, ob_e h.clQ, ob_e hcc, if_pos (nI_le (by omega) (by omega))]
    rfl
  | succ k ih =>
    intro i m w S hi hm h hG hC hR hOb hK
    obtain ⟨m, rfl⟩ : ∃ q, m = q + 1 := ⟨m - 1, by omega⟩
    obtain ⟨hk9, x1, x2, x3, x4, g, hc, hd⟩ := hK.2.2 i (by omega)
    obtain ⟨⟨kt, k1, k2⟩, -, -⟩ := id hK
    subst hC
    have hw := hf i (by omega)
    have hps := h.poss hO hG hc hd hw
    have hcc : X9_commandCount_f E w.1 (ad 5) = some (nI mm) := by
      unfold X9_commandCount_f X9_commandCount
      rw [ob_e (gfI_o hOb.2.2 rfl)]
    have hcm : X9_command_f E w.1 (ad 5) (nI i) = some (ad 5 + 3 + 2 * i) := by
      unfold X9_command_f X9_command
      rw [ob_e (gfR_o hOb.2.2 rfl), ob_e (k1.2.2.ld (show i < 20 by omega) (by decide) (k2 i (by omega)))]
    have hrn : rnS f (k + 1) i S = if cmP S (f i) = true then rnS f k (i + 1) (cmD S (f i)) else (i, S) := rfl
    by_cases hp : cmP S (f i) = true
    · obtain ⟨w1, e1, F1, h1⟩ := h.exec hO hG hR hc hd hw hp
      obtain ⟨g1, g2⟩ := cmD_ok hG hw hp
      obtain ⟨w2, e2, F2, h2⟩ := ih (i + 1) m w1 (cmD S (f i)) (by omega) (by omega) h1 g1 g2 (F1.2.2.2 _ hR) (hOb.fr F1 JXno) (hK.fr F1 (fun κ i _ => JXno))
      rw [hrn, if_pos hp]
      refine ⟨w2, ?_, F1.trans F2, h2⟩
      show X12_runScript_47_s E (X12_runScript_47 E m) l (nI i) w.1 = _
      unfold X12_runScript_47_s
      rw [ob_e h.f5, ob_e h.clQ, ob_e hcc, if_neg (nI_ge (by omega) (by omega)), ob_e h.f5, ob_e h.clQ, ob_e hcm, ob_e h.cl, ob_e hps, if_pos hp, if_neg (by decide), ob_e h.f5, ob_e h.clQ, ob_e hcm, ob_e h.cl, ob_e e1, ← nI_succ]
      exact e2
    · rw [hrn, if_neg hp]
      refine ⟨w, ?_, FS.rf, h⟩
      show X12_runScript_47_s E (X12_runScript_47 E m) l (nI i) w.1 = _
      unfold X12_runScript_47_s X12_runScript_91
      rw [ob_e h.f5, ob_e h.clQ, ob_e hcc, if_neg (nI_ge (by omega) (by omega)), ob_e h.f5, ob_e h.clQ, ob_e hcm, ob_e h.cl, ob_e hps, if_neg hp, if_pos rfl]
theorem K_runScript (hO : gOK E) {w : gWd} (h : RK E w l ad Q) (hG : GQ Q) (hR : RM E w 1) {L : Nat} (hL : L ≤ qN Q) {q : Nat × (Nat → gCmd)} {s' : Nat} (hp : pScr (qB Q) L (qS Q).1 20 (tS (qB Q) L 0) = .inr (q, s')) :
    XA E w l ad ((rnS q.2 q.1 0 (qS Q)).2, (qC (qErr (qI Q 0 (qB Q)) (0, -1)) (qS Q)).2) (Sum.inr (nI (rnS q.2 q.1 0 (qS Q)).1)) (X12_runScript_f E l (nI L) w.1) := by
  have hN := hO.1
  obtain ⟨v1, v2⟩ := pScr_v hG.1.1 20 _ hp
  obtain ⟨w1, e1, F1, P1, I1, -, nu, ro, O1, K1⟩ := h.hPZ.script hO h.hIN hL hG.1.1 hG.1.2.1 hp
  have h1 := h.rd F1 I1 P1
  obtain ⟨w2, e2, F2, h2⟩ := h1.clr
  have O2 := O1.fr F2 J22a
  have K2 := K1.fr F2 (fun κ i _ z => by cases (congrArg Prod.fst z : (23 : Nat) = 22))
  have hR2 : RM E w2 1 := F2.2.2.2 _ (F1.2.2.2 _ hR)
  obtain ⟨w3, e3, F3, h3⟩ := h2.rcd hN hG.1 hR2
  have noh : ∀ κ i, ¬ Jh (κ, 23, i) := fun κ i z => by
    have z' : (23 : Nat) = 24 ∨ (2 ≤ 23 ∧ 23 < 10) := z
    omega
  obtain ⟨w4, e4, F4, h4⟩ := rs_loop2 (Q := qC (qErr (qI Q 0 (qB Q)) (0, -1)) (qS Q)) hO v1 v2 q.1 0 (gN E) w3 (qS Q) (by omega) (by omega) h3 hG.1 rfl (F3.2.2.2 _ hR2) (O2.fr F3 (noh _ _)) (K2.fr F3 (fun κ i _ => noh κ i))
  refine ⟨w4, ?_, ((F1.mono JKP).trans ((F2.mono (fun t z => JKP t (J22P t z))).trans ((F3.mono JKh).trans (F4.mono JKso)))).kk h.pos, h4⟩
  unfold X12_runScript_f X12_runScript
  rw [ob_e h.cl, ob_e (h.len hG hL), gtry_r, ob_e h.f5, ob_e h.f0, ob_e h.c0, ob_e h.S.columns, ob_e h.clQ, ob_e e1]
  rw [ob_e h1.f4, ob_e h1.hIN.icl, ob_e e2, if_neg i10, ob_e h2.f3, ob_e h2.f0, ob_e h2.clH, ob_e e3]
  exact e4
theorem K_runScriptF (hO : gOK E) {w : gWd} (h : RK E w l ad Q) (hG : GQ Q) {L : Nat} (hL : L ≤ qN Q) {c o : Nat} (hp : pScr (qB Q) L (qS Q).1 20 (tS (qB Q) L 0) = .inl (c, o)) :
    XA E w l ad (qErr (qI Q 0 (qB Q)) (nI c, nI o)) (Sum.inr (-1)) (X12_runScript_f E l (nI L) w.1) := by
  obtain ⟨w1, e1, F1, P1, I1⟩ := h.hPZ.scriptF hO h.hIN hL hG.1.1 hG.1.2.1 hp
  have h1 := h.rd F1 I1 P1
  obtain ⟨w2, e2, F2, h2⟩ := h1.clr
  refine ⟨w2, ?_, ((F1.mono JKP).trans (F2.mono (fun t z => JKP t (J22P t z)))).kk h.pos, h2⟩
  unfold X12_runScript_f X12_runScript
  rw [ob_e h.cl, ob_e (h.len hG hL), gtry_r, ob_e h.f5, ob_e h.f0, ob_e h.c0, ob_e h.S.columns, ob_e h.clQ, ob_e e1]
  rw [ob_e h1.f4, ob_e h1.hIN.icl, ob_e e2, if_pos rfl]
theorem K_runScriptE {w : gWd} (h : RK E w l ad Q) (hG : GQ Q) (hR : RM E w 1) {a : Int32} (ha : ¬ lOK (qN Q) a) : XA E w l ad Q (Sum.inl 1) (X12_runScript_f E l a w.1) := by
  refine ⟨thW w, ?_, KK.th h.pos, h.th⟩
  unfold X12_runScript_f X12_runScript
  rw [ob_e h.cl, ob_e (h.lenF hG hR ha), gtry_l]
end KZ2
