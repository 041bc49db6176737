/-! the law: an act, whole -/
theorem nxt_N {Q : gQ} (o : Option gT) : qN (nxt Q o) = qN Q := by
  cases o with
  | none => rfl
  | some S' => rfl
theorem qs_rf (A : gQ) : qs A A := ⟨rfl, rfl, rfl, rfl⟩
theorem nxt_G {Q : gQ} (hG : GQ Q) {o : Option gT} (h : ∀ S', o = some S' → GS S') : GQ (nxt Q o) := by
  cases o with
  | none => exact hG
  | some S' => exact hG.chg (h S' rfl)
section AC4
variable {E : gE} {l b : Nat} {ad : Nat → Nat} {Q : gQ} {w : gWd} {y : Nat} {g : Nat → Int32} {o : Option gT}
theorem LG.ac {res : Option (Int32 × gS)} (hG : GQ Q) (hq : qN Q = 0) (ho : ∀ S', o = some S' → GS S') (hA : ArI E w tL b 6 g) (hz : ∀ j, j < 6 → g j = 0) (h : LG E l ad (nxt Q o) 1 w res) : AC E l ad b Q o w res := by
  obtain ⟨w', e, K, h'⟩ := h
  exact ⟨w', _, g, e, (KK.kp K).le (Nat.zero_le _), h', hA.fp (KK.kp (P := fun _ => False) K).1 (fun z => z), hz, qs_rf _, (nxt_N o).trans hq, nxt_G hG ho⟩
/-- a row is added, or all that is selected goes -/
theorem ca_83 (hO : gOK E) (hC4 : (qS Q).1 ≤ 4) (hG : GQ Q) (hq : qN Q = 0) (h : RK E w l ad Q) (hR : RM E w (y + 3500)) (hA : ArI E w tL b 6 g) (hz : ∀ j, j < 6 → g j = 0) (l4 : Int32) :
    AC E l ad b Q (if tR (qS Q) = 60 then some (delT (qS Q)) else some (apT (qS Q) (aR l4))) w (L_act_83 E l b l4 (nI (qS Q).1) (nI (tR (qS Q))) w.1) := by
  have hN := hO.1
  have hGS := hG.1
  have hC6 := hGS.2.1
  have h60 := hGS.2.2.2.1
  have e60 : (nI (tR (qS Q)) = (60 : Int32)) ↔ tR (qS Q) = 60 := nI_eqI (b := 60) (by omega) (by omega)
  unfold L_act_83
  by_cases c : tR (qS Q) = 60
  · rw [if_pos c]
    refine LG.ac hG hq (fun S' e => by cases e; exact hGS.del.1) hA hz ?_
    show LG E l ad (qC Q (delT (qS Q))) 1 w _
    have hw : RW E l ad Q w := ⟨h, hR.dn (by omega)⟩
    refine LG.it (e60.mpr c) ?_
    refine LG.two hw (K_deleteSelected hN h hG hw.2) (fun _ z => z) fun w1 _ h1 => ?_
    refine LG.ie ?_ (LG.ret h1)
    rw [fa_lt, nI_toInt (by omega)]
    show ¬ (_ < (0 : Int))
    omega
  · rw [if_neg c, if_neg (fun z => c (e60.mp z))]
    have hw : 0 < w.1.2.1 := h.pos
    obtain ⟨w1, w2, e1, e2, K2, F2, B2⟩ := sb_new (E := E) (y := y + 3496) hR hw
    have hR2 := K2 (y + 3496) hR
    obtain ⟨w3, mm, m', e3, F3, B3, K3⟩ := ar_go (l := l) (b := b) (l4 := l4) (R := tR (qS Q)) (y := y + 400) hO hC6 (qS Q).1 0 (gN E) w2 [] 16 (by omega) (by omega) F2 B2 (hR2.dn (by omega)) (by show 0 + 3 * _ ≤ 900; omega)
    have hR3 := K3 (y + 400) (hR2.dn (by omega))
    rw [List.nil_append] at B3
    obtain ⟨w4, Q', g', e4, F4, K4, h4, A4, z4, q4, n4, G4⟩ := ar_fin (y := y) (m := m') hO hG hq (by omega) h hA hz F3 B3 (hR3.dn (by omega))
    refine ⟨w4, Q', g', ?_, ⟨F4, fun y hy => K4 y ?_⟩, h4, A4, z4, q4, n4, G4⟩
    · rw [ob_e e1]
      show ob (J4_init_da8c8_f E w.1.2.1 w1.1) _ = _
      rw [ob_e e2]
      exact e3.trans e4
    · have h2 := K2 (y + 3496) hy
      exact K3 (y + 340) (h2.dn (by omega))
/-- an act answers 1, and does to the table what aT says -/
theorem K_act (hO : gOK E) (hI : IS (qS Q)) (hG : GQ Q) (hq : qN Q = 0) (h : RK E w l ad Q) (hR : RM E w (y + 3500)) (hA : ArI E w tL b 6 g) (hz : ∀ j, j < 6 → g j = 0) (x : Int32) :
    AC E l ad b Q (aT (qS Q) x) w (L_act_f E l b x w.1) := by
  have hN := hO.1
  have hGS := hG.1
  have hC := hGS.1
  have hC6 := hGS.2.1
  have h60 := hGS.2.2.2.1
  have hk := mo_lt x (n := 26) (by omega)
  have hw : RW E l ad Q w := ⟨h, hR.dn (by omega)⟩
  have m26 : L_most_f E w.1 x (26 : Int32) = some (nI (mo x 26)) := K_most x (n := 26) (by omega) (by omega)
  have hL : L_act_f E l b x w.1 = L_act_70 E l b (nI (mo x 26)) (x >>> ((4 : Int32) &&& 31)) (nI (qS Q).1) (nI (tR (qS Q))) (nI (mo (x >>> ((4 : Int32) &&& 31)) (qS Q).1)) (aV (x >>> ((4 : Int32) &&& 31))) w.1 := by
    unfold L_act_f L_act
    rw [ob_e m26, ob_e h.cl, ob_e (K_columnCount hN h hG), ob_e h.cl, ob_e (K_rowCount hN h hG), ob_e (K_most (x >>> ((4 : Int32) &&& 31)) (n := (qS Q).1) (by omega) (by omega))]
    generalize x >>> ((4 : Int32) &&& 31) = l4
    have m3 := K_most (E := E) (σ := w.1) (l4 >>> ((2 : Int32) &&& 31)) (n := 3) (by omega) (by omega)
    have m3' : L_most_f E w.1 (l4 >>> ((2 : Int32) &&& 31)) (3 : Int32) = some (nI (mo (l4 >>> ((2 : Int32) &&& 31)) 3)) := m3
    have m4 : L_most_f E w.1 l4 (400 : Int32) = some (nI (mo l4 400)) := K_most l4 (n := 400) (by omega) (by omega)
    have m7 : L_most_f E w.1 (l4 >>> ((3 : Int32) &&& 31)) (7 : Int32) = some (nI (mo (l4 >>> ((3 : Int32) &&& 31)) 7)) := K_most _ (n := 7) (by omega) (by omega)
    have hlt := mo_lt (l4 >>> ((2 : Int32) &&& 31)) (n := 3) (by omega)
    have ez : (nI (mo (l4 >>> ((2 : Int32) &&& 31)) 3) = (0 : Int32)) ↔ mo (l4 >>> ((2 : Int32) &&& 31)) 3 = 0 := nI_eqI (b := 0) (by omega) (by omega)
    rw [ob_e m3']
    by_cases c : mo (l4 >>> ((2 : Int32) &&& 31)) 3 = 0
    · rw [if_pos (ez.mpr c), ob_e m4]
      unfold aV
      rw [if_pos c]
    · rw [if_neg (fun z => c (ez.mp z)), ob_e m7]
      unfold aV
      rw [if_neg c]
  rw [hL]
  unfold aT
  by_cases c : mo x 26 < 6 ∨ tR (qS Q) = 0
  · have e : aDf (mo x 26) (x >>> ((4 : Int32) &&& 31)) (qS Q) = if tR (qS Q) = 60 then some (delT (qS Q)) else some (apT (qS Q) (aR (x >>> ((4 : Int32) &&& 31)))) := by
      unfold aDf
      rw [if_pos c]
    rw [e]
    have h83 := ca_83 hO hI.2.1 hG hq h hR hA hz (x >>> ((4 : Int32) &&& 31))
    unfold L_act_70
    by_cases c1 : mo x 26 < 6
    · rw [if_pos (show nI (mo x 26) < (6 : Int32) from (lt_lit (k := 6) (by omega) (by omega)).mpr c1)]
      exact h83
    · rw [if_neg (show ¬ nI (mo x 26) < (6 : Int32) from fun z => c1 ((lt_lit (k := 6) (by omega) (by omega)).mp z))]
      rw [if_pos (show nI (tR (qS Q)) = (0 : Int32) by rw [c.resolve_left c1]; rfl)]
      exact h83
  · exact LG.ac hG hq (fun S' e => (aDf_ok hI e).1) hA hz (ca_70 hN hG hk c hw)
end AC4
