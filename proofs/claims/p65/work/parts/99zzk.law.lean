/-! the law answers 1 -/
theorem NW.bgr {E : gE} {J : Nat × Nat × Nat → Prop} {w w' : gWd} {c s c' s' : Nat} (h : NW E J w w' c s) (hb : BG E w (c' + c) (s' + s)) : BG E w' c' s' := h.bg (hb.le (Nat.le_of_eq (Nat.add_comm _ _)) (Nat.le_of_eq (Nat.add_comm _ _)))
section LWO
variable {E : gE} {l b a a0 n y : Nat} {ad : Nat → Nat} {w0 w : gWd} {g g0 : Nat → Int32} {C R : Nat}
theorem rep_IS {S : gT} {x : Nat → Nat → Int32} {q : Nat → Int32} (hC1 : 1 ≤ C) (hC : C ≤ 4) (hR : R ≤ 60) (hv : ∀ j, j < R * C → vIn (q j)) (hx : ∀ r c, vSm (x r c)) (hq : ∀ i c, i < R → c < C → q (i * C + c) = x i c) : IS (repT C R q S) := by
  refine ⟨(GS.rep hC1 (by omega) hR hv).1, hC, fun c hc p hp => ?_⟩
  have hc : c < C := hc
  have hp : (if c < C then repC C R c q else S.2.1 c).2.2 p = true := hp
  rw [if_pos hc] at hp
  obtain ⟨r, hr, rfl⟩ := (dcol_iff _ _ _).mp hp
  rw [hq r c hr hc]
  exact px_sm (hx r c)
theorem lw_fin (hO : gOK E) (hro : gro E a0 = true) (hg : gcs E a0 = .inl (0, n, .inl g)) (hn : n < 2 ^ 31) (hC1 : 1 ≤ C) (hC : C ≤ 4) (hR12 : R ≤ 12) (h0 : RK E w0 l ad gQ0) (hA0 : ArI E w0 tL b 6 g0) (hz : ∀ j, j < 6 → g0 j = 0) {mm m : Nat} (hF : FT E w0 w) (hB : SB E w w0.1.2.1 a mm (hdS C ++ tbS (tv n g) C R 0)) (hR : RM E w 330342) :
    ∃ w2 : gWd, L_law_62_s E (L_law_62 E m) a0 l b (nI C) (nI R) a (nI R) w.1 = some (1, w2.1) := by
  have hN := hO.1
  have hlen : (hdS C ++ tbS (tv n g) C R 0).length ≤ 8 + 13 * 12 := by
    have h1 := tbS_len (x := tv n g) hC R 0
    rw [List.length_append, show (hdS C).length = 8 from rfl]
    omega
  have hl : lt128 (hdS C ++ tbS (tv n g) C R 0) := lt128_ap (hdS_lt (by omega)) (tbS_lt (fun r i => tv_sm n g r i) R 0)
  obtain ⟨w1, sa, e1, K1, F1, hS1⟩ := hB.toS hF (by omega) (show RM E w (330002 + 340) from hR)
  have hR1 := K1 330002 hR
  have h1 : RK E w1 l ad gQ0 := h0.tl (F1.mono (fun _ z => z.elim))
  have A1 : ArI E w1 tL b 6 g0 := ArI.fr (E := E0 E) hA0 F1 (fun z => z)
  obtain ⟨w2, e2, K2, B2⟩ := K_say hN hl (by omega) hA0.2.1 hS1 (BF.nil h1 A1 hz rfl)
  obtain ⟨w3, g3, u, nn, e3, K3, h3, hnn, hn7, A3, z3, hu⟩ := K_end hN hl (by omega) B2
  have hR3 : RM E w3 330002 := K3.2 330002 (K2.2 330002 hR1)
  have hG3 : GQ (qI gQ0 nn u) := gQ0_ok.inp hn7
  obtain ⟨q, hp, hq⟩ := table_ok (u := u) (L := (hdS C ++ tbS (tv n g) C R 0).length) (x := tv n g) (C := C) (R := R) hC1 (by omega) (by omega) (fun r i => tv_sm n g r i) ⟨by omega, fun i hi => by rw [Nat.zero_add]; exact hu i hi⟩ rfl
  obtain ⟨-, -, -, hv⟩ := pTable_v hp
  obtain ⟨w4, e4, K4, h4⟩ := K_loadTable hO h3 hG3 (hR3.dn (by omega)) (show (hdS C ++ tbS (tv n g) C R 0).length ≤ nn from hnn) hp
  have hI : IS (repT C R q (qS (qI gQ0 nn u))) := rep_IS hC1 hC (by omega) hv (fun r c => tv_v n g r c) hq
  have hG4 := hG3.load (e := (0, -1)) hI.1
  have F4 := (KK.kp (P := fun _ => False) K4).1
  obtain ⟨w5, e5⟩ := lw_181 (a0 := a0) (b := b) hO 36 0 (gN E) w4 _ (by omega) (by omega) ⟨h4, hI, hG4, rfl, ⟨g3, A3.fp F4 (fun z => z), z3⟩, ⟨n, g, hn, hro, hg⟩, (K4.2 _ hR3).dn (by omega)⟩
  refine ⟨w5, ?_⟩
  unfold L_law_62_s
  rw [if_pos (nI_le (Nat.le_refl _) (by omega)), ob_e hB.cl, ob_e e1]
  show ob (L_say_f E l b sa w1.1) _ = _
  rw [ob_e e2, ob_e e3]
  show ob (gcl w3.1 l 10) _ = _
  rw [ob_e h3.cl]
  show ob (X12_loadTable_f E l (nI (hdS C ++ tbS (tv n g) C R 0).length) w3.1) _ = _
  rw [ob_e e4, gtry_r, if_pos rfl, ob_e h4.cl, ob_e (K_undoableCount hN h4 hG4)]
  exact (if_pos (show nI 0 = (0 : Int32) from rfl)).trans e5
theorem law_ok (hO : gOK E) (hro : gro E a0 = true) (hg : gcs E a0 = .inl (0, n, .inl g)) (hn : n < 2 ^ 31) (hb : BG E w (400000 + 135145 + 355 + 1) (2400000 + 4323329 + 6771 + 11)) (hcp : CP w) : ∃ w' : gWd, L_law E a0 w.1 = some (1, w'.1) := by
  have hN := hO.1
  obtain ⟨w1, e1, N1, O1⟩ := mkO hb 10 [.null, .null, .int 0, .null, .null, .null, .null, .int 0, .null, .null, .null] rfl (10, 25, 0)
  obtain ⟨w2, e2, K2, R2⟩ := K_init (x := 400000) hO (N1.bgr hb) (N1.cp hcp) O1 N1.2.1
  have hw2 := K2.pos
  obtain ⟨e3, A3⟩ := fp_naI (n := 6) (u := 1) (v := 399999) R2 (by omega) (by omega) hw2 (by omega)
  obtain ⟨F3, P3⟩ := fp_new (E := E) (P := fun _ => False) (n := 6) (u := 1) hw2 (.inl (gcy E 0, 6, .inl fun _ => 0)) (by omega) (by omega)
  have e3 : gnaI E w2.1 (6 : Int32) = some (w2.1.2.1, (wNew w2 tL (.inl (gcy E 0, 6, .inl fun _ => 0)) 6 w2.2.2).1) := e3
  have hs3 : (wNew w2 tL (.inl (gcy E 0, 6, .inl fun _ => 0)) 6 w2.2.2).1.2.1 = w2.1.2.1 + 1 := rfl
  have K3 : RK E (wNew w2 tL (.inl (gcy E 0, 6, .inl fun _ => 0)) 6 w2.2.2) w.1.2.1 (adK w.1.2.1) gQ0 := K2.tl (F3.mono (fun _ z => z.elim))
  have R3 := P3.2 399999 R2
  generalize wNew w2 tL (.inl (gcy E 0, 6, .inl fun _ => 0)) 6 w2.2.2 = w3 at e3 A3 F3 P3 hs3 K3 R3
  have hw3 : 0 < w3.1.2.1 := by omega
  have c0 : L_cell_f E w3.1 a0 (0 : Int32) = some (cv n g 0) := K_cell hro hg hn (i := 0) (by omega)
  have m4 : L_most_f E w3.1 (cv n g 0) (4 : Int32) = some (nI (mo (cv n g 0) 4)) := K_most _ (n := 4) (by omega) (by omega)
  have m12 : L_most_f E w3.1 (cv n g 0 >>> ((2 : Int32) &&& 31)) (12 : Int32) = some (nI (mo (cv n g 0 >>> ((2 : Int32) &&& 31)) 12)) := K_most _ (n := 12) (by omega) (by omega)
  have hm4 := mo_lt (cv n g 0) (n := 4) (by omega)
  have hm12 := mo_lt (cv n g 0 >>> ((2 : Int32) &&& 31)) (n := 12) (by omega)
  generalize mo (cv n g 0) 4 = q4 at m4 hm4
  generalize mo (cv n g 0 >>> ((2 : Int32) &&& 31)) 12 = R at m12 hm12
  obtain ⟨w4, w5, mm, e4, e5, k5, F5, B5⟩ := sb_newS (y := 399000) (hO.2.1 3 (by omega)) (R3.dn (by omega)) hw3
  have R5 := k5 399000 (R3.dn (by omega))
  have hdc : dcT (nI (1 + q4)).toInt = [48 + (1 + q4)] := by
    rw [nI_toInt (by omega)]
    unfold dcT
    rw [if_neg (by omega)]
    rfl
  obtain ⟨w6, m6, e6, k6, F6, B6⟩ := B5.num (x := nI (1 + q4)) (y := 398000) hO (by rw [nI_toInt (by omega)]; omega) (by rw [nI_toInt (by omega)]; omega) F5 (by show 6 + 2 ≤ 900; omega) (R5.dn (by omega))
  have R6 := k6 398000 (R5.dn (by omega))
  rw [hdc] at B6
  obtain ⟨w7, m7, e7, k7, F7, B7⟩ := B6.chr (c := 59) (y := 397000) (by omega) F6 (by show 7 + 1 ≤ 900; omega) (R6.dn (by omega))
  have R7 := k7 397000 (R6.dn (by omega))
  have B7 : SB E w7 w3.1.2.1 w3.1.2.1 m7 (hdS (1 + q4)) := B7
  obtain ⟨w8, m8, m', e8, F8, B8, k8⟩ := tb_rows (l := w.1.2.1) (b := w2.1.2.1) (y := 330342) hO hro hg hn (C := 1 + q4) (R := R) (by omega) (by omega) R 0 (gN E) w7 (hdS (1 + q4)) m7 (by omega) (by omega) F7 B7 (R7.dn (by omega)) (by show 8 + 13 * R ≤ 900; omega)
  have R8 := k8 330342 (R7.dn (by omega))
  obtain ⟨w9, e9⟩ := lw_fin (m := m') hO hro hg hn (by omega) (by omega) (by omega) K3 A3 (fun _ _ => rfl) F8 B8 R8
  refine ⟨w9, ?_⟩
  unfold L_law
  rw [ob_e e1, ob_e e2, ob_e e3, ob_e c0, ob_e m4, ob_e m12, ob_e e4]
  show ob (J4_init_a7421_f E w3.1.2.1 (gst E 3) w4.1) _ = _
  rw [ob_e e5, ob_e B5.cl, show (1 : Int32) + nI q4 = nI (1 + q4) from nI_add 1 q4, ob_e e6]
  show ob (gcl w6.1 w3.1.2.1 11) _ = _
  rw [ob_e B6.cl, ob_e (show J4_append_cf468_f E w3.1.2.1 (59 : Int32) w6.1 = _ from e7)]
  exact e8.trans e9
end LWO
