/-! pure: the law's loop, the law -/
section LO
variable {E : gE} {w : gWd} {l0 l1 l2 l3 l4 p n : Nat} {ad : Nat → Nat} {Q : gQ} {a b c d e x : Int32} {r : gLr}
theorem cc_if {q : Prop} [Decidable q] {y z : Option (Int32 × gS)} (h1 : CC E w l0 l1 l2 l3 l4 p ad r y) (h2 : CC E w l0 l1 l2 l3 l4 p ad r z) : CC E w l0 l1 l2 l3 l4 p ad r (if q then y else z) := by
  by_cases h : q
  · rw [if_pos h]
    exact h1
  · rw [if_neg h]
    exact h2
theorem C_step (hO : gOK E) (hl : LW E w l1 l2 l3 l4 ad Q) (hR : RM E w 1) (hs : SC E l0 p a b c d e) (hlen : gal E 0 w.1 l0 = some (nI n)) (hx : graI E 0 w.1 l0 (nI p) = some x) (hlt : ¬ (nI n - (6 : Int32)) < nI p) : CC E w l0 l1 l2 l3 l4 p ad r (L_law_28_s E r l0 l1 l2 l3 l4 (nI p) w.1) := by
  unfold L_law_28_s
  rw [ob_e hlen, if_neg hlt, ob_e hx]
  refine cc_if (C_308 hO hl hR hs) ?_
  refine cc_if (C_381 hO hl hR hs) ?_
  refine cc_if (C_437 hO hl hR hs) ?_
  refine cc_if (C_450 hO hl hR hs) ?_
  refine cc_if (C_463 hO hl hR hs) ?_
  refine cc_if (C_476 hO hl hR hs) ?_
  refine cc_if (C_489 hO hl hR hs) ?_
  refine cc_if (C_557 hO hl hR hs) ?_
  refine cc_if (C_625 hO hl hR hs) ?_
  refine cc_if (C_681 hO hl hR hs) ?_
  refine cc_if (C_749 hO hl hR hs) ?_
  refine cc_if (C_817 hO hl hR hs) ?_
  refine cc_if (C_873 hO hl hR hs) ?_
  refine cc_if (C_941 hO hl hR hs) ?_
  refine cc_if (C_997 hO hl hR hs) ?_
  refine cc_if (C_1053 hO hl hR hs) ?_
  refine cc_if (C_1109 hO hl hR hs) ?_
  refine cc_if (C_1176 hO hl hR hs) ?_
  refine cc_if (C_1189 hO hl hR hs) ?_
  refine cc_if (C_1230 hO hl hR hs) ?_
  refine cc_if (C_1286 hO hl hR hs) ?_
  refine cc_if (C_1342 hO hl hR hs) ?_
  refine cc_if (C_1405 hO hl hR hs) ?_
  refine cc_if (C_1418 hO hl hR hs) ?_
  refine cc_if (C_1474 hO hl hR hs) ?_
  refine cc_if (C_1530 hO hl hR hs) ?_
  refine cc_if (C_1586 hO hl hR hs) ?_
  refine cc_if (C_1642 hO hl hR hs) ?_
  refine cc_if (C_1698 hO hl hR hs) ?_
  refine cc_if (C_1754 hO hl hR hs) ?_
  refine cc_if (C_1767 hO hl hR hs) ?_
  refine cc_if (C_1830 hO hl hR hs) ?_
  refine cc_if (C_1843 hO hl hR hs) ?_
  refine cc_if (C_1868 hO hl hR hs) ?_
  refine cc_if (C_1924 hO hl hR hs) ?_
  refine cc_if (C_1979 hO hl hR hs) ?_
  refine cc_if (C_2035 hO hl hR hs) ?_
  refine cc_if (C_2091 hO hl hR hs) ?_
  refine cc_if (C_2147 hO hl hR hs) ?_
  refine cc_if (C_2224 hO hl hR hs) ?_
  refine cc_if (C_2267 hO hl hR hs) ?_
  refine cc_if (C_2335 hO hl hR hs) ?_
  refine cc_if (C_2391 hO hl hR hs) ?_
  refine cc_if (C_2447 hO hl hR hs) ?_
  refine cc_if (C_2460 hO hl hR hs) ?_
  refine cc_if (C_2473 hO hl hR hs) ?_
  refine cc_if (C_2529 hO hl hR hs) ?_
  refine cc_if (C_2585 hO hl hR hs) ?_
  refine cc_if (C_2665 hO hl hR hs) ?_
  refine cc_if (C_2749 hO hl hR hs) ?_
  refine cc_if (C_2817 hO hl hR hs) ?_
  refine cc_if (C_2885 hO hl hR hs) ?_
  refine cc_if (C_2953 hO hl hR hs) ?_
  refine cc_if (C_3009 hO hl hR hs) ?_
  refine cc_if (C_3022 hO hl hR hs) ?_
  refine cc_if (C_3078 hO hl hR hs) ?_
  refine cc_if (C_3134 hO hl hR hs) ?_
  refine cc_if (C_3190 hO hl hR hs) ?_
  refine cc_if (C_3246 hO hl hR hs) ?_
  refine cc_if (C_3259 hO hl hR hs) ?_
  refine cc_if (C_3303 hO hl hR hs) ?_
  refine cc_if (C_3314 hO hl hR hs) ?_
  exact ⟨w, Q, rfl, hl, fun y hy => hy.dn (Nat.le_succ _)⟩
theorem gal_ro {E : gE} {σ : gS} {t a n : Nat} {y : vp_A} (hr : gro E a = true) (hc : gcs E a = .inl (t, y)) (hn : y.1 = n) : gal E t σ a = some (nI n) := by
  obtain ⟨m, z⟩ := y
  have hn : m = n := hn
  subst hn
  unfold gal gat gac
  rw [hr]
  simp only [if_true]
  rw [hc]
  simp only [if_true]
  rfl
theorem sub6 {n p : Nat} (hn : n ≤ 3072) (hp : p ≤ 4000) : (nI n - (6 : Int32) < nI p) ↔ n < p + 6 := by
  have e : (nI n - (6 : Int32)).toInt = (n : Int) - 6 := by
    rw [Int32.toInt_sub, nI_toInt (by omega), show (6 : Int32).toInt = 6 from rfl]
    apply Int.bmod_eq_of_le <;> omega
  rw [fa_lt, e, nI_toInt (by omega)]
  omega
theorem law_loop (hO : gOK E) {g : Nat → Int32} (hro : gro E l0 = true) (hc : gcs E l0 = .inl (0, n, .inl g)) (hn : n ≤ 3072) : ∀ (k i q : Nat) (w : gWd) (Q : gQ), i + k = n / 6 → k < q → LW E w l1 l2 l3 l4 ad Q → RM E w k → ∃ w' : gWd, L_law_28 E q l0 l1 l2 l3 l4 (nI (6 * i)) w.1 = some (1, w'.1) := by
  intro k
  induction k with
  | zero =>
    intro i q w Q hi hq hl hR
    obtain ⟨q, rfl⟩ : ∃ z, q = z + 1 := ⟨q - 1, by omega⟩
    refine ⟨w, ?_⟩
    show L_law_28_s E (L_law_28 E q) l0 l1 l2 l3 l4 (nI (6 * i)) w.1 = _
    unfold L_law_28_s
    rw [ob_e (gal_ro hro hc rfl), if_pos ((sub6 hn (by omega)).mpr (by omega))]
  | succ k ih =>
    intro i q w Q hi hq hl hR
    obtain ⟨q, rfl⟩ : ∃ z, q = z + 1 := ⟨q - 1, by omega⟩
    have rd : ∀ j, j < 6 → ∀ σ, graI E 0 σ l0 (nI (6 * i) + nI j) = some (g (6 * i + j)) := fun j hj σ => by
      rw [nI_add]
      exact gra_ro hro hc (by omega) (by omega)
    have hs : SC E l0 (6 * i) (g (6 * i + 1)) (g (6 * i + 2)) (g (6 * i + 3)) (g (6 * i + 4)) (g (6 * i + 5)) := ⟨rd 1 (by omega), rd 2 (by omega), rd 3 (by omega), rd 4 (by omega), rd 5 (by omega)⟩
    obtain ⟨w1, Q1, e1, h1, k1⟩ := C_step (r := L_law_28 E q) (n := n) hO hl (hR.dn (by omega)) hs (gal_ro hro hc rfl) (gra_ro hro hc (show 6 * i < n by omega) (by omega)) (fun z => by
      have := (sub6 hn (by omega)).mp z
      omega)
    obtain ⟨w2, e2⟩ := ih (i + 1) q w1 Q1 (by omega) (by omega) h1 (k1 _ hR)
    refine ⟨w2, ?_⟩
    show L_law_28_s E (L_law_28 E q) l0 l1 l2 l3 l4 (nI (6 * i)) w.1 = _
    rw [e1, show nI (6 * i) + (6 : Int32) = nI (6 * (i + 1)) from nI_add (6 * i) 6]
    exact e2
theorem mkD {cc ss m : Nat} {t : Nat × Nat × Nat} (hb : BG E w (cc + 1) (ss + m)) (hn : m ≤ 60000000) (t : Nat × Nat × Nat) : ∃ w', gnaD E w.1 (nI m) = some (w.1.2.1, w'.1) ∧ NW E (fun _ => False) w w' 1 m ∧ ArD E w' t w.1.2.1 m (fun _ => 0) :=
  ⟨_, gna_ok hb hn 3 t, nw_cell hb.2.2.1 _, va_up_self _ _ _, Nat.lt_succ_self _, up_same⟩
theorem law_ok (hO : gOK E) {g : Nat → Int32} (hro : gro E l0 = true) (hc : gcs E l0 = .inl (0, n, .inl g)) (hn : n ≤ 3072) (hb : BG E w (9519 + 135145 + 355 + 1) (57114 + 4323329 + 6771 + 11)) (hcp : CP w) : ∃ w' : gWd, L_law E l0 w.1 = some (1, w'.1) := by
  have hN := hO.1
  obtain ⟨w1, e1, N1, O1⟩ := mkO hb 10 [.null, .null, .int 0, .null, .null, .null, .null, .int 0, .null, .null, .null] rfl (10, 25, 0)
  obtain ⟨w2, e2, K2, R2⟩ := K_init (x := 9519) hO (N1.bgr hb) (N1.cp hcp) O1 N1.2.1
  obtain ⟨w3, e3, N3, O3⟩ := mkO (n := 29) (c := 9518) (s := 57085) (R2.bg K2.pos) 11 [.null, .null, .null, .null, .null, .null, .null, .null, .null, .int 0, .int 0, .int 0, .int 0, .int 0, .null, .int 0, .null, .int 0, .int 0, .int 0, .int 0, .int 0, .int 0, .int 0, .int 0, .int 0, .null, .null, .int 0] rfl (10, 30, 0)
  have K3 : RK E w3 w.1.2.1 (adK w.1.2.1) gQ0 := RK.fr (E := E0 E) K2 N3.1 (fun _ _ _ _ => id)
  have R3 : RM E w3 (514 + 9000) := N3.rm R2 (by omega) (by omega)
  obtain ⟨w4, e4, X4, F4, R4⟩ := M_init hO R3 O3 N3.2.1
  have K4 : RK E w4 w.1.2.1 (adK w.1.2.1) gQ0 := RK.fr (E := E0 E) K3 F4 (fun κ j c hj z => by have z1 : j = 30 := z; omega)
  obtain ⟨w5, e5, N5, J5⟩ := mkJ (n := 1) (c := 513) (s := 3083) (R4.bg K4.pos) (by omega) (50, 40, 0)
  have e5 : gnaJ E w4.1 (1 : Int32) = some (w4.1.2.1, w5.1) := e5
  have K5 : RK E w5 w.1.2.1 (adK w.1.2.1) gQ0 := RK.fr (E := E0 E) K4 N5.1 (fun _ _ _ _ => id)
  have X5 : RX E w5 w2.1.2.1 0 gQ0 := RX.fr (E := E0 E) X4 N5.1 (fun _ => id)
  have R5 : RM E w5 513 := N5.rm R4 (by omega) (by omega)
  obtain ⟨w6, e6, N6, D6⟩ := mkD (cc := 512) (ss := 3077) (m := 1) (t := (51, 40, 0)) (R5.bg K5.pos) (by omega) (51, 40, 0)
  have e6 : gnaD E w5.1 (1 : Int32) = some (w5.1.2.1, w6.1) := e6
  have K6 : RK E w6 w.1.2.1 (adK w.1.2.1) gQ0 := RK.fr (E := E0 E) K5 N6.1 (fun _ _ _ _ => id)
  have X6 : RX E w6 w2.1.2.1 0 gQ0 := RX.fr (E := E0 E) X5 N6.1 (fun _ => id)
  have J6 : ArJ E w6 (50, 40, 0) w4.1.2.1 1 (fun _ => 0) := ArJ.fr (E := E0 E) J5 N6.1 id
  have R6 : RM E w6 512 := N6.rm R5 (by omega) (by omega)
  obtain ⟨w7, e7⟩ := law_loop (l1 := w.1.2.1) (l2 := w2.1.2.1) (l3 := w4.1.2.1) (l4 := w5.1.2.1) hO hro hc hn (n / 6) 0 (gN E) w6 gQ0 (Nat.zero_add _) (by omega) ⟨K6, ⟨0, X6⟩, gQ0_ok, ⟨_, J6⟩, _, D6⟩ (R6.dn (by omega))
  refine ⟨w7, ?_⟩
  unfold L_law
  rw [ob_e e1, ob_e e2, ob_e e3, ob_e e4, ob_e e5, ob_e e6]
  exact e7
end LO
