/-! pure: the object is made -/
abbrev J23 : Nat × Nat × Nat → Prop := fun t => t.2.1 = 23
section MK3
variable {E : gE} {a cc ss : Nat}
set_option maxRecDepth 20000 in
theorem mk_hist (hN : 100000 ≤ gN E) : ∀ (k i q : Nat) (w : gWd) (g : Nat → Option Nat), i + k = 8 → k < q → BG E w (cc + 30 * k) (ss + 523 * k) → CP w → w.1.2.1 = a + 2 + 30 * i → Ob w (10, 24, 0) a 4 [.ref (a + 1), .int 0, .int 0] → ArR (E0 E) w (11, 24, 0) 5 (a + 1) 8 g → (∀ x, x < i → g x = some (a + 2 + 30 * x)) → (∀ x, x < i → RS (E0 E) w (a + 2 + 30 * x) (2 + x) gT0) → ∃ w', X5_init_15 E q a (nI i) w.1 = some w'.1 ∧ NW E Jh w w' (30 * k) (523 * k) ∧ RH (E0 E) w' a 0 0 (fun _ => gT0) := by
  intro k
  induction k with
  | zero =>
    intro i q w g hi hq hb hcp hw hO hA hg hS
    obtain ⟨q, rfl⟩ : ∃ z, q = z + 1 := ⟨q - 1, by omega⟩
    have hi8 : i = 8 := by omega
    subst hi8
    refine ⟨w, ?_, ⟨FS.rf, rfl, rfl, rfl⟩, hO, by omega, by omega, ⟨g, hA, hg⟩, hS⟩
    show X5_init_15_s E (X5_init_15 E q) a (nI 8) w.1 = _
    unfold X5_init_15_s
    rw [if_pos (by decide)]
  | succ k ih =>
    intro i q w g hi hq hb hcp hw hO hA hg hS
    obtain ⟨q, rfl⟩ : ∃ z, q = z + 1 := ⟨q - 1, by omega⟩
    obtain ⟨w1, e1, N1, O1⟩ := mkO (n := 3) (c := cc + 30 * k + 29) (s := ss + 523 * k + 520) (hb.le (by omega) (by omega)) 9 [.null, .int 0, .null] rfl (0, 2 + i, 0)
    have b1 : BG E w1 (cc + 30 * k + 29) (ss + 523 * k + 520) := N1.bg (hb.le (by omega) (by omega))
    rw [hw] at e1 O1
    obtain ⟨w2, e2, N2, S2⟩ := mk_store (cc := cc + 30 * k) (ss := ss + 523 * k) hN (by omega) b1 (N1.cp hcp) O1 (by rw [N1.2.1, hw])
    have nJ : ∀ κ x y, x ≠ 2 + i → ¬ Js (2 + i) (κ, x, y) := fun κ x y hx z => hx z
    have P2 := S2.1
    have A2 := (hA.fr N1.1 id).fr N2.1 (nJ _ _ _ (by omega))
    obtain ⟨w3, e3, N3, A3⟩ := nst (E := E) (i := i) A2 P2 (by omega) (by decide)
    have N13 := ((N1.mono (J' := Jh) (fun _ z => z.elim)).tr (N2.mono (J' := Jh) (fun t z => by
      have z1 : t.2.1 = 2 + i := z
      exact Or.inr ⟨by omega, by omega⟩))).tr (N3.mono (J' := Jh) (fun t z => by
      rw [z]
      exact Or.inl rfl))
    have n3 : ∀ κ x y, x ≠ 24 → ¬ ((κ, x, y) : Nat × Nat × Nat) = (11, 24, 0) := fun κ x y hx z => hx (congrArg (fun q : Nat × Nat × Nat => q.2.1) z)
    have O3 := ((hO.fr N1.1 id).fr N2.1 (nJ _ _ _ (by omega))).fr N3.1 (t3_ne (by decide))
    have S3 : ∀ x, x < i + 1 → RS (E0 E) w3 (a + 2 + 30 * x) (2 + x) gT0 := fun x hx => by
      by_cases hxi : x = i
      · subst hxi
        exact S2.fr N3.1 (fun κ y => n3 _ _ _ (by omega))
      · exact (((hS x (by omega)).fr N1.1 (fun _ _ => id)).fr N2.1 (fun κ y => nJ _ _ _ (by omega))).fr N3.1 (fun κ y => n3 _ _ _ (by omega))
    obtain ⟨w4, e4, N4, H4⟩ := ih (i + 1) q w3 _ (by omega) (by omega) (N13.bg (hb.le (by omega) (by omega))) (N13.cp hcp) (by rw [N13.2.1, hw]; omega) O3 A3 (fun x hx => by
      by_cases hxi : x = i
      · rw [hxi, va_up_self]
      · rw [va_up_ne _ _ hxi]
        exact hg x (by omega)) S3
    refine ⟨w4, ?_, (N13.tr N4).eq (by omega) (by omega), H4⟩
    show X5_init_15_s E (X5_init_15 E q) a (nI i) w.1 = _
    unfold X5_init_15_s
    have r0 : gfR w.1 a 4 0 = some (a + 1) := gfR_o hO.2.2 rfl
    rw [if_neg (show ¬ (8 : Int32) ≤ nI i from nI_ge (b := 8) (by omega) (by omega)), ob_e r0, ob_e e1, ob_e e2, ob_e e3, nI_1]
    exact e4
set_option maxRecDepth 20000 in
theorem mk_history (hN : 100000 ≤ gN E) {w : gWd} (hb : BG E w (cc + 241) (ss + 4192)) (hc : CP w) (h : Ob w (10, 24, 0) a 4 [.null, .int 0, .int 0]) (ha : w.1.2.1 = a + 1) : ∃ w', X5_init_f E a w.1 = some w'.1 ∧ NW E Jh w w' 241 4192 ∧ RH (E0 E) w' a 0 0 (fun _ => gT0) := by
  obtain ⟨w1, e1, N1, A1⟩ := mkR (n := 8) (c := cc + 240) (s := ss + 4184) (hb.le (by omega) (by omega)) (by omega) 5 (11, 24, 0)
  have e1 : gnaR E 5 w.1 (8 : Int32) = some (w.1.2.1, w1.1) := e1
  obtain ⟨w2, e2, N2, O2⟩ := npt (E := E) (h.fr N1.1 id) 0 (.ref w.1.2.1) (Nat.le_of_ble_eq_true rfl)
  have N12 := (N1.mono (J' := Jh) (fun _ z => z.elim)).tr (N2.mono (J' := Jh) (fun t z => by
    rw [z]
    exact Or.inl rfl))
  have b2 : BG E w2 (cc + 30 * 8) (ss + 523 * 8) := N12.bg (hb.le (by omega) (by omega))
  have A2 := A1.fr N2.1 (t3_ne (by decide))
  rw [ha] at A2 O2
  obtain ⟨w3, e3, N3, H3⟩ := mk_hist hN 8 0 (gN E) w2 _ (by omega) (by omega) b2 (N12.cp hc) (by rw [N12.2.1, ha]) O2 A2 (fun i hi => absurd hi (Nat.not_lt_zero _)) (fun i hi => absurd hi (Nat.not_lt_zero _))
  refine ⟨w3, ?_, (N12.tr N3).eq (by omega) (by omega), H3⟩
  unfold X5_init_f X5_init
  rw [ob_e e1]
  exact (ob_e e2).trans e3
set_option maxRecDepth 20000 in
theorem mk_input {w : gWd} (hb : BG E w (cc + 1) (ss + 700)) (h : Ob w (10, 22, 0) a 5 [.null, .int 0, .int 0, .int 0, .int 0, .int 0, .int 0]) (ha : w.1.2.1 = a + 1) : ∃ w', X6_init_f E a w.1 = some w'.1 ∧ NW E (fun t => t = (10, 22, 0)) w w' 1 700 ∧ IN (E0 E) w' a 0 (fun _ => 0) := by
  obtain ⟨w1, e1, N1, A1⟩ := mkB hb (by omega) (11, 22, 0)
  have e1 : gnaB E w.1 (700 : Int32) = some (w.1.2.1, w1.1) := e1
  obtain ⟨w2, e2, N2, O2⟩ := npt (E := E) (h.fr N1.1 id) 0 (.ref w.1.2.1) (Nat.le_of_ble_eq_true rfl)
  have A2 := A1.fr N2.1 (t3_ne (by decide))
  rw [ha] at A2 O2
  refine ⟨w2, ?_, (N1.mono (fun _ z => z.elim)).tr N2, ⟨0, 0, 0, 0, 0, O2⟩, by omega, ⟨_, A2, fun i hi => absurd hi (Nat.not_lt_zero _)⟩, fun i => by show 0 < 256; omega⟩
  unfold X6_init_f X6_init
  rw [ob_e e1]
  exact ob_e e2
theorem mk_command {w : gWd} {b i : Nat} (hb : BG E w (cc + 1) (ss + 6)) (h : Ob w (13, 23, i) b 1 [.null, .int 0, .int 0, .int 0, .int 0, .null]) (ha : w.1.2.1 = b + 1) : ∃ w', X2_init_f E b w.1 = some w'.1 ∧ NW E (fun t => t = (13, 23, i)) w w' 1 6 ∧ Ob w' (13, 23, i) b 1 [.ref (gst E 30), .int 0, .int 0, .int 0, .int 0, .ref (b + 1)] ∧ ArI (E0 E) w' (14, 23, i) (b + 1) 6 (fun _ => 0) := by
  obtain ⟨w1, e1, N1, O1⟩ := npt (E := E) h 0 (.ref (gst E 30)) (Nat.le_of_ble_eq_true rfl)
  obtain ⟨w2, e2, N2, A2⟩ := mkI (n := 6) (c := cc) (s := ss) (w := w1) (N1.bg (hb.le (by omega) (by omega))) (by omega) (14, 23, i)
  have a1 : w1.1.2.1 = b + 1 := by
    have x1 := N1.2.1
    omega
  have e2 : gnaI E w1.1 (6 : Int32) = some (w1.1.2.1, w2.1) := e2
  rw [a1] at e2 A2
  obtain ⟨w3, e3, N3, O3⟩ := npt (E := E) (O1.fr N2.1 id) 5 (.ref (b + 1)) (Nat.le_of_ble_eq_true rfl)
  refine ⟨w3, ?_, (N1.tr (N2.mono (fun _ z => z.elim))).tr N3, O3, A2.fr N3.1 (t3_ne (by decide))⟩
  unfold X2_init_f X2_init
  refine (ob_e e1).trans ?_
  rw [ob_e e2]
  exact ob_e e3
theorem mk_cmds {ia : Nat} : ∀ (k i q : Nat) (w : gWd) (g : Nat → Option Nat), i + k = 20 → k < q → BG E w (cc + 2 * k) (ss + 12 * k) → w.1.2.1 = a + 3 + 2 * i → Ob w (10, 23, 0) a 7 [.ref ia, .int 0, .int (-1), .int 0, .int 0, .int 0, .ref (a + 1), .ref (a + 2), .int 0] → ArI (E0 E) w (11, 23, 0) (a + 1) 360 (fun _ => 0) → ArR (E0 E) w (12, 23, 0) 6 (a + 2) 20 g → (∀ x, x < i → g x = some (a + 3 + 2 * x)) → (∀ x, x < i → ∃ ka x1 x2 x3 x4 g, CO (E0 E) w a x ka x1 x2 x3 x4 g) → ∃ w', X9_init_34 E q a (nI i) w.1 = some w'.1 ∧ NW E J23 w w' (2 * k) (12 * k) ∧ PZ (E0 E) w' a ia 0 (-1) := by
  intro k
  induction k with
  | zero =>
    intro i q w g hi hq hb hw hO hI hA hg hS
    obtain ⟨q, rfl⟩ : ∃ z, q = z + 1 := ⟨q - 1, by omega⟩
    have hi8 : i = 20 := by omega
    subst hi8
    refine ⟨w, ?_, ⟨FS.rf, rfl, rfl, rfl⟩, ⟨0, 0, 0, 0, hO⟩, ⟨_, hI⟩, ⟨g, hA, hg⟩, hS, fun x hx => absurd hx (Nat.not_lt_zero _)⟩
    show X9_init_34_s E (X9_init_34 E q) a (nI 20) w.1 = _
    unfold X9_init_34_s
    rw [if_pos (by decide)]
  | succ k ih =>
    intro i q w g hi hq hb hw hO hI hA hg hS
    obtain ⟨q, rfl⟩ : ∃ z, q = z + 1 := ⟨q - 1, by omega⟩
    obtain ⟨w1, e1, N1, O1⟩ := mkO (n := 6) (c := cc + 2 * k + 1) (s := ss + 12 * k + 6) (hb.le (by omega) (by omega)) 1 [.null, .int 0, .int 0, .int 0, .int 0, .null] rfl (13, 23, i)
    have b1 : BG E w1 (cc + 2 * k + 1) (ss + 12 * k + 6) := N1.bg (hb.le (by omega) (by omega))
    rw [hw] at e1 O1
    obtain ⟨w2, e2, N2, P2, Q2⟩ := mk_command (cc := cc + 2 * k) (ss := ss + 12 * k) b1 O1 (by rw [N1.2.1, hw])
    have nJ : ∀ κ x, κ ≠ 13 → ¬ ((κ, 23, x) : Nat × Nat × Nat) = (13, 23, i) := fun κ x hx z => hx (congrArg Prod.fst z)
    have A2 := (hA.fr N1.1 id).fr N2.1 (nJ _ _ (by omega))
    obtain ⟨w3, e3, N3, A3⟩ := nst (E := E) (i := i) A2 P2 (by omega) (by decide)
    have n3 : ∀ κ x, κ ≠ 12 → ¬ ((κ, 23, x) : Nat × Nat × Nat) = (12, 23, 0) := fun κ x hx z => hx (congrArg Prod.fst z)
    have O3 := ((hO.fr N1.1 id).fr N2.1 (nJ _ _ (by omega))).fr N3.1 (n3 _ _ (by omega))
    have I3 := ((hI.fr N1.1 id).fr N2.1 (nJ _ _ (by omega))).fr N3.1 (n3 _ _ (by omega))
    have S3 : ∀ x, x < i + 1 → ∃ ka x1 x2 x3 x4 g, CO (E0 E) w3 a x ka x1 x2 x3 x4 g := fun x hx => by
      by_cases hxi : x = i
      · subst hxi
        have e4 : a + 3 + 2 * x + 1 = a + 4 + 2 * x := by omega
        rw [e4] at P2 Q2
        exact ⟨_, _, _, _, _, _, P2.fr N3.1 (n3 _ _ (by omega)), Q2.fr N3.1 (n3 _ _ (by omega))⟩
      · obtain ⟨ka, x1, x2, x3, x4, g, hc⟩ := hS x (by omega)
        have hx13 : ¬ ((13, 23, x) : Nat × Nat × Nat) = (13, 23, i) := fun z => hxi (congrArg (fun q : Nat × Nat × Nat => q.2.2) z)
        exact ⟨ka, x1, x2, x3, x4, g, ((hc.fr N1.1 id id).fr N2.1 hx13 (nJ _ _ (by omega))).fr N3.1 (n3 _ _ (by omega)) (n3 _ _ (by omega))⟩
    have N13 := ((N1.mono (J' := J23) (fun _ z => z.elim)).tr (N2.mono (J' := J23) (fun t z => by rw [z]))).tr (N3.mono (J' := J23) (fun t z => by rw [z]))
    obtain ⟨w4, e4, N4, H4⟩ := ih (i + 1) q w3 _ (by omega) (by omega) (N13.bg (hb.le (by omega) (by omega))) (by rw [N13.2.1, hw]; omega) O3 I3 A3 (fun x hx => by
      by_cases hxi : x = i
      · rw [hxi, va_up_self]
      · rw [va_up_ne _ _ hxi]
        exact hg x (by omega)) S3
    refine ⟨w4, ?_, (N13.tr N4).eq (by omega) (by omega), H4⟩
    show X9_init_34_s E (X9_init_34 E q) a (nI i) w.1 = _
    unfold X9_init_34_s
    have r0 : gfR w.1 a 7 7 = some (a + 2) := gfR_o hO.2.2 rfl
    rw [if_neg (show ¬ (20 : Int32) ≤ nI i from nI_ge (b := 20) (by omega) (by omega)), ob_e r0, ob_e e1, ob_e e2, ob_e e3, nI_1]
    exact e4
set_option maxRecDepth 20000 in
theorem mk_parser (hN : 100000 ≤ gN E) {w : gWd} {ia : Nat} (hb : BG E w (cc + 42) (ss + 620)) (h : Ob w (10, 23, 0) a 7 [.null, .int 0, .int 0, .int 0, .int 0, .int 0, .null, .null, .int 0]) (ha : w.1.2.1 = a + 1) : ∃ w', X9_init_f E a ia w.1 = some w'.1 ∧ NW E J23 w w' 42 620 ∧ PZ (E0 E) w' a ia 0 (-1) := by
  obtain ⟨w1, e1, N1, O1⟩ := npt (E := E) h 2 (.int (-1)) (Nat.le_of_ble_eq_true rfl)
  have b1 : BG E w1 (cc + 42) (ss + 620) := N1.bg (hb.le (by omega) (by omega))
  obtain ⟨w2, e2, N2, A2⟩ := mkI (n := 360) (c := cc + 41) (s := ss + 260) (b1.le (by omega) (by omega)) (by omega) (11, 23, 0)
  have e2 : gnaI E w1.1 (360 : Int32) = some (w1.1.2.1, w2.1) := e2
  have a1 : w1.1.2.1 = a + 1 := by
    have x1 := N1.2.1
    omega
  rw [a1] at e2 A2
  obtain ⟨w3, e3, N3, O3⟩ := npt (E := E) (O1.fr N2.1 id) 6 (.ref (a + 1)) (Nat.le_of_ble_eq_true rfl)
  have N13 := (N1.tr (N2.mono (fun _ z => z.elim))).tr N3
  have b3 : BG E w3 (cc + 41) (ss + 260) := N13.bg (hb.le (by omega) (by omega))
  obtain ⟨w4, e4, N4, A4⟩ := mkR (n := 20) (c := cc + 40) (s := ss + 240) (b3.le (by omega) (by omega)) (by omega) 6 (12, 23, 0)
  have e4 : gnaR E 6 w3.1 (20 : Int32) = some (w3.1.2.1, w4.1) := e4
  have a3 : w3.1.2.1 = a + 2 := by
    have x1 := N13.2.1
    omega
  rw [a3] at e4 A4
  obtain ⟨w5, e5, N5, O5⟩ := npt (E := E) (O3.fr N4.1 id) 7 (.ref (a + 2)) (Nat.le_of_ble_eq_true rfl)
  obtain ⟨w6, e6, N6, O6⟩ := npt (E := E) O5 0 (.ref ia) (Nat.le_of_ble_eq_true rfl)
  have N16 := ((N13.tr (N4.mono (fun _ z => z.elim))).tr N5).tr N6
  have b6 : BG E w6 (cc + 2 * 20) (ss + 12 * 20) := N16.bg (hb.le (by omega) (by omega))
  have A2' := (((A2.fr N3.1 (t3_ne (by decide))).fr N4.1 id).fr N5.1 (t3_ne (by decide))).fr N6.1 (t3_ne (by decide))
  have A4' := (A4.fr N5.1 (t3_ne (by decide))).fr N6.1 (t3_ne (by decide))
  have J0 : ∀ t : Nat × Nat × Nat, t = (10, 23, 0) → J23 t := fun t z => by rw [z]
  obtain ⟨w7, e7, N7, H7⟩ := mk_cmds (ia := ia) 20 0 (gN E) w6 _ (by omega) (by omega) b6 (by rw [N16.2.1, ha]) O6 A2' A4' (fun i hi => absurd hi (Nat.not_lt_zero _)) (fun i hi => absurd hi (Nat.not_lt_zero _))
  refine ⟨w7, ?_, ((N16.mono J0).tr N7).eq (by omega) (by omega), H7⟩
  unfold X9_init_f X9_init
  refine (ob_e e1).trans ?_
  rw [ob_e e2]
  refine (ob_e e3).trans ?_
  rw [ob_e e4]
  exact (ob_e e5).trans ((ob_e e6).trans e7)
end MK3
