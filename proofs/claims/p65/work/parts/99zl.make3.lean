/-! pure: the whole object is made -/
/-- where its parts lie -/
def adK (l : Nat) : Nat → Nat
  | 0 => l + 1
  | 1 => l + 31
  | 3 => l + 61
  | 4 => l + 303
  | 5 => l + 305
  | 6 => l + 348
  | 8 => l + 349
  | 9 => l + 352
  | _ => l + 354
/-- the first table -/
def gT1 : gT := repT 3 6 (fun i => firstC.getD i 0) gT0
def gQ0 : gQ := (gT1, gT0, false, (0, 0, fun _ => gT0), (0, fun _ => 0), (0, -1), (0, fun _ => 0))
theorem first_v : ∀ i, i < 18 → vIn (firstC.getD i 0) := by
  have h : ∀ i, i < 18 → -9999 ≤ (firstC.getD i 0).toInt ∧ (firstC.getD i 0).toInt ≤ 9999 := by decide
  exact h
theorem gT1_ok : GS gT1 ∧ tR gT1 = 6 := GS.rep (by omega) (by omega) (by omega) first_v
theorem gQ0_ok : GQ gQ0 := by
  refine ⟨gT1_ok.1, fun z => ?_, fun i hi => absurd hi (Nat.not_lt_zero _), ?_, fun i _ => ?_, ?_, ?_, ?_, ?_⟩
  · cases (show false = true from z)
  · show 1 ≤ 6
    omega
  · show 1 ≤ 6
    omega
  · show 0 < 8
    omega
  · show 0 ≤ 8
    omega
  · show 0 ≤ 700
    omega
  · show 0 ≤ 36
    omega
abbrev J25l : Nat × Nat × Nat → Prop := fun t => t = (10, 25, 0)
abbrev JTS : Nat × Nat × Nat → Prop := fun t => t.2.1 ≠ 0
abbrev JTU : Nat × Nat × Nat → Prop := fun t => 2 ≤ t.2.1
abbrev JTH : Nat × Nat × Nat → Prop := fun t => 10 ≤ t.2.1 ∧ t.2.1 ≠ 24
abbrev JTI : Nat × Nat × Nat → Prop := fun t => 10 ≤ t.2.1 ∧ t.2.1 ≠ 24 ∧ t.2.1 ≠ 22
abbrev JTP : Nat × Nat × Nat → Prop := fun t => t.2.1 = 20 ∨ t.2.1 = 10 ∨ t.2.1 = 21 ∨ t = (10, 25, 0)
abbrev JTR : Nat × Nat × Nat → Prop := fun t => t.2.1 = 10 ∨ t.2.1 = 21 ∨ t = (10, 25, 0)
abbrev JTD : Nat × Nat × Nat → Prop := fun t => t.2.1 = 21 ∨ t = (10, 25, 0)
theorem t25 {κ x y : Nat} (h : x ≠ 25) : ¬ ((κ, x, y) : Nat × Nat × Nat) = (10, 25, 0) := fun z => h (congrArg (fun q : Nat × Nat × Nat => q.2.1) z)
theorem tj {t : Nat × Nat × Nat} {κ x y : Nat} (h : t = (κ, x, y)) : t.2.1 = x := by rw [h]
theorem NW.bgl {E : gE} {J : Nat × Nat × Nat → Prop} {w w' : gWd} {c s c0 s0 c' s' : Nat} (h : NW E J w w' c s) (hb : BG E w c0 s0) (h1 : c + c' ≤ c0) (h2 : s + s' ≤ s0) : BG E w' c' s' := h.bg (hb.le h1 h2)
section MK4
variable {E : gE} {w : gWd} {l a cc ss : Nat}
theorem mk_order (hb : BG E w (cc + 2) (ss + 120)) (h : Ob w (10, 20, 0) a 8 [.null, .null, .int 0]) (ha : w.1.2.1 = a + 1) : ∃ w', X10_init_f E a w.1 = some w'.1 ∧ NW E (fun t => t = (10, 20, 0)) w w' 2 120 ∧ RO (E0 E) w' a 0 (fun _ => 0) := by
  obtain ⟨w1, e1, N1, A1⟩ := mkI (n := 60) (c := cc + 1) (s := ss + 60) (hb.le (by omega) (by omega)) (by omega) (11, 20, 0)
  have e1 : gnaI E w.1 (60 : Int32) = some (w.1.2.1, w1.1) := e1
  obtain ⟨w2, e2, N2, O2⟩ := npt (E := E) (h.fr N1.1 id) 0 (.ref w.1.2.1) (Nat.le_of_ble_eq_true rfl)
  have N12 := (N1.mono (J' := fun t => t = (10, 20, 0)) (fun _ z => z.elim)).tr N2
  have b2 : BG E w2 (cc + 1) (ss + 60) := N12.bgl hb (by omega) (by omega)
  obtain ⟨w3, e3, N3, A3⟩ := mkI (n := 60) (c := cc) (s := ss) b2 (by omega) (12, 20, 0)
  have e3 : gnaI E w2.1 (60 : Int32) = some (w2.1.2.1, w3.1) := e3
  obtain ⟨w4, e4, N4, O4⟩ := npt (E := E) (O2.fr N3.1 id) 1 (.ref w2.1.2.1) (Nat.le_of_ble_eq_true rfl)
  have a2 : w2.1.2.1 = a + 2 := by
    have x1 := N12.2.1
    omega
  have A1' := ((A1.fr N2.1 (t3_ne (by decide))).fr N3.1 id).fr N4.1 (t3_ne (by decide))
  have A3' := A3.fr N4.1 (t3_ne (by decide))
  rw [ha] at A1' O4
  rw [a2] at A3' O4
  refine ⟨w4, ?_, (N12.tr (N3.mono (fun _ z => z.elim))).tr N4, O4, by omega, ⟨_, A1', fun i hi => absurd hi (Nat.not_lt_zero _)⟩, _, A3'⟩
  unfold X10_init_f X10_init
  rw [ob_e e1]
  refine (ob_e e2).trans ?_
  rw [ob_e e3]
  exact ob_e e4
theorem mk_pack (hb : BG E w (cc + 1) (ss + 15)) (h : Ob w (10, 21, 0) a 6 [.null, .int 0]) (ha : w.1.2.1 = a + 1) : ∃ w', X8_init_f E a w.1 = some w'.1 ∧ NW E (fun t => t = (10, 21, 0)) w w' 1 15 ∧ RP (E0 E) w' a 0 (fun _ => 0) := by
  obtain ⟨w1, e1, N1, A1⟩ := mkJ hb (by omega) (11, 21, 0)
  have e1 : gnaJ E w.1 (15 : Int32) = some (w.1.2.1, w1.1) := e1
  obtain ⟨w2, e2, N2, O2⟩ := npt (E := E) (h.fr N1.1 id) 0 (.ref w.1.2.1) (Nat.le_of_ble_eq_true rfl)
  have A2 := A1.fr N2.1 (t3_ne (by decide))
  rw [ha] at A2 O2
  refine ⟨w2, ?_, (N1.mono (fun _ z => z.elim)).tr N2, O2, A2⟩
  unfold X8_init_f X8_init
  rw [ob_e e1]
  exact ob_e e2
set_option maxHeartbeats 4000000 in
set_option maxRecDepth 30000 in
theorem K_make (hO : gOK E) (hb : BG E w (cc + 355) (ss + 6771)) (hcp : CP w) (h : Ob w (10, 25, 0) l 10 [.null, .null, .int 0, .null, .null, .null, .null, .int 0, .null, .null, .null]) (ha : w.1.2.1 = l + 1) : ∃ w', X12_init_f E l w.1 = (ob (gfR w'.1 l 10 0) fun x55 => ob (gcl w'.1 x55 9) fun _ => ob (X11_replace_f E x55 (3 : Int32) (6 : Int32) (gst E 40) w'.1) fun x57 => some x57) ∧ NW E JK w w' 355 6771 ∧ RK (E0 E) w' l (adK l) (gT0, gQ0.2) := by
  have hN := hO.1
  have jJ : ∀ t : Nat × Nat × Nat, t = (10, 25, 0) → JK t := fun t z => by have := tj z; show t.2.1 < 30; omega
  have nS : ¬ Js 0 (10, 25, 0) := fun z => by cases (show (25 : Nat) = 0 from z)
  have nU : ¬ Js 1 (10, 25, 0) := fun z => by cases (show (25 : Nat) = 1 from z)
  have nH : ¬ Jh (10, 25, 0) := fun z => by
    have z1 : 25 = 24 ∨ (2 ≤ 25 ∧ 25 < 10) := z
    omega
  have nI : ¬ ((10, 25, 0) : Nat × Nat × Nat) = (10, 22, 0) := by simp
  have nP : ¬ J23 (10, 25, 0) := fun z => by cases (show (25 : Nat) = 23 from z)
  have nR : ¬ ((10, 25, 0) : Nat × Nat × Nat) = (10, 20, 0) := by simp
  have nD : ¬ ((10, 25, 0) : Nat × Nat × Nat) = (8, 10, 0) := by simp
  have nZ : ¬ ((10, 25, 0) : Nat × Nat × Nat) = (10, 21, 0) := by simp
  have mS : ∀ t, Js 0 t → JK t := fun t z => by have z1 : t.2.1 = 0 := z; show t.2.1 < 30; omega
  have mU : ∀ t, Js 1 t → JK t := fun t z => by have z1 : t.2.1 = 1 := z; show t.2.1 < 30; omega
  have mH : ∀ t, Jh t → JK t := fun t z => by have z1 : t.2.1 = 24 ∨ (2 ≤ t.2.1 ∧ t.2.1 < 10) := z; show t.2.1 < 30; omega
  have mI : ∀ t : Nat × Nat × Nat, t = (10, 22, 0) → JK t := fun t z => by have := tj z; show t.2.1 < 30; omega
  have mP : ∀ t, J23 t → JK t := fun t z => by have z1 : t.2.1 = 23 := z; show t.2.1 < 30; omega
  have mR : ∀ t : Nat × Nat × Nat, t = (10, 20, 0) → JK t := fun t z => by have := tj z; show t.2.1 < 30; omega
  have mD : ∀ t : Nat × Nat × Nat, t = (8, 10, 0) → JK t := fun t z => by have := tj z; show t.2.1 < 30; omega
  have mZ : ∀ t : Nat × Nat × Nat, t = (10, 21, 0) → JK t := fun t z => by have := tj z; show t.2.1 < 30; omega
  have qS : ∀ t : Nat × Nat × Nat, t = (10, 25, 0) → JTS t := fun t z => by have := tj z; show t.2.1 ≠ 0; omega
  have qU : ∀ t : Nat × Nat × Nat, t = (10, 25, 0) → JTU t := fun t z => by have := tj z; show 2 ≤ t.2.1; omega
  have qH : ∀ t : Nat × Nat × Nat, t = (10, 25, 0) → JTH t := fun t z => by have := tj z; exact ⟨by omega, by omega⟩
  have qI : ∀ t : Nat × Nat × Nat, t = (10, 25, 0) → JTI t := fun t z => by have := tj z; exact ⟨by omega, by omega, by omega⟩
  have qP : ∀ t : Nat × Nat × Nat, t = (10, 25, 0) → JTP t := fun t z => Or.inr (Or.inr (Or.inr z))
  have qB : ∀ t : Nat × Nat × Nat, t = (10, 25, 0) → JTP t := qP
  have qR : ∀ t : Nat × Nat × Nat, t = (10, 25, 0) → JTR t := fun t z => Or.inr (Or.inr z)
  have qD : ∀ t : Nat × Nat × Nat, t = (10, 25, 0) → JTD t := fun t z => Or.inr z
  have qZ : ∀ t : Nat × Nat × Nat, t = (10, 25, 0) → J25l t := fun t z => z
  have rS : ∀ t, Js 1 t → JTS t := fun t z => by have z1 : t.2.1 = 1 := z; show t.2.1 ≠ 0; omega
  have rU : ∀ t, Jh t → JTU t := fun t z => by have z1 : t.2.1 = 24 ∨ (2 ≤ t.2.1 ∧ t.2.1 < 10) := z; show 2 ≤ t.2.1; omega
  have rH : ∀ t : Nat × Nat × Nat, t = (10, 22, 0) → JTH t := fun t z => by have := tj z; exact ⟨by omega, by omega⟩
  have rI : ∀ t, J23 t → JTI t := fun t z => by have z1 : t.2.1 = 23 := z; exact ⟨by omega, by omega, by omega⟩
  have rB : ∀ t : Nat × Nat × Nat, t = (10, 20, 0) → JTP t := fun t z => Or.inl (tj z)
  have rR : ∀ t : Nat × Nat × Nat, t = (8, 10, 0) → JTR t := fun t z => Or.inl (tj z)
  have rD : ∀ t : Nat × Nat × Nat, t = (10, 21, 0) → JTD t := fun t z => Or.inl (tj z)
  have sS : ∀ t, JTU t → JTS t := fun t z => by have z1 : 2 ≤ t.2.1 := z; show t.2.1 ≠ 0; omega
  have sU : ∀ t, JTH t → JTU t := fun t z => by have z1 : 10 ≤ t.2.1 := z.1; show 2 ≤ t.2.1; omega
  have sH : ∀ t, JTI t → JTH t := fun t z => ⟨z.1, z.2.1⟩
  have sI : ∀ t, JTP t → JTI t := fun t z => by
    have z1 : t.2.1 = 20 ∨ t.2.1 = 10 ∨ t.2.1 = 21 ∨ t.2.1 = 25 := by
      rcases z with z | z | z | z
      · exact Or.inl z
      · exact Or.inr (Or.inl z)
      · exact Or.inr (Or.inr (Or.inl z))
      · exact Or.inr (Or.inr (Or.inr (tj z)))
    exact ⟨by omega, by omega, by omega⟩
  have sP : ∀ t, JTP t → JTP t := fun t z => z
  have sB : ∀ t, JTR t → JTP t := fun t z => Or.inr z
  have sR : ∀ t, JTD t → JTR t := fun t z => Or.inr z
  have sD : ∀ t, J25l t → JTD t := fun t z => Or.inr z
  have fS : ∀ κ c : Nat, ¬ JTS (κ, 0, c) := fun κ c z => z rfl
  have fU : ∀ κ c : Nat, ¬ JTU (κ, 1, c) := fun κ c z => by have z1 : 2 ≤ 1 := z; omega
  have fH : ∀ κ j c : Nat, Jh (κ, j, c) → ¬ JTH (κ, j, c) := fun κ j c z z2 => by
    have z1 : j = 24 ∨ (2 ≤ j ∧ j < 10) := z
    have z3 : 10 ≤ j ∧ j ≠ 24 := z2
    omega
  have fI : ∀ κ : Nat, ¬ JTI (κ, 22, 0) := fun κ z => z.2.2 rfl
  have fP : ∀ κ i : Nat, ¬ JTP (κ, 23, i) := fun κ i z => by
    rcases z with z | z | z | z
    · cases (show (23 : Nat) = 20 from z)
    · cases (show (23 : Nat) = 10 from z)
    · cases (show (23 : Nat) = 21 from z)
    · exact t25 (by decide) z
  have fB : ¬ JTP (11, 25, 0) := fun z => by
    rcases z with z | z | z | z
    · cases (show (25 : Nat) = 20 from z)
    · cases (show (25 : Nat) = 10 from z)
    · cases (show (25 : Nat) = 21 from z)
    · cases (congrArg Prod.fst z : (11 : Nat) = 10)
  have fR : ∀ κ : Nat, ¬ JTR (κ, 20, 0) := fun κ z => by
    rcases z with z | z | z
    · cases (show (20 : Nat) = 10 from z)
    · cases (show (20 : Nat) = 21 from z)
    · exact t25 (by decide) z
  have fD : ∀ κ : Nat, ¬ JTD (κ, 10, 0) := fun κ z => by
    rcases z with z | z
    · cases (show (10 : Nat) = 21 from z)
    · exact t25 (by decide) z
  have fZ : ∀ κ : Nat, ¬ J25l (κ, 21, 0) := fun κ z => t25 (by decide) z
  -- part S
  obtain ⟨w1, e1, N1, O1⟩ := mkO (n := 3) (c := cc + 354) (s := ss + 6768) (hb.le (by omega) (by omega)) 9 [.null, .int 0, .null] rfl (0, 0, 0)
  have b1 : BG E w1 (cc + 354) (ss + 6768) := N1.bgl hb (by omega) (by omega)
  rw [ha] at e1 O1
  obtain ⟨w2, e2, N2, pS⟩ := mk_store (cc := cc + 325) (ss := ss + 6248) hN (by omega) b1 (N1.cp hcp) O1 (by rw [N1.2.1, ha])
  obtain ⟨w3, e3, N3, L3⟩ := npt (E := E) ((h.fr N1.1 id).fr N2.1 nS) 0 (.ref (l + 1)) (Nat.le_of_ble_eq_true rfl)
  have M3 := ((N1.mono (J' := JK) (fun _ z => z.elim)).tr (N2.mono (J' := JK) mS)).tr (N3.mono jJ)
  have c3 : w3.1.2.1 = l + 31 := by rw [M3.2.1, ha]
  have b3 : BG E w3 (cc + 325) (ss + 6248) := M3.bgl hb (by omega) (by omega)
  -- part U
  obtain ⟨w4, e4, N4, O4⟩ := mkO (n := 3) (c := cc + 324) (s := ss + 6245) (b3.le (by omega) (by omega)) 9 [.null, .int 0, .null] rfl (0, 1, 0)
  have b4 : BG E w4 (cc + 324) (ss + 6245) := N4.bgl b3 (by omega) (by omega)
  rw [c3] at e4 O4
  obtain ⟨w5, e5, N5, pU⟩ := mk_store (cc := cc + 295) (ss := ss + 5725) hN (by omega) b4 (N4.cp (M3.cp hcp)) O4 (by rw [N4.2.1, c3])
  obtain ⟨w6, e6, N6, L6⟩ := npt (E := E) ((L3.fr N4.1 id).fr N5.1 nU) 1 (.ref (l + 31)) (Nat.le_of_ble_eq_true rfl)
  have M6 := M3.tr (((N4.mono (J' := JK) (fun _ z => z.elim)).tr (N5.mono (J' := JK) mU)).tr (N6.mono jJ))
  have c6 : w6.1.2.1 = l + 61 := by rw [M6.2.1, ha]
  have b6 : BG E w6 (cc + 295) (ss + 5725) := M6.bgl hb (by omega) (by omega)
  -- part H
  obtain ⟨w7, e7, N7, O7⟩ := mkO (n := 3) (c := cc + 294) (s := ss + 5722) (b6.le (by omega) (by omega)) 4 [.null, .int 0, .int 0] rfl (10, 24, 0)
  have b7 : BG E w7 (cc + 294) (ss + 5722) := N7.bgl b6 (by omega) (by omega)
  rw [c6] at e7 O7
  obtain ⟨w8, e8, N8, pH⟩ := mk_history (cc := cc + 53) (ss := ss + 1530) hN b7 (N7.cp (M6.cp hcp)) O7 (by rw [N7.2.1, c6])
  obtain ⟨w9, e9, N9, L9⟩ := npt (E := E) ((L6.fr N7.1 id).fr N8.1 nH) 3 (.ref (l + 61)) (Nat.le_of_ble_eq_true rfl)
  have M9 := M6.tr (((N7.mono (J' := JK) (fun _ z => z.elim)).tr (N8.mono (J' := JK) mH)).tr (N9.mono jJ))
  have c9 : w9.1.2.1 = l + 303 := by rw [M9.2.1, ha]
  have b9 : BG E w9 (cc + 53) (ss + 1530) := M9.bgl hb (by omega) (by omega)
  -- part I
  obtain ⟨w10, e10, N10, O10⟩ := mkO (n := 7) (c := cc + 52) (s := ss + 1523) (b9.le (by omega) (by omega)) 5 [.null, .int 0, .int 0, .int 0, .int 0, .int 0, .int 0] rfl (10, 22, 0)
  have b10 : BG E w10 (cc + 52) (ss + 1523) := N10.bgl b9 (by omega) (by omega)
  rw [c9] at e10 O10
  obtain ⟨w11, e11, N11, pI⟩ := mk_input (cc := cc + 51) (ss := ss + 823) b10 O10 (by rw [N10.2.1, c9])
  obtain ⟨w12, e12, N12, L12⟩ := npt (E := E) ((L9.fr N10.1 id).fr N11.1 nI) 4 (.ref (l + 303)) (Nat.le_of_ble_eq_true rfl)
  have M12 := M9.tr (((N10.mono (J' := JK) (fun _ z => z.elim)).tr (N11.mono (J' := JK) mI)).tr (N12.mono jJ))
  have c12 : w12.1.2.1 = l + 305 := by rw [M12.2.1, ha]
  have b12 : BG E w12 (cc + 51) (ss + 823) := M12.bgl hb (by omega) (by omega)
  -- part P
  obtain ⟨w13, e13, N13, O13⟩ := mkO (n := 9) (c := cc + 50) (s := ss + 814) (b12.le (by omega) (by omega)) 7 [.null, .int 0, .int 0, .int 0, .int 0, .int 0, .null, .null, .int 0] rfl (10, 23, 0)
  have b13 : BG E w13 (cc + 50) (ss + 814) := N13.bgl b12 (by omega) (by omega)
  rw [c12] at e13 O13
  obtain ⟨w14, e14, N14, pP⟩ := mk_parser (cc := cc + 8) (ss := ss + 194) (ia := l + 303) hN b13 O13 (by rw [N13.2.1, c12])
  obtain ⟨w15, e15, N15, L15⟩ := npt (E := E) ((L12.fr N13.1 id).fr N14.1 nP) 5 (.ref (l + 305)) (Nat.le_of_ble_eq_true rfl)
  have M15 := M12.tr (((N13.mono (J' := JK) (fun _ z => z.elim)).tr (N14.mono (J' := JK) mP)).tr (N15.mono jJ))
  have c15 : w15.1.2.1 = l + 348 := by rw [M15.2.1, ha]
  have b15 : BG E w15 (cc + 8) (ss + 194) := M15.bgl hb (by omega) (by omega)
  -- part B
  obtain ⟨w16, e16, N16, pB⟩ := mkB (n := 36) (c := cc + 7) (s := ss + 158) (b15.le (by omega) (by omega)) (by omega) (11, 25, 0)
  have e16 : gnaB E w15.1 (36 : Int32) = some (w15.1.2.1, w16.1) := e16
  rw [c15] at e16 pB
  obtain ⟨w17, e17, N17, L17⟩ := npt (E := E) (L15.fr N16.1 id) 6 (.ref (l + 348)) (Nat.le_of_ble_eq_true rfl)
  have M17 := M15.tr ((N16.mono (J' := JK) (fun _ z => z.elim)).tr (N17.mono jJ))
  have c17 : w17.1.2.1 = l + 349 := by rw [M17.2.1, ha]
  have b17 : BG E w17 (cc + 7) (ss + 158) := M17.bgl hb (by omega) (by omega)
  -- part R
  obtain ⟨w18, e18, N18, O18⟩ := mkO (n := 3) (c := cc + 6) (s := ss + 155) (b17.le (by omega) (by omega)) 8 [.null, .null, .int 0] rfl (10, 20, 0)
  have b18 : BG E w18 (cc + 6) (ss + 155) := N18.bgl b17 (by omega) (by omega)
  rw [c17] at e18 O18
  obtain ⟨w19, e19, N19, pR⟩ := mk_order (cc := cc + 4) (ss := ss + 35) b18 O18 (by rw [N18.2.1, c17])
  obtain ⟨w20, e20, N20, L20⟩ := npt (E := E) ((L17.fr N18.1 id).fr N19.1 nR) 8 (.ref (l + 349)) (Nat.le_of_ble_eq_true rfl)
  have M20 := M17.tr (((N18.mono (J' := JK) (fun _ z => z.elim)).tr (N19.mono (J' := JK) mR)).tr (N20.mono jJ))
  have c20 : w20.1.2.1 = l + 352 := by rw [M20.2.1, ha]
  have b20 : BG E w20 (cc + 4) (ss + 35) := M20.bgl hb (by omega) (by omega)
  -- part D
  obtain ⟨w21, e21, N21, O21⟩ := mkO (n := 2) (c := cc + 3) (s := ss + 33) (b20.le (by omega) (by omega)) 2 [.null, .int 0] rfl (8, 10, 0)
  have b21 : BG E w21 (cc + 3) (ss + 33) := N21.bgl b20 (by omega) (by omega)
  rw [c20] at e21 O21
  obtain ⟨w22, e22, N22, pD⟩ := mk_dict (cc := cc + 2) (ss := ss + 17) b21 (N21.cp (M20.cp hcp)) O21
  obtain ⟨w23, e23, N23, L23⟩ := npt (E := E) ((L20.fr N21.1 id).fr N22.1 nD) 9 (.ref (l + 352)) (Nat.le_of_ble_eq_true rfl)
  have M23 := M20.tr (((N21.mono (J' := JK) (fun _ z => z.elim)).tr (N22.mono (J' := JK) mD)).tr (N23.mono jJ))
  have c23 : w23.1.2.1 = l + 354 := by rw [M23.2.1, ha]
  have b23 : BG E w23 (cc + 2) (ss + 17) := M23.bgl hb (by omega) (by omega)
  -- part Z
  obtain ⟨w24, e24, N24, O24⟩ := mkO (n := 2) (c := cc + 1) (s := ss + 15) (b23.le (by omega) (by omega)) 6 [.null, .int 0] rfl (10, 21, 0)
  have b24 : BG E w24 (cc + 1) (ss + 15) := N24.bgl b23 (by omega) (by omega)
  rw [c23] at e24 O24
  obtain ⟨w25, e25, N25, pZ⟩ := mk_pack (cc := cc + 0) (ss := ss + 0) b24 O24 (by rw [N24.2.1, c23])
  obtain ⟨w26, e26, N26, L26⟩ := npt (E := E) ((L23.fr N24.1 id).fr N25.1 nZ) 10 (.ref (l + 354)) (Nat.le_of_ble_eq_true rfl)
  have M26 := M23.tr (((N24.mono (J' := JK) (fun _ z => z.elim)).tr (N25.mono (J' := JK) mZ)).tr (N26.mono jJ))
  have c26 : w26.1.2.1 = l + 356 := by rw [M26.2.1, ha]
  have b26 : BG E w26 (cc + 0) (ss + 0) := M26.bgl hb (by omega) (by omega)
  have g4 : gfR w13.1 l 10 4 = some (l + 303) := gfR_o (L12.fr N13.1 id).2.2 rfl
  -- what follows each part
  have TZ : NW E J25l w25 w26 _ _ := N26.mono qZ
  have TD : NW E JTD w22 w26 _ _ := (((N23.mono qD).tr (N24.mono (fun _ z => z.elim))).tr (N25.mono rD)).tr (TZ.mono sD)
  have TR : NW E JTR w19 w26 _ _ := (((N20.mono qR).tr (N21.mono (fun _ z => z.elim))).tr (N22.mono rR)).tr (TD.mono sR)
  have TB : NW E JTP w16 w26 _ _ := (((N17.mono qB).tr (N18.mono (fun _ z => z.elim))).tr (N19.mono rB)).tr (TR.mono sB)
  have TP : NW E JTP w14 w26 _ _ := ((N15.mono qP).tr (N16.mono (fun _ z => z.elim))).tr (TB.mono sP)
  have TI : NW E JTI w11 w26 _ _ := (((N12.mono qI).tr (N13.mono (fun _ z => z.elim))).tr (N14.mono rI)).tr (TP.mono sI)
  have TH : NW E JTH w8 w26 _ _ := (((N9.mono qH).tr (N10.mono (fun _ z => z.elim))).tr (N11.mono rH)).tr (TI.mono sH)
  have TU : NW E JTU w5 w26 _ _ := (((N6.mono qU).tr (N7.mono (fun _ z => z.elim))).tr (N8.mono rU)).tr (TH.mono sU)
  have TS : NW E JTS w2 w26 _ _ := (((N3.mono qS).tr (N4.mono (fun _ z => z.elim))).tr (N5.mono rS)).tr (TU.mono sS)
  refine ⟨w26, ?_, M26, L26, pS.fr TS.1 fS, pU.fr TU.1 fU, pH.fr TH.1 fH, pI.fr TI.1 fI, pP.fr TP.1 fP, ⟨_, pB.fr TB.1 fB, fun i hi => absurd hi (Nat.not_lt_zero _)⟩, ⟨_, _, pR.fr TR.1 fR⟩, ⟨_, pD.fr TD.1 (fD 8) (fD 9)⟩, _, _, pZ.fr TZ.1 fZ⟩
  unfold X12_init_f X12_init
  rw [ob_e e1, ob_e e2]
  refine (ob_e e3).trans ?_
  rw [ob_e e4, ob_e e5]
  refine (ob_e e6).trans ?_
  rw [ob_e e7, ob_e e8]
  refine (ob_e e9).trans ?_
  rw [ob_e e10, ob_e e11]
  refine (ob_e e12).trans ?_
  rw [ob_e e13, ob_e g4, ob_e e14]
  refine (ob_e e15).trans ?_
  rw [ob_e e16]
  refine (ob_e e17).trans ?_
  rw [ob_e e18, ob_e e19]
  refine (ob_e e20).trans ?_
  rw [ob_e e21, ob_e e22]
  refine (ob_e e23).trans ?_
  rw [ob_e e24, ob_e e25]
  exact ob_e e26

end MK4
