/-! pure: the reference's room is made -/
def fiZ : Nat → Int32 := fun j => if j = 24 then -1 else 0
def inT (E : gE) (m : Nat) (σ : gS) : Option gS := ob (gcl σ m 11) fun _ => ob (X13_begin_f E m (3 : Int32) σ) fun x73 => ob (gcl x73 m 11) fun _ => ob (X13_addFirst_f E m (5 : Int32) (-2 : Int32) (7 : Int32) x73) fun x76 => ob (gcl x76 m 11) fun _ => ob (X13_addFirst_f E m (1 : Int32) (-2 : Int32) (7 : Int32) x76) fun x79 => ob (gcl x79 m 11) fun _ => ob (X13_addFirst_f E m (5 : Int32) (0 : Int32) (3 : Int32) x79) fun x82 => ob (gcl x82 m 11) fun _ => ob (X13_addFirst_f E m (9 : Int32) (-2 : Int32) (7 : Int32) x82) fun x85 => ob (gcl x85 m 11) fun _ => ob (X13_addFirst_f E m (1 : Int32) (4 : Int32) (3 : Int32) x85) fun x88 => ob (gcl x88 m 11) fun _ => ob (X13_addFirst_f E m (5 : Int32) (0 : Int32) (7 : Int32) x88) fun x91 => some x91
theorem NW.bgr {E : gE} {J : Nat × Nat × Nat → Prop} {w w' : gWd} {c s c' s' : Nat} (h : NW E J w w' c s) (hb : BG E w (c' + c) (s' + s)) : BG E w' c' s' := h.bg (hb.le (Nat.le_of_eq (Nat.add_comm _ _)) (Nat.le_of_eq (Nat.add_comm _ _)))
theorem NW.rmr {E : gE} {J : Nat × Nat × Nat → Prop} {w w' : gWd} {c s d y : Nat} (h : NW E J w w' c s) (hc : c ≤ d) (hs : s ≤ 6 * d) (hR : RM E w (y + d)) : RM E w' y := h.rm hR (by omega) (by omega)
abbrev JmT : Nat × Nat × Nat → Prop := fun t => t = (10, 30, 0) ∨ t = (22, 30, 0)
theorem jm1 : ∀ t : Nat × Nat × Nat, t = (10, 30, 0) → JmT t := fun _ z => Or.inl z
theorem jm2 : ∀ t : Nat × Nat × Nat, t = (22, 30, 0) → JmT t := fun _ z => Or.inr z
theorem jmn {κ : Nat} (h1 : κ ≠ 10) (h2 : κ ≠ 22) : ¬ JmT (κ, 30, 0) := fun z => by
  rcases z with z | z
  · exact h1 (congrArg Prod.fst z)
  · exact h2 (congrArg Prod.fst z)
section MK6
variable {E : gE} {w : gWd} {m cc ss : Nat}
set_option maxHeartbeats 4000000 in
set_option maxRecDepth 30000 in
theorem M_make (hO : gOK E) (hb : BG E w (cc + 1 + 1 + 1 + 1 + 1 + 1 + 1 + 1 + 1 + 1 + 1 + 1) (ss + 9 + 140 + 700 + 60 + 60 + 6 + 60 + 33096 + 4137 + 4137 + 4137 + 4137)) (h : Ob w (10, 30, 0) m 11 [.null, .null, .null, .null, .null, .null, .null, .null, .null, .int 0, .int 0, .int 0, .int 0, .int 0, .null, .int 0, .null, .int 0, .int 0, .int 0, .int 0, .int 0, .int 0, .int 0, .int 0, .int 0, .null, .null, .int 0]) (ha : w.1.2.1 = m + 1) : ∃ w' c s, X13_init_f E m w.1 = inT E m w'.1 ∧ NW E JmT w w' c s ∧ c ≤ 9000 ∧ s ≤ 6 * 9000 ∧ MS (E0 E) w' m (m + 1) fiZ (fun _ _ => 0) := by
  obtain ⟨w1, e1, N1, A1⟩ := mkI (n := 4137) (c := cc + 1 + 1 + 1 + 1 + 1 + 1 + 1 + 1 + 1 + 1 + 1) (s := ss + 9 + 140 + 700 + 60 + 60 + 6 + 60 + 33096 + 4137 + 4137 + 4137) hb (Nat.le_of_ble_eq_true rfl) (11, 30, 0)
  have e1 : gnaI E w.1 (4137 : Int32) = some (w.1.2.1, w1.1) := e1
  rw [ha] at e1 A1
  have b1 : BG E w1 (cc + 1 + 1 + 1 + 1 + 1 + 1 + 1 + 1 + 1 + 1 + 1) (ss + 9 + 140 + 700 + 60 + 60 + 6 + 60 + 33096 + 4137 + 4137 + 4137) := N1.bgr hb
  obtain ⟨w2, e2, N2, O2⟩ := npt (E := E) (h.fr N1.1 id) 0 (.ref (m + 1)) (Nat.le_of_ble_eq_true rfl)
  have b2 : BG E w2 (cc + 1 + 1 + 1 + 1 + 1 + 1 + 1 + 1 + 1 + 1 + 1) (ss + 9 + 140 + 700 + 60 + 60 + 6 + 60 + 33096 + 4137 + 4137 + 4137) := N2.bgr b1
  have c2 : w2.1.2.1 = m + 2 := by rw [N2.2.1, N1.2.1, ha]
  obtain ⟨w3, e3, N3, A2⟩ := mkI (n := 4137) (c := cc + 1 + 1 + 1 + 1 + 1 + 1 + 1 + 1 + 1 + 1) (s := ss + 9 + 140 + 700 + 60 + 60 + 6 + 60 + 33096 + 4137 + 4137) b2 (Nat.le_of_ble_eq_true rfl) (12, 30, 0)
  have e3 : gnaI E w2.1 (4137 : Int32) = some (w2.1.2.1, w3.1) := e3
  rw [c2] at e3 A2
  have b3 : BG E w3 (cc + 1 + 1 + 1 + 1 + 1 + 1 + 1 + 1 + 1 + 1) (ss + 9 + 140 + 700 + 60 + 60 + 6 + 60 + 33096 + 4137 + 4137) := N3.bgr b2
  obtain ⟨w4, e4, N4, O4⟩ := npt (E := E) (O2.fr N3.1 id) 1 (.ref (m + 2)) (Nat.le_of_ble_eq_true rfl)
  have b4 : BG E w4 (cc + 1 + 1 + 1 + 1 + 1 + 1 + 1 + 1 + 1 + 1) (ss + 9 + 140 + 700 + 60 + 60 + 6 + 60 + 33096 + 4137 + 4137) := N4.bgr b3
  have c4 : w4.1.2.1 = m + 3 := by rw [N4.2.1, N3.2.1, c2]
  obtain ⟨w5, e5, N5, A3⟩ := mkI (n := 4137) (c := cc + 1 + 1 + 1 + 1 + 1 + 1 + 1 + 1 + 1) (s := ss + 9 + 140 + 700 + 60 + 60 + 6 + 60 + 33096 + 4137) b4 (Nat.le_of_ble_eq_true rfl) (13, 30, 0)
  have e5 : gnaI E w4.1 (4137 : Int32) = some (w4.1.2.1, w5.1) := e5
  rw [c4] at e5 A3
  have b5 : BG E w5 (cc + 1 + 1 + 1 + 1 + 1 + 1 + 1 + 1 + 1) (ss + 9 + 140 + 700 + 60 + 60 + 6 + 60 + 33096 + 4137) := N5.bgr b4
  obtain ⟨w6, e6, N6, O6⟩ := npt (E := E) (O4.fr N5.1 id) 2 (.ref (m + 3)) (Nat.le_of_ble_eq_true rfl)
  have b6 : BG E w6 (cc + 1 + 1 + 1 + 1 + 1 + 1 + 1 + 1 + 1) (ss + 9 + 140 + 700 + 60 + 60 + 6 + 60 + 33096 + 4137) := N6.bgr b5
  have c6 : w6.1.2.1 = m + 4 := by rw [N6.2.1, N5.2.1, c4]
  obtain ⟨w7, e7, N7, A4⟩ := mkI (n := 4137) (c := cc + 1 + 1 + 1 + 1 + 1 + 1 + 1 + 1) (s := ss + 9 + 140 + 700 + 60 + 60 + 6 + 60 + 33096) b6 (Nat.le_of_ble_eq_true rfl) (14, 30, 0)
  have e7 : gnaI E w6.1 (4137 : Int32) = some (w6.1.2.1, w7.1) := e7
  rw [c6] at e7 A4
  have b7 : BG E w7 (cc + 1 + 1 + 1 + 1 + 1 + 1 + 1 + 1) (ss + 9 + 140 + 700 + 60 + 60 + 6 + 60 + 33096) := N7.bgr b6
  obtain ⟨w8, e8, N8, O8⟩ := npt (E := E) (O6.fr N7.1 id) 3 (.ref (m + 4)) (Nat.le_of_ble_eq_true rfl)
  have b8 : BG E w8 (cc + 1 + 1 + 1 + 1 + 1 + 1 + 1 + 1) (ss + 9 + 140 + 700 + 60 + 60 + 6 + 60 + 33096) := N8.bgr b7
  have c8 : w8.1.2.1 = m + 5 := by rw [N8.2.1, N7.2.1, c6]
  obtain ⟨w9, e9, N9, A5⟩ := mkI (n := 33096) (c := cc + 1 + 1 + 1 + 1 + 1 + 1 + 1) (s := ss + 9 + 140 + 700 + 60 + 60 + 6 + 60) b8 (Nat.le_of_ble_eq_true rfl) (15, 30, 0)
  have e9 : gnaI E w8.1 (33096 : Int32) = some (w8.1.2.1, w9.1) := e9
  rw [c8] at e9 A5
  have b9 : BG E w9 (cc + 1 + 1 + 1 + 1 + 1 + 1 + 1) (ss + 9 + 140 + 700 + 60 + 60 + 6 + 60) := N9.bgr b8
  obtain ⟨w10, e10, N10, O10⟩ := npt (E := E) (O8.fr N9.1 id) 4 (.ref (m + 5)) (Nat.le_of_ble_eq_true rfl)
  have b10 : BG E w10 (cc + 1 + 1 + 1 + 1 + 1 + 1 + 1) (ss + 9 + 140 + 700 + 60 + 60 + 6 + 60) := N10.bgr b9
  have c10 : w10.1.2.1 = m + 6 := by rw [N10.2.1, N9.2.1, c8]
  obtain ⟨w11, e11, N11, A6⟩ := mkI (n := 60) (c := cc + 1 + 1 + 1 + 1 + 1 + 1) (s := ss + 9 + 140 + 700 + 60 + 60 + 6) b10 (Nat.le_of_ble_eq_true rfl) (16, 30, 0)
  have e11 : gnaI E w10.1 (60 : Int32) = some (w10.1.2.1, w11.1) := e11
  rw [c10] at e11 A6
  have b11 : BG E w11 (cc + 1 + 1 + 1 + 1 + 1 + 1) (ss + 9 + 140 + 700 + 60 + 60 + 6) := N11.bgr b10
  obtain ⟨w12, e12, N12, O12⟩ := npt (E := E) (O10.fr N11.1 id) 5 (.ref (m + 6)) (Nat.le_of_ble_eq_true rfl)
  have b12 : BG E w12 (cc + 1 + 1 + 1 + 1 + 1 + 1) (ss + 9 + 140 + 700 + 60 + 60 + 6) := N12.bgr b11
  have c12 : w12.1.2.1 = m + 7 := by rw [N12.2.1, N11.2.1, c10]
  obtain ⟨w13, e13, N13, A7⟩ := mkI (n := 6) (c := cc + 1 + 1 + 1 + 1 + 1) (s := ss + 9 + 140 + 700 + 60 + 60) b12 (Nat.le_of_ble_eq_true rfl) (17, 30, 0)
  have e13 : gnaI E w12.1 (6 : Int32) = some (w12.1.2.1, w13.1) := e13
  rw [c12] at e13 A7
  have b13 : BG E w13 (cc + 1 + 1 + 1 + 1 + 1) (ss + 9 + 140 + 700 + 60 + 60) := N13.bgr b12
  obtain ⟨w14, e14, N14, O14⟩ := npt (E := E) (O12.fr N13.1 id) 6 (.ref (m + 7)) (Nat.le_of_ble_eq_true rfl)
  have b14 : BG E w14 (cc + 1 + 1 + 1 + 1 + 1) (ss + 9 + 140 + 700 + 60 + 60) := N14.bgr b13
  have c14 : w14.1.2.1 = m + 8 := by rw [N14.2.1, N13.2.1, c12]
  obtain ⟨w15, e15, N15, A8⟩ := mkI (n := 60) (c := cc + 1 + 1 + 1 + 1) (s := ss + 9 + 140 + 700 + 60) b14 (Nat.le_of_ble_eq_true rfl) (18, 30, 0)
  have e15 : gnaI E w14.1 (60 : Int32) = some (w14.1.2.1, w15.1) := e15
  rw [c14] at e15 A8
  have b15 : BG E w15 (cc + 1 + 1 + 1 + 1) (ss + 9 + 140 + 700 + 60) := N15.bgr b14
  obtain ⟨w16, e16, N16, O16⟩ := npt (E := E) (O14.fr N15.1 id) 7 (.ref (m + 8)) (Nat.le_of_ble_eq_true rfl)
  have b16 : BG E w16 (cc + 1 + 1 + 1 + 1) (ss + 9 + 140 + 700 + 60) := N16.bgr b15
  have c16 : w16.1.2.1 = m + 9 := by rw [N16.2.1, N15.2.1, c14]
  have g8 : gfR w16.1 m 11 0 = some (m + 1) := gfR_o O16.2.2 rfl
  obtain ⟨w17, e17, N17, O17⟩ := npt (E := E) O16 8 (.ref (m + 1)) (Nat.le_of_ble_eq_true rfl)
  have b17 : BG E w17 (cc + 1 + 1 + 1 + 1) (ss + 9 + 140 + 700 + 60) := N17.bgr b16
  have c17 : w17.1.2.1 = m + 9 := by rw [N17.2.1, c16]
  obtain ⟨w18, e18, N18, A9⟩ := mkI (n := 60) (c := cc + 1 + 1 + 1) (s := ss + 9 + 140 + 700) b17 (Nat.le_of_ble_eq_true rfl) (19, 30, 0)
  have e18 : gnaI E w17.1 (60 : Int32) = some (w17.1.2.1, w18.1) := e18
  rw [c17] at e18 A9
  have b18 : BG E w18 (cc + 1 + 1 + 1) (ss + 9 + 140 + 700) := N18.bgr b17
  obtain ⟨w19, e19, N19, O19⟩ := npt (E := E) (O17.fr N18.1 id) 14 (.ref (m + 9)) (Nat.le_of_ble_eq_true rfl)
  have b19 : BG E w19 (cc + 1 + 1 + 1) (ss + 9 + 140 + 700) := N19.bgr b18
  have c19 : w19.1.2.1 = m + 10 := by rw [N19.2.1, N18.2.1, c17]
  obtain ⟨w20, e20, N20, A10⟩ := mkI (n := 700) (c := cc + 1 + 1) (s := ss + 9 + 140) b19 (Nat.le_of_ble_eq_true rfl) (20, 30, 0)
  have e20 : gnaI E w19.1 (700 : Int32) = some (w19.1.2.1, w20.1) := e20
  rw [c19] at e20 A10
  have b20 : BG E w20 (cc + 1 + 1) (ss + 9 + 140) := N20.bgr b19
  obtain ⟨w21, e21, N21, O21⟩ := npt (E := E) (O19.fr N20.1 id) 16 (.ref (m + 10)) (Nat.le_of_ble_eq_true rfl)
  have b21 : BG E w21 (cc + 1 + 1) (ss + 9 + 140) := N21.bgr b20
  have c21 : w21.1.2.1 = m + 11 := by rw [N21.2.1, N20.2.1, c19]
  obtain ⟨w22, e22, N22, O22⟩ := npt (E := E) O21 24 (.int (-1)) (Nat.le_of_ble_eq_true rfl)
  have b22 : BG E w22 (cc + 1 + 1) (ss + 9 + 140) := N22.bgr b21
  have c22 : w22.1.2.1 = m + 11 := by rw [N22.2.1, c21]
  obtain ⟨w23, e23, N23, A11⟩ := mkI (n := 140) (c := cc + 1) (s := ss + 9) b22 (Nat.le_of_ble_eq_true rfl) (21, 30, 0)
  have e23 : gnaI E w22.1 (140 : Int32) = some (w22.1.2.1, w23.1) := e23
  rw [c22] at e23 A11
  have b23 : BG E w23 (cc + 1) (ss + 9) := N23.bgr b22
  obtain ⟨w24, e24, N24, O24⟩ := npt (E := E) (O22.fr N23.1 id) 26 (.ref (m + 11)) (Nat.le_of_ble_eq_true rfl)
  have b24 : BG E w24 (cc + 1) (ss + 9) := N24.bgr b23
  have c24 : w24.1.2.1 = m + 12 := by rw [N24.2.1, N23.2.1, c22]
  obtain ⟨w25, e25, N25, T25⟩ := mkR (n := 9) (c := cc) (s := ss) b24 (Nat.le_of_ble_eq_true rfl) 7 (22, 30, 0)
  have e25 : gnaR E 7 w24.1 (9 : Int32) = some (w24.1.2.1, w25.1) := e25
  rw [c24] at e25 T25
  obtain ⟨w26, e26, N26, T26⟩ := nstS (E := E) (i := 0) T25 (hO.2.1 2 (by decide)).cl (by omega) (by omega)
  have e26 : gwaS E w25.1 (m + 12) (0 : Int32) (gst E 2) = some w26.1 := e26
  have O26 := (O24.fr N25.1 id).fr N26.1 (t3_ne (by decide))
  obtain ⟨w27, e27, N27, T27⟩ := nstS (E := E) (i := 1) T26 (hO.2.1 3 (by decide)).cl (by omega) (by omega)
  have e27 : gwaS E w26.1 (m + 12) (1 : Int32) (gst E 3) = some w27.1 := e27
  have O27 := O26.fr N27.1 (t3_ne (by decide))
  obtain ⟨w28, e28, N28, T28⟩ := nstS (E := E) (i := 2) T27 (hO.2.1 4 (by decide)).cl (by omega) (by omega)
  have e28 : gwaS E w27.1 (m + 12) (2 : Int32) (gst E 4) = some w28.1 := e28
  have O28 := O27.fr N28.1 (t3_ne (by decide))
  obtain ⟨w29, e29, N29, T29⟩ := nstS (E := E) (i := 3) T28 (hO.2.1 5 (by decide)).cl (by omega) (by omega)
  have e29 : gwaS E w28.1 (m + 12) (3 : Int32) (gst E 5) = some w29.1 := e29
  have O29 := O28.fr N29.1 (t3_ne (by decide))
  obtain ⟨w30, e30, N30, T30⟩ := nstS (E := E) (i := 4) T29 (hO.2.1 6 (by decide)).cl (by omega) (by omega)
  have e30 : gwaS E w29.1 (m + 12) (4 : Int32) (gst E 6) = some w30.1 := e30
  have O30 := O29.fr N30.1 (t3_ne (by decide))
  obtain ⟨w31, e31, N31, T31⟩ := nstS (E := E) (i := 5) T30 (hO.2.1 7 (by decide)).cl (by omega) (by omega)
  have e31 : gwaS E w30.1 (m + 12) (5 : Int32) (gst E 7) = some w31.1 := e31
  have O31 := O30.fr N31.1 (t3_ne (by decide))
  obtain ⟨w32, e32, N32, T32⟩ := nstS (E := E) (i := 6) T31 (hO.2.1 8 (by decide)).cl (by omega) (by omega)
  have e32 : gwaS E w31.1 (m + 12) (6 : Int32) (gst E 8) = some w32.1 := e32
  have O32 := O31.fr N32.1 (t3_ne (by decide))
  obtain ⟨w33, e33, N33, T33⟩ := nstS (E := E) (i := 7) T32 (hO.2.1 9 (by decide)).cl (by omega) (by omega)
  have e33 : gwaS E w32.1 (m + 12) (7 : Int32) (gst E 9) = some w33.1 := e33
  have O33 := O32.fr N33.1 (t3_ne (by decide))
  obtain ⟨w34, e34, N34, T34⟩ := nstS (E := E) (i := 8) T33 (hO.2.1 10 (by decide)).cl (by omega) (by omega)
  have e34 : gwaS E w33.1 (m + 12) (8 : Int32) (gst E 10) = some w34.1 := e34
  have O34 := O33.fr N34.1 (t3_ne (by decide))
  obtain ⟨w35, e35, N35, O35⟩ := npt (E := E) O34 27 (.ref (m + 12)) (Nat.le_of_ble_eq_true rfl)
  have TT := T34.fr N35.1 (t3_ne (by decide))
  have Q34 : NW E JmT w34 w35 _ _ := N35.mono jm1
  have Q33 : NW E JmT w33 w35 _ _ := (N34.mono jm2).tr Q34
  have Q32 : NW E JmT w32 w35 _ _ := (N33.mono jm2).tr Q33
  have Q31 : NW E JmT w31 w35 _ _ := (N32.mono jm2).tr Q32
  have Q30 : NW E JmT w30 w35 _ _ := (N31.mono jm2).tr Q31
  have Q29 : NW E JmT w29 w35 _ _ := (N30.mono jm2).tr Q30
  have Q28 : NW E JmT w28 w35 _ _ := (N29.mono jm2).tr Q29
  have Q27 : NW E JmT w27 w35 _ _ := (N28.mono jm2).tr Q28
  have Q26 : NW E JmT w26 w35 _ _ := (N27.mono jm2).tr Q27
  have Q25 : NW E JmT w25 w35 _ _ := (N26.mono jm2).tr Q26
  have Q24 : NW E JmT w24 w35 _ _ := (N25.mono (fun _ z => z.elim)).tr Q25
  have Q23 : NW E JmT w23 w35 _ _ := (N24.mono jm1).tr Q24
  have Q22 : NW E JmT w22 w35 _ _ := (N23.mono (fun _ z => z.elim)).tr Q23
  have Q21 : NW E JmT w21 w35 _ _ := (N22.mono jm1).tr Q22
  have Q20 : NW E JmT w20 w35 _ _ := (N21.mono jm1).tr Q21
  have Q19 : NW E JmT w19 w35 _ _ := (N20.mono (fun _ z => z.elim)).tr Q20
  have Q18 : NW E JmT w18 w35 _ _ := (N19.mono jm1).tr Q19
  have Q17 : NW E JmT w17 w35 _ _ := (N18.mono (fun _ z => z.elim)).tr Q18
  have Q16 : NW E JmT w16 w35 _ _ := (N17.mono jm1).tr Q17
  have Q15 : NW E JmT w15 w35 _ _ := (N16.mono jm1).tr Q16
  have Q14 : NW E JmT w14 w35 _ _ := (N15.mono (fun _ z => z.elim)).tr Q15
  have Q13 : NW E JmT w13 w35 _ _ := (N14.mono jm1).tr Q14
  have Q12 : NW E JmT w12 w35 _ _ := (N13.mono (fun _ z => z.elim)).tr Q13
  have Q11 : NW E JmT w11 w35 _ _ := (N12.mono jm1).tr Q12
  have Q10 : NW E JmT w10 w35 _ _ := (N11.mono (fun _ z => z.elim)).tr Q11
  have Q9 : NW E JmT w9 w35 _ _ := (N10.mono jm1).tr Q10
  have Q8 : NW E JmT w8 w35 _ _ := (N9.mono (fun _ z => z.elim)).tr Q9
  have Q7 : NW E JmT w7 w35 _ _ := (N8.mono jm1).tr Q8
  have Q6 : NW E JmT w6 w35 _ _ := (N7.mono (fun _ z => z.elim)).tr Q7
  have Q5 : NW E JmT w5 w35 _ _ := (N6.mono jm1).tr Q6
  have Q4 : NW E JmT w4 w35 _ _ := (N5.mono (fun _ z => z.elim)).tr Q5
  have Q3 : NW E JmT w3 w35 _ _ := (N4.mono jm1).tr Q4
  have Q2 : NW E JmT w2 w35 _ _ := (N3.mono (fun _ z => z.elim)).tr Q3
  have Q1 : NW E JmT w1 w35 _ _ := (N2.mono jm1).tr Q2
  have Q0 : NW E JmT w w35 _ _ := (N1.mono (fun _ z => z.elim)).tr Q1
  refine ⟨w35, _, _, ?_, Q0, Nat.le_of_ble_eq_true rfl, Nat.le_of_ble_eq_true rfl, O35, fun k h1 h2 => ?_, _, TT, fun i hi => ?_⟩
  · unfold X13_init_f X13_init inT
    rw [ob_e e1]
    refine (ob_e e2).trans ?_
    rw [ob_e e3]
    refine (ob_e e4).trans ?_
    rw [ob_e e5]
    refine (ob_e e6).trans ?_
    rw [ob_e e7]
    refine (ob_e e8).trans ?_
    rw [ob_e e9]
    refine (ob_e e10).trans ?_
    rw [ob_e e11]
    refine (ob_e e12).trans ?_
    rw [ob_e e13]
    refine (ob_e e14).trans ?_
    rw [ob_e e15]
    refine (ob_e e16).trans ?_
    rw [ob_e g8]
    refine (ob_e e17).trans ?_
    rw [ob_e e18]
    refine (ob_e e19).trans ?_
    rw [ob_e e20]
    refine (ob_e e21).trans ?_
    refine (ob_e e22).trans ?_
    rw [ob_e e23]
    refine (ob_e e24).trans ?_
    rw [ob_e e25, ob_e e26, ob_e e27, ob_e e28, ob_e e29, ob_e e30, ob_e e31, ob_e e32, ob_e e33, ob_e e34]
    exact ob_e e35
  · obtain rfl | rfl | rfl | rfl | rfl | rfl | rfl | rfl | rfl | rfl | rfl : k = 1 ∨ k = 2 ∨ k = 3 ∨ k = 4 ∨ k = 5 ∨ k = 6 ∨ k = 7 ∨ k = 8 ∨ k = 9 ∨ k = 10 ∨ k = 11 := by omega
    · exact A1.fr Q1.1 (jmn (by decide) (by decide))
    · exact A2.fr Q3.1 (jmn (by decide) (by decide))
    · exact A3.fr Q5.1 (jmn (by decide) (by decide))
    · exact A4.fr Q7.1 (jmn (by decide) (by decide))
    · exact A5.fr Q9.1 (jmn (by decide) (by decide))
    · exact A6.fr Q11.1 (jmn (by decide) (by decide))
    · exact A7.fr Q13.1 (jmn (by decide) (by decide))
    · exact A8.fr Q15.1 (jmn (by decide) (by decide))
    · exact A9.fr Q18.1 (jmn (by decide) (by decide))
    · exact A10.fr Q20.1 (jmn (by decide) (by decide))
    · exact A11.fr Q23.1 (jmn (by decide) (by decide))
  · obtain rfl | rfl | rfl | rfl | rfl | rfl | rfl | rfl | rfl : i = 0 ∨ i = 1 ∨ i = 2 ∨ i = 3 ∨ i = 4 ∨ i = 5 ∨ i = 6 ∨ i = 7 ∨ i = 8 := by omega
    all_goals rfl
theorem M_addFirst (hN : 100000 ≤ gN E) {fi : Nat → Int32} {G : Nat → Nat → Int32} {r : Nat} {x : Nat → Int32} (h : MX E w m 1 fi G (repT 3 r x gT0)) (hr : r < 60) (hx : ∀ j, j < (r + 1) * 3 → vIn (x j)) : ∃ w' G', X13_addFirst_f E m (x (r * 3)) (x (r * 3 + 1)) (x (r * 3 + 2)) w.1 = some w'.1 ∧ FS E J30 w w' ∧ MX E w' m 1 fi G' (repT 3 (r + 1) x gT0) := by
  obtain ⟨w1, e1, F1, h1⟩ := h.1.st 7 (i := 0) (by omega) (by omega) (by decide) (x (r * 3))
  obtain ⟨w2, e2, F2, h2⟩ := h1.st 7 (i := 1) (by omega) (by omega) (by decide) (x (r * 3 + 1))
  obtain ⟨w3, e3, F3, h3⟩ := h2.st 7 (i := 2) (by omega) (by omega) (by decide) (x (r * 3 + 2))
  rw [updG_t, updG_t, updG_s, updG_s] at h3
  have hr' : tR (repT 3 r x gT0) = r := rfl
  have h3x : MX E w3 m 1 fi _ (repT 3 r x gT0) := ⟨h3, Or.inl rfl, by rw [updG_o _ _ (by decide)]; exact h.2.2.1, h.2.2.2⟩
  obtain ⟨w4, G4, e4, F4, h4, o4⟩ := h3x.putR (z := fun c => x (r * 3 + c)) hN (fun c hc => hx _ (by have hc : c < 3 := hc; omega)) (fun c hc => by
    have hc : c < 3 := hc
    rw [updG_s]
    obtain rfl | rfl | rfl : c = 0 ∨ c = 1 ∨ c = 2 := by omega
    all_goals rfl) (by rw [hr']; exact hr)
  have hap : apT (repT 3 r x gT0) (fun c => x (r * 3 + c)) = repT 3 (r + 1) x gT0 := repT_s
  rw [hap] at h4
  refine ⟨w4, G4, ?_, ((F1.trans F2).trans F3).trans F4, h4⟩
  have e1 : gwaI E w.1 (m + 7) (0 : Int32) (x (r * 3)) = some w1.1 := e1
  have e2 : gwaI E w1.1 (m + 7) (1 : Int32) (x (r * 3 + 1)) = some w2.1 := e2
  have e3 : gwaI E w2.1 (m + 7) (2 : Int32) (x (r * 3 + 2)) = some w3.1 := e3
  unfold X13_addFirst_f X13_addFirst
  rw [ob_e h.1.f6, ob_e e1, ob_e h1.f6, ob_e e2, ob_e h2.f6, ob_e e3, ob_e h3.cl, ob_e e4]
theorem M_init (hO : gOK E) {y : Nat} (hR : RM E w (y + 9000)) (h : Ob w (10, 30, 0) m 11 [.null, .null, .null, .null, .null, .null, .null, .null, .null, .int 0, .int 0, .int 0, .int 0, .int 0, .null, .int 0, .null, .int 0, .int 0, .int 0, .int 0, .int 0, .int 0, .int 0, .int 0, .int 0, .null, .null, .int 0]) (ha : w.1.2.1 = m + 1) : ∃ w', X13_init_f E m w.1 = some w'.1 ∧ RX E w' m 0 gQ0 ∧ FS (E0 E) J30 w w' ∧ RM E w' y := by
  have hN := hO.1
  have hb0 := hR.bg (by omega)
  have hb : BG E w (y + 8988 + 1 + 1 + 1 + 1 + 1 + 1 + 1 + 1 + 1 + 1 + 1 + 1) (6 * y + 3321 + 9 + 140 + 700 + 60 + 60 + 6 + 60 + 33096 + 4137 + 4137 + 4137 + 4137) := hb0.le (by omega) (by omega)
  obtain ⟨w1, c, s, e1, N1, hc, hs, h1⟩ := M_make hO hb h ha
  have h1 : MS E w1 m (m + 1) fiZ (fun _ _ => 0) := h1
  have hR1 : RM E w1 y := N1.rmr hc hs hR
  obtain ⟨w2, G2, e2, F2, h2, -⟩ := h1.begin_ hN (Or.inl rfl) (C := 3) (by omega) (by omega) (fun i => firstC.getD i 0) gT0
  obtain ⟨w3, G3, e3, F3, h3⟩ := M_addFirst hN h2 (by omega) (fun j hj => first_v j (by omega))
  obtain ⟨w4, G4, e4, F4, h4⟩ := M_addFirst hN h3 (by omega) (fun j hj => first_v j (by omega))
  obtain ⟨w5, G5, e5, F5, h5⟩ := M_addFirst hN h4 (by omega) (fun j hj => first_v j (by omega))
  obtain ⟨w6, G6, e6, F6, h6⟩ := M_addFirst hN h5 (by omega) (fun j hj => first_v j (by omega))
  obtain ⟨w7, G7, e7, F7, h7⟩ := M_addFirst hN h6 (by omega) (fun j hj => first_v j (by omega))
  obtain ⟨w8, G8, e8, F8, h8⟩ := M_addFirst hN h7 (by omega) (fun j hj => first_v j (by omega))
  have e2 : X13_begin_f E m (3 : Int32) w1.1 = some w2.1 := e2
  have e3 : X13_addFirst_f E m (5 : Int32) (-2 : Int32) (7 : Int32) w2.1 = some w3.1 := e3
  have e4 : X13_addFirst_f E m (1 : Int32) (-2 : Int32) (7 : Int32) w3.1 = some w4.1 := e4
  have e5 : X13_addFirst_f E m (5 : Int32) (0 : Int32) (3 : Int32) w4.1 = some w5.1 := e5
  have e6 : X13_addFirst_f E m (9 : Int32) (-2 : Int32) (7 : Int32) w5.1 = some w6.1 := e6
  have e7 : X13_addFirst_f E m (1 : Int32) (4 : Int32) (3 : Int32) w6.1 = some w7.1 := e7
  have e8 : X13_addFirst_f E m (5 : Int32) (0 : Int32) (7 : Int32) w7.1 = some w8.1 := e8
  have F28 := (((((F2.trans F3).trans F4).trans F5).trans F6).trans F7).trans F8
  have hp : 0 < w1.1.2.1 := by have := N1.2.1; omega
  refine ⟨w8, ?_, ⟨fiZ, G8, h8.1, rfl, rfl, rfl, rfl, rfl, rfl, rfl, h8.2.2.1, fun z => ?_, fun i hi => absurd hi (Nat.not_lt_zero _), fun i hi => absurd hi (Nat.not_lt_zero _), fun i hi => absurd hi (Nat.not_lt_zero _)⟩, (N1.1.mono (fun t z => ?_)).trans (F28.e0 hp), F28.2.2.2 _ hR1⟩
  · rw [e1]
    unfold inT
    rw [ob_e h1.cl, ob_e e2, ob_e h2.1.cl, ob_e e3, ob_e h3.1.cl, ob_e e4, ob_e h4.1.cl, ob_e e5, ob_e h5.1.cl, ob_e e6, ob_e h6.1.cl, ob_e e7, ob_e h7.1.cl, ob_e e8]
  · cases (show false = true from z)
  · show t.2.1 = 30
    rcases z with z | z
    · rw [z]
    · rw [z]
end MK6
