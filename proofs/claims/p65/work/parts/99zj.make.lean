/-! pure: objects are made -/
/-- room for c cells and s slots more -/
def BG (E : gE) (w : gWd) (c s : Nat) : Prop := w.1.2.1 + c ≤ gK E ∧ w.1.2.2 + s ≤ gM E ∧ 0 < w.1.2.1 ∧ ∀ a, w.1.2.1 ≤ a → gro E a = false
/-- every dictionary has room for 16 -/
def CP (w : gWd) : Prop := ∀ j i, w.2.2 j i = 16
/-- c cells and s slots have been made, and nothing old has changed but what is J's -/
def NW (E : gE) (J : Nat × Nat × Nat → Prop) (w w' : gWd) (c s : Nat) : Prop := FS (E0 E) J w w' ∧ w'.1.2.1 = w.1.2.1 + c ∧ w'.1.2.2 = w.1.2.2 + s ∧ w'.2.2 = w.2.2
section NN
variable {E : gE} {w w' w2 : gWd} {J J' : Nat × Nat × Nat → Prop} {c s c' s' n k i a : Nat} {t : Nat × Nat × Nat}
theorem NW.bg (h : NW E J w w' c s) (hb : BG E w (c + c') (s + s')) : BG E w' c' s' := by
  obtain ⟨-, h1, h2, h3⟩ := h
  obtain ⟨b1, b2, b3, b4⟩ := hb
  exact ⟨by omega, by omega, by omega, fun a ha => b4 a (by omega)⟩
theorem NW.cp (h : NW E J w w' c s) (hc : CP w) : CP w' := fun j i => by
  rw [h.2.2.2]
  exact hc j i
theorem BG.le (hb : BG E w c s) (h1 : c' ≤ c) (h2 : s' ≤ s) : BG E w c' s' := by
  obtain ⟨b1, b2, b3, b4⟩ := hb
  exact ⟨by omega, by omega, b3, b4⟩
theorem NW.tr (h : NW E J w w' c s) (h2 : NW E J w' w2 c' s') : NW E J w w2 (c + c') (s + s') := by
  obtain ⟨a1, a2, a3, a4⟩ := h
  obtain ⟨b1, b2, b3, b4⟩ := h2
  exact ⟨a1.trans b1, by omega, by omega, b4.trans a4⟩
theorem NW.mono (h : NW E J w w' c s) (hJ : ∀ t, J t → J' t) : NW E J' w w' c s := ⟨h.1.mono hJ, h.2⟩
theorem NW.eq (h : NW E J w w' c s) (hc : c = c') (hs : s = s') : NW E J w w' c' s' := by
  subst hc hs
  exact h
/-- a new cell -/
theorem nw_cell (hw : 0 < w.1.2.1) (e : va_E) : NW E J w (wNew w t e n w.2.2) 1 n := by
  refine ⟨⟨Nat.le_succ _, fun a ha => ⟨va_up_ne _ _ (Nat.ne_of_lt ha), fun _ => up_ne (Nat.ne_of_lt ha)⟩, fun _ _ _ => rfl, fun x hx => ?_⟩, rfl, rfl, rfl⟩
  exfalso
  have h2 := hx.2.1
  have h3 : gK (E0 E) = 0 := rfl
  rw [h3] at h2
  omega
theorem mkO (hb : BG E w (c + 1) (s + n)) (ci : Nat) (fs : List Value) (hn : fs.length = n) (t : Nat × Nat × Nat) : ∃ w', gnew E w.1 ci fs = some (w.1.2.1, w'.1) ∧ NW E (fun _ => False) w w' 1 n ∧ Ob w' t w.1.2.1 ci fs := by
  obtain ⟨b1, b2, b3, b4⟩ := hb
  subst hn
  refine ⟨wNew w t (.inr (ci, fs)) fs.length w.2.2, ?_, nw_cell b3 _, va_up_self _ _ _, Nat.lt_succ_self _, up_same⟩
  unfold gnew
  rw [if_pos ⟨by omega, by omega⟩]
  rfl
theorem gna_ok {q : Nat → vp_A} (hb : BG E w (c + 1) (s + n)) (hn : n ≤ 60000000) (k : Nat) (t : Nat × Nat × Nat) : gna E k q w.1 (nI n) = some (w.1.2.1, (wNew w t (.inl (gcy E k, q n)) n w.2.2).1) := by
  obtain ⟨b1, b2, b3, b4⟩ := hb
  unfold gna
  rw [nI_clamp (show n < 2 ^ 31 by omega), if_pos ⟨nI_pos (by omega), hn, by omega, by omega⟩]
  rfl
theorem mkI (hb : BG E w (c + 1) (s + n)) (hn : n ≤ 60000000) (t : Nat × Nat × Nat) : ∃ w', gnaI E w.1 (nI n) = some (w.1.2.1, w'.1) ∧ NW E (fun _ => False) w w' 1 n ∧ ArI (E0 E) w' t w.1.2.1 n (fun _ => 0) :=
  ⟨_, gna_ok hb hn 0 t, nw_cell hb.2.2.1 _, va_up_self _ _ _, Nat.lt_succ_self _, hb.2.2.2 _ (Nat.le_refl _), up_same⟩
theorem mkB (hb : BG E w (c + 1) (s + n)) (hn : n ≤ 60000000) (t : Nat × Nat × Nat) : ∃ w', gnaB E w.1 (nI n) = some (w.1.2.1, w'.1) ∧ NW E (fun _ => False) w w' 1 n ∧ ArB (E0 E) w' t w.1.2.1 n (fun _ => 0) :=
  ⟨_, gna_ok hb hn 1 t, nw_cell hb.2.2.1 _, va_up_self _ _ _, Nat.lt_succ_self _, hb.2.2.2 _ (Nat.le_refl _), up_same⟩
theorem mkJ (hb : BG E w (c + 1) (s + n)) (hn : n ≤ 60000000) (t : Nat × Nat × Nat) : ∃ w', gnaJ E w.1 (nI n) = some (w.1.2.1, w'.1) ∧ NW E (fun _ => False) w w' 1 n ∧ ArJ (E0 E) w' t w.1.2.1 n (fun _ => 0) :=
  ⟨_, gna_ok hb hn 2 t, nw_cell hb.2.2.1 _, va_up_self _ _ _, Nat.lt_succ_self _, hb.2.2.2 _ (Nat.le_refl _), up_same⟩
theorem mkR (hb : BG E w (c + 1) (s + n)) (hn : n ≤ 60000000) (k : Nat) (t : Nat × Nat × Nat) : ∃ w', gnaR E k w.1 (nI n) = some (w.1.2.1, w'.1) ∧ NW E (fun _ => False) w w' 1 n ∧ ArR (E0 E) w' t k w.1.2.1 n (fun _ => none) :=
  ⟨_, gna_ok hb hn k t, nw_cell hb.2.2.1 _, va_up_self _ _ _, Nat.lt_succ_self _, hb.2.2.2 _ (Nat.le_refl _), up_same⟩
/-- a field of a new object is put -/
theorem npt {ci : Nat} {fs : List Value} (h : Ob w t a ci fs) (k : Nat) (v : Value) (hk : k < fs.length) : ∃ w', gpf E w.1 a ci k v = some w'.1 ∧ NW E (fun x => x = t) w w' 0 0 ∧ Ob w' t a ci (fs.set k v) := by
  obtain ⟨e1, O1, F1⟩ := h.put (E := E0 E) k v hk (J := fun x => x = t) rfl
  exact ⟨_, e1, ⟨F1, rfl, rfl, rfl⟩, O1⟩
/-- a reference to an object is put into a new array -/
theorem nst {ci : Nat} {fs : List Value} {g : Nat → Option Nat} {t2 : Nat × Nat × Nat} {v : Nat} (h : ArR (E0 E) w t k a n g) (hv : Ob w t2 v ci fs) (hi : i < n) (hn : n < 2 ^ 31) : ∃ w', gwaR E k ci w.1 a (nI i) v = some w'.1 ∧ NW E (fun x => x = t) w w' 0 0 ∧ ArR (E0 E) w' t k a n (va_up g i (some v)) := by
  obtain ⟨h1, h2, h3, h4⟩ := h
  have hv3 : w.1.1 v = .inr (ci, fs) := hv.2.2
  have hx : gcy (E0 E) k = gcy E k := rfl
  rw [hx] at h4
  have h4 : w.1.1 a = _ := h4
  refine ⟨wUp w a (.inl (gcy E k, n, .inr (.inr (.inr (.inr (va_up g i (some v))))))), ?_, ⟨FS.up (by rw [h1]), rfl, rfl, rfl⟩, h1, h2, h3, wUp_at⟩
  unfold gwaR
  rw [h4, hv3]
  simp only [true_and]
  rw [if_pos (nI_in hi hn), nI_clamp (by omega)]
  rfl
end NN
abbrev ff0 : Nat → Bool := fun _ => false
theorem ff_ct : ∀ n, fb_ct ff0 n = 0
  | 0 => rfl
  | n + 1 => by
    show fb_ct ff0 n + _ = 0
    rw [ff_ct n]
    rfl
abbrev tNo : Nat × Nat × Nat → Prop := fun _ => False
section MK
variable {E : gE} {w : gWd} {a j c cc ss : Nat}
/-- a new dictionary -/
theorem mk_dict (hb : BG E w (cc + 1) (ss + 16)) (hc : CP w) (h : Ob w (8, j, c) a 2 [.null, .int 0]) : ∃ w', X3_init_f E a w.1 = some w'.1 ∧ NW E (fun t => t = (8, j, c)) w w' 1 16 ∧ RD (E0 E) w' a j c ff0 := by
  obtain ⟨w1, e1, N1, A1⟩ := mkI hb (by omega) (9, j, c)
  have h1 := h.fr N1.1 id
  obtain ⟨w2, e2, N2, O2⟩ := npt (E := E) h1 0 (.ref w.1.2.1) (Nat.le_of_ble_eq_true rfl)
  have A2 := A1.fr N2.1 (t3_ne (by omega))
  refine ⟨w2, ?_, (N1.mono (fun _ z => z.elim)).tr N2, fun p _ => rfl, w.1.2.1, fun _ => 0, ?_, ?_, ?_, ?_, fun i hi => ?_⟩
  · unfold X3_init_f X3_init
    have e1 : gnaI E w.1 (16 : Int32) = some (w.1.2.1, w1.1) := e1
    rw [ob_e e1]
    exact ob_e e2
  · have e : dsz ff0 = 0 := ff_ct _
    rw [e]
    exact O2
  · rw [N2.2.2.2, N1.2.2.2, hc]
    exact A2
  · rw [N2.2.2.2, N1.2.2.2, hc]
    exact ⟨0, by omega, by decide⟩
  · have e : dsz ff0 = 0 := ff_ct _
    rw [e]
    exact Nat.zero_le _
  · have e : dsz ff0 = 0 := ff_ct _
    rw [e] at hi
    omega
abbrev Jcl (j c : Nat) : Nat × Nat × Nat → Prop := fun t => t.2 = (j, c) ∧ 6 ≤ t.1
theorem Jcl1 {j c κ : Nat} (hk : 6 ≤ κ) : ∀ t : Nat × Nat × Nat, t = (κ, j, c) → Jcl j c t := fun t z => by
  rw [z]
  exact ⟨rfl, hk⟩
/-- a new column -/
theorem mk_col (hb : BG E w (cc + 3) (ss + 78)) (hc : CP w) (h : Ob w (6, j, c) a 0 [.null, .null, .int 0]) (ha : w.1.2.1 = a + 1) : ∃ w', X1_init_f E a w.1 = some w'.1 ∧ NW E (Jcl j c) w w' 3 78 ∧ RC (E0 E) w' a j c 0 (fun _ => 0) ff0 ∧ Ob w' (6, j, c) a 0 [.ref (a + 1), .ref (a + 2), .int 0] := by
  obtain ⟨w1, e1, N1, A1⟩ := mkI (n := 60) (c := cc + 2) (s := ss + 18) (hb.le (by omega) (by omega)) (by omega) (7, j, c)
  have e1 : gnaI E w.1 (60 : Int32) = some (w.1.2.1, w1.1) := e1
  obtain ⟨w2, e2, N2, O2⟩ := npt (E := E) (h.fr N1.1 id) 0 (.ref w.1.2.1) (Nat.le_of_ble_eq_true rfl)
  have N12 := (N1.mono (J' := fun t => t = (6, j, c)) (fun _ z => z.elim)).tr N2
  have b2 : BG E w2 (cc + 2) (ss + 18) := N12.bg (hb.le (by omega) (by omega))
  obtain ⟨w3, e3, N3, O3⟩ := mkO (n := 2) (c := cc + 1) (s := ss + 16) (b2.le (by omega) (by omega)) 2 [.null, .int 0] rfl (8, j, c)
  have b3 : BG E w3 (cc + 1) (ss + 16) := N3.bg (b2.le (by omega) (by omega))
  obtain ⟨w4, e4, N4, D4⟩ := mk_dict b3 (N3.cp (N12.cp hc)) O3
  obtain ⟨w5, e5, N5, O5⟩ := npt (E := E) ((O2.fr N3.1 id).fr N4.1 (t3_ne (by decide))) 1 (.ref w2.1.2.1) (Nat.le_of_ble_eq_true rfl)
  have a2 : w2.1.2.1 = a + 2 := by
    have x1 := N12.2.1
    omega
  have A5 := (((A1.fr N2.1 (t3_ne (by decide))).fr N3.1 id).fr N4.1 (t3_ne (by decide))).fr N5.1 (t3_ne (by decide))
  have D5 := D4.fr N5.1 (t3_ne (by decide)) (t3_ne (by decide))
  rw [ha] at A5 e1 e2 O5
  rw [a2] at O5 D5 e3 e4 e5
  refine ⟨w5, ?_, (((N12.mono (Jcl1 (by decide))).tr (N3.mono (fun _ z => z.elim))).tr (N4.mono (Jcl1 (by decide)))).tr (N5.mono (Jcl1 (by decide))), ⟨⟨O5, by omega, _, A5, fun r hr => absurd hr (Nat.not_lt_zero _)⟩, D5⟩, O5⟩
  unfold X1_init_f X1_init
  rw [ob_e e1]
  refine (ob_e e2).trans ?_
  rw [ob_e e3, ob_e e4]
  exact ob_e e5
/-- a new filter -/
theorem mk_filter (hb : BG E w (cc + 3) (ss + 24)) (h : Ob w (2, j, 0) a 3 [.null, .null, .null, .int 0]) (ha : w.1.2.1 = a + 1) : ∃ w', X4_init_f E a w.1 = some w'.1 ∧ NW E (fun t => t = (2, j, 0)) w w' 3 24 ∧ RF (E0 E) w' a j 0 (fun _ => 0) (fun _ => 0) (fun _ => 0) := by
  obtain ⟨w1, e1, N1, A1⟩ := mkI (n := 8) (c := cc + 2) (s := ss + 16) (hb.le (by omega) (by omega)) (by omega) (3, j, 0)
  have e1 : gnaI E w.1 (8 : Int32) = some (w.1.2.1, w1.1) := e1
  obtain ⟨w2, e2, N2, O2⟩ := npt (E := E) (h.fr N1.1 id) 0 (.ref w.1.2.1) (Nat.le_of_ble_eq_true rfl)
  have N12 := (N1.mono (J' := fun t => t = (2, j, 0)) (fun _ z => z.elim)).tr N2
  have b2 : BG E w2 (cc + 2) (ss + 16) := N12.bg (hb.le (by omega) (by omega))
  obtain ⟨w3, e3, N3, A3⟩ := mkI (n := 8) (c := cc + 1) (s := ss + 8) (b2.le (by omega) (by omega)) (by omega) (4, j, 0)
  have e3 : gnaI E w2.1 (8 : Int32) = some (w2.1.2.1, w3.1) := e3
  obtain ⟨w4, e4, N4, O4⟩ := npt (E := E) (O2.fr N3.1 id) 1 (.ref w2.1.2.1) (Nat.le_of_ble_eq_true rfl)
  have N14 := (N12.tr (N3.mono (fun _ z => z.elim))).tr N4
  have b4 : BG E w4 (cc + 1) (ss + 8) := N14.bg (hb.le (by omega) (by omega))
  obtain ⟨w5, e5, N5, A5⟩ := mkI (n := 8) (c := cc) (s := ss) b4 (by omega) (5, j, 0)
  have e5 : gnaI E w4.1 (8 : Int32) = some (w4.1.2.1, w5.1) := e5
  obtain ⟨w6, e6, N6, O6⟩ := npt (E := E) (O4.fr N5.1 id) 2 (.ref w4.1.2.1) (Nat.le_of_ble_eq_true rfl)
  have a2 : w2.1.2.1 = a + 2 := by
    have x1 := N12.2.1
    omega
  have a4 : w4.1.2.1 = a + 3 := by
    have x1 := N14.2.1
    omega
  have A1' := ((((A1.fr N2.1 (t3_ne (by decide))).fr N3.1 id).fr N4.1 (t3_ne (by decide))).fr N5.1 id).fr N6.1 (t3_ne (by decide))
  have A3' := ((A3.fr N4.1 (t3_ne (by decide))).fr N5.1 id).fr N6.1 (t3_ne (by decide))
  have A5' := A5.fr N6.1 (t3_ne (by decide))
  rw [ha] at A1' O6
  rw [a2] at A3' O6
  rw [a4] at A5' O6
  refine ⟨w6, ?_, (N14.tr (N5.mono (fun _ z => z.elim))).tr N6, O6, by omega, ⟨_, A1', fun i hi => absurd hi (Nat.not_lt_zero _)⟩, ⟨_, A3', fun i hi => absurd hi (Nat.not_lt_zero _)⟩, _, A5', fun i hi => absurd hi (Nat.not_lt_zero _)⟩
  unfold X4_init_f X4_init
  rw [ob_e e1]
  refine (ob_e e2).trans ?_
  rw [ob_e e3]
  refine (ob_e e4).trans ?_
  rw [ob_e e5]
  exact ob_e e6
end MK
def gT0 : gT := (1, fun _ => (0, fun _ => 0, ff0), 0, fun _ => 0, fun _ => 0, fun _ => 0)
section MK2
variable {E : gE} {a j cc ss : Nat}
theorem mk_cols (hj : j < 20) : ∀ (k c q : Nat) (w : gWd) (g : Nat → Option Nat), c + k = 6 → k < q → BG E w (cc + 4 * k) (ss + 81 * k) → CP w → w.1.2.1 = a + 6 + 4 * c → Ob w (0, j, 0) a 9 [.ref (a + 1), .int 1, .ref (a + 2)] → ArR (E0 E) w (1, j, 0) 4 (a + 1) 6 g → (∀ i, i < c → g i = some (a + 6 + 4 * i)) → RF (E0 E) w (a + 2) j 0 (fun _ => 0) (fun _ => 0) (fun _ => 0) → (∀ i, i < c → RC (E0 E) w (a + 6 + 4 * i) j i 0 (fun _ => 0) ff0) → ∃ w', X11_init_31 E q a (nI c) w.1 = some w'.1 ∧ NW E (Js j) w w' (4 * k) (81 * k) ∧ RS (E0 E) w' a j gT0 := by
  intro k
  induction k with
  | zero =>
    intro c q w g hc hq hb hcp hw hO hA hg hF hR
    obtain ⟨q, rfl⟩ : ∃ z, q = z + 1 := ⟨q - 1, by omega⟩
    have hc6 : c = 6 := by omega
    subst hc6
    refine ⟨w, ?_, ⟨FS.rf, rfl, rfl, rfl⟩, hO, ⟨g, hA, hg⟩, hF, hR⟩
    show X11_init_31_s E (X11_init_31 E q) a (nI 6) w.1 = _
    unfold X11_init_31_s
    rw [if_pos (by decide)]
  | succ k ih =>
    intro c q w g hc hq hb hcp hw hO hA hg hF hR
    obtain ⟨q, rfl⟩ : ∃ z, q = z + 1 := ⟨q - 1, by omega⟩
    obtain ⟨w1, e1, N1, O1⟩ := mkO (n := 3) (c := cc + 4 * k + 3) (s := ss + 81 * k + 78) (hb.le (by omega) (by omega)) 0 [.null, .null, .int 0] rfl (6, j, c)
    have b1 : BG E w1 (cc + 4 * k + 3) (ss + 81 * k + 78) := N1.bg (hb.le (by omega) (by omega))
    rw [hw] at e1 O1
    obtain ⟨w2, e2, N2, C2, P2⟩ := mk_col (cc := cc + 4 * k) (ss := ss + 81 * k) b1 (N1.cp hcp) O1 (by rw [N1.2.1, hw])
    have nJ : ∀ κ x, κ < 6 → ¬ Jcl j c (κ, j, x) := fun κ x hk z => by
      have := z.2
      have this : 6 ≤ κ := this
      omega
    have A2 := (hA.fr N1.1 id).fr N2.1 (nJ _ _ (by decide))
    obtain ⟨w3, e3, N3, A3⟩ := nst (E := E) (i := c) A2 P2 (by omega) (by decide)
    have N13 := ((N1.mono (J' := Js j) (fun _ z => z.elim)).tr (N2.mono (J' := Js j) (fun t z => by
      have z1 := congrArg Prod.fst z.1
      exact z1))).tr (N3.mono (J' := Js j) (fun t z => by rw [z]))
    have O3 := ((hO.fr N1.1 id).fr N2.1 (nJ _ _ (by decide))).fr N3.1 (t3_ne (by decide))
    have F3 := ((hF.fr N1.1 (fun _ _ _ => id)).fr N2.1 (fun κ _ x => nJ _ _ x)).fr N3.1 (fun κ x _ => t3_ne (by omega))
    have hne : ∀ κ x i, κ ≠ 1 → ¬ ((κ, x, i) : Nat × Nat × Nat) = (1, j, 0) := fun κ x i hk z => hk (congrArg Prod.fst z)
    have C3 := C2.fr N3.1 (fun κ x => hne _ _ _ (by omega))
    have R3 : ∀ i, i < c + 1 → RC (E0 E) w3 (a + 6 + 4 * i) j i 0 (fun _ => 0) ff0 := fun i hi => by
      by_cases hic : i = c
      · subst hic
        exact C3
      · refine (((hR i (by omega)).fr N1.1 (fun _ _ => id)).fr N2.1 (fun κ _ z => ?_)).fr N3.1 (fun κ x => hne _ _ _ (by omega))
        have z1 : i = c := congrArg Prod.snd z.1
        exact hic z1
    obtain ⟨w4, e4, N4, S4⟩ := ih (c + 1) q w3 _ (by omega) (by omega) (N13.bg (hb.le (by omega) (by omega))) (N13.cp hcp) (by rw [N13.2.1, hw]; omega) O3 A3 (fun i hi => by
      by_cases hic : i = c
      · rw [hic, va_up_self]
      · rw [va_up_ne _ _ hic]
        exact hg i (by omega)) F3 R3
    refine ⟨w4, ?_, (N13.tr N4).eq (by omega) (by omega), S4⟩
    show X11_init_31_s E (X11_init_31 E q) a (nI c) w.1 = _
    unfold X11_init_31_s
    have r0 : gfR w.1 a 9 0 = some (a + 1) := gfR_o hO.2.2 rfl
    rw [if_neg (show ¬ (6 : Int32) ≤ nI c from nI_ge (b := 6) (by omega) (by omega)), ob_e r0, ob_e e1, ob_e e2, ob_e e3, nI_1]
    exact e4
set_option maxRecDepth 20000 in
/-- a new store -/
theorem mk_store (hN : 100000 ≤ gN E) {w : gWd} (hj : j < 20) (hb : BG E w (cc + 29) (ss + 520)) (hc : CP w) (h : Ob w (0, j, 0) a 9 [.null, .int 0, .null]) (ha : w.1.2.1 = a + 1) : ∃ w', X11_init_f E a w.1 = some w'.1 ∧ NW E (Js j) w w' 29 520 ∧ RS (E0 E) w' a j gT0 := by
  obtain ⟨w1, e1, N1, A1⟩ := mkR (n := 6) (c := cc + 28) (s := ss + 514) (hb.le (by omega) (by omega)) (by omega) 4 (1, j, 0)
  have e1 : gnaR E 4 w.1 (6 : Int32) = some (w.1.2.1, w1.1) := e1
  obtain ⟨w2, e2, N2, O2⟩ := npt (E := E) (h.fr N1.1 id) 0 (.ref w.1.2.1) (Nat.le_of_ble_eq_true rfl)
  obtain ⟨w3, e3, N3, O3⟩ := npt (E := E) O2 1 (.int 1) (Nat.le_of_ble_eq_true rfl)
  have N13 := ((N1.mono (J' := fun t => t = (0, j, 0)) (fun _ z => z.elim)).tr N2).tr N3
  have b3 : BG E w3 (cc + 28) (ss + 514) := N13.bg (hb.le (by omega) (by omega))
  obtain ⟨w4, e4, N4, O4⟩ := mkO (n := 4) (c := cc + 27) (s := ss + 510) (b3.le (by omega) (by omega)) 3 [.null, .null, .null, .int 0] rfl (2, j, 0)
  have a3 : w3.1.2.1 = a + 2 := by
    have x1 := N13.2.1
    omega
  have b4 : BG E w4 (cc + 27) (ss + 510) := N4.bg (b3.le (by omega) (by omega))
  rw [a3] at e4 O4
  obtain ⟨w5, e5, N5, F5⟩ := mk_filter (cc := cc + 24) (ss := ss + 486) b4 O4 (by rw [N4.2.1, a3])
  obtain ⟨w6, e6, N6, O6⟩ := npt (E := E) ((O3.fr N4.1 id).fr N5.1 (t3_ne (by decide))) 2 (.ref (a + 2)) (Nat.le_of_ble_eq_true rfl)
  have N16 := (((N13.mono (J' := Js j) (fun t z => by rw [z])).tr (N4.mono (fun _ z => z.elim))).tr (N5.mono (J' := Js j) (fun t z => by rw [z]))).tr (N6.mono (J' := Js j) (fun t z => by rw [z]))
  have b6 : BG E w6 (cc + 4 * 6) (ss + 81 * 6) := N16.bg (hb.le (by omega) (by omega))
  have A6 := ((((A1.fr N2.1 (t3_ne (by decide))).fr N3.1 (t3_ne (by decide))).fr N4.1 id).fr N5.1 (t3_ne (by decide))).fr N6.1 (t3_ne (by decide))
  rw [ha] at A6 O6
  have F6 := F5.fr N6.1 (fun κ x _ => t3_ne (by omega))
  obtain ⟨w7, e7, N7, S7⟩ := mk_cols hj 6 0 (gN E) w6 _ (by omega) (by omega) b6 (N16.cp hc) (by rw [N16.2.1, ha]) O6 A6 (fun i hi => absurd hi (Nat.not_lt_zero _)) F6 (fun i hi => absurd hi (Nat.not_lt_zero _))
  refine ⟨w7, ?_, (N16.tr N7).eq (by omega) (by omega), S7⟩
  unfold X11_init_f X11_init
  rw [ob_e e1]
  refine (ob_e e2).trans ((ob_e e3).trans ?_)
  rw [ob_e e4, ob_e e5]
  exact (ob_e e6).trans e7
end MK2
