/-! pure: the history, the packer -/
/-- the history at a: the next place, how many changes, the stores of the ring -/
def RH (E : gE) (w : gWd) (a nx sz : Nat) (st : Nat → gT) : Prop :=
  Ob w (10, 24, 0) a 4 [.ref (a + 1), .int (nI nx), .int (nI sz)] ∧ nx < 8 ∧ sz ≤ 8 ∧ (∃ g, ArR E w (11, 24, 0) 5 (a + 1) 8 g ∧ ∀ i, i < 8 → g i = some (a + 2 + 30 * i)) ∧ ∀ i, i < 8 → RS E w (a + 2 + 30 * i) (2 + i) (st i)
abbrev Jh : Nat × Nat × Nat → Prop := fun t => t.2.1 = 24 ∨ (2 ≤ t.2.1 ∧ t.2.1 < 10)
theorem RH.fr {E : gE} {J : Nat × Nat × Nat → Prop} {w w' : gWd} {a nx sz : Nat} {st : Nat → gT} (h : RH E w a nx sz st) (hF : FS E J w w') (hJ : ∀ κ j c, Jh (κ, j, c) → ¬ J (κ, j, c)) : RH E w' a nx sz st := by
  obtain ⟨h1, h2, h3, ⟨g, h4, h5⟩, h6⟩ := h
  exact ⟨h1.fr hF (hJ _ _ _ (Or.inl rfl)), h2, h3, ⟨g, h4.fr hF (hJ _ _ _ (Or.inl rfl)), h5⟩, fun i hi => (h6 i hi).fr hF (fun κ c => hJ _ _ _ (Or.inr ⟨Nat.le_add_right 2 i, by show 2 + i < 10; omega⟩))⟩
theorem RH.size {E : gE} {w : gWd} {a nx sz : Nat} {st : Nat → gT} (h : RH E w a nx sz st) : X5_size_f E w.1 a = some (nI sz) := by
  unfold X5_size_f X5_size
  rw [ob_e (gfI_o h.1.2.2 rfl)]
theorem RH.clear {E : gE} {w : gWd} {a nx sz : Nat} {st : Nat → gT} (h : RH E w a nx sz st) : ∃ w' : gWd, X5_clear_f E a w.1 = some w'.1 ∧ FS E Jh w w' ∧ RH E w' a nx 0 st := by
  obtain ⟨h1, h2, h3, ⟨g, h4, h5⟩, h6⟩ := h
  obtain ⟨e1, O1, F1⟩ := h1.put (E := E) 2 (.int 0) (Nat.le_of_ble_eq_true rfl) (J := fun t => t = (10, 24, 0)) rfl
  refine ⟨_, ?_, F1.mono (fun t z => Or.inl (by rw [z])), O1, h2, by omega, ⟨g, h4.fr F1 (t3_ne (by decide)), h5⟩, fun i hi => (h6 i hi).fr F1 (fun κ c z => by have := congrArg (fun t => t.2.1) z; simp only at this; omega)⟩
  unfold X5_clear_f X5_clear
  rw [ob_e e1]
theorem updF_fr {E : gE} {w w' : gWd} {a q : Nat} {st : Nat → gT} {U : gT} (h6 : ∀ i, i < 8 → RS E w (a + 2 + 30 * i) (2 + i) (st i)) (hF : FS E (Js (2 + q)) w w') (hU : RS E w' (a + 2 + 30 * q) (2 + q) U) : ∀ i, i < 8 → RS E w' (a + 2 + 30 * i) (2 + i) (if i = q then U else st i) := by
  intro i hi
  by_cases hz : i = q
  · rw [if_pos hz, hz]
    exact hU
  · rw [if_neg hz]
    exact (h6 i hi).fr hF (fun κ c z => by have : 2 + i = 2 + q := z; omega)
theorem RH.record {E : gE} {w : gWd} {a b nx sz x j : Nat} {st : Nat → gT} {S : gT} (hN : 100000 ≤ gN E) (h : RH E w a nx sz st) (hS : RS E w b j S) (hC : S.1 ≤ 6) (hj : j < 2) (hR : RM E w x) :
    ∃ w' : gWd, X5_record_f E a b w.1 = some w'.1 ∧ FS E Jh w w' ∧ RH E w' a ((nx + 1) % 8) (min (sz + 1) 8) (fun i => if i = nx then cpT S (st i) else st i) ∧ RS E w' b j S := by
  obtain ⟨h1, h2, h3, ⟨g, h4, h5⟩, h6⟩ := h
  have hcl := (h6 nx h2).cl
  obtain ⟨w1, e1, F1, R1⟩ := RS.copy hN (h6 nx h2) hS hC (by omega) (by omega) hR
  have O1 := h1.fr F1 (by show ¬ (24 = 2 + nx); omega)
  have A1 := h4.fr F1 (by show ¬ (24 = 2 + nx); omega)
  have S1 := hS.fr F1 (fun κ c => by show ¬ (j = 2 + nx); omega)
  have H1 := updF_fr h6 F1 R1
  obtain ⟨e2, O2, F2⟩ := O1.put (E := E) 1 (.int (nI ((nx + 1) % 8))) (Nat.le_of_ble_eq_true rfl) (J := fun t => t = (10, 24, 0)) rfl
  obtain ⟨e3, O3, F3⟩ := O2.put (E := E) 2 (.int (nI (min (sz + 1) 8))) (Nat.le_of_ble_eq_true rfl) (J := fun t => t = (10, 24, 0)) rfl
  have hno : ∀ κ j' c, j' ≠ 24 → ¬ ((κ, j', c) : Nat × Nat × Nat) = (10, 24, 0) := fun κ j' c hk z => hk (congrArg (fun t => t.2.1) z)
  refine ⟨_, ?_, (F1.mono (fun t z => Or.inr (by rw [z]; omega))).trans ((F2.mono (fun t z => Or.inl (by rw [z]))).trans (F3.mono (fun t z => Or.inl (by rw [z])))), ⟨O3, Nat.mod_lt _ (by decide), by omega, ⟨g, (A1.fr F2 (t3_ne (by decide))).fr F3 (t3_ne (by decide)), h5⟩, fun i hi => ?_⟩, (S1.fr F2 (fun κ c => hno _ _ _ (by omega))).fr F3 (fun κ c => hno _ _ _ (by omega))⟩
  · unfold X5_record_f X5_record
    have hl := h4.2.2.ld h2 (by omega) (h5 nx h2)
    rw [ob_e (gfR_o h1.2.2 rfl), ob_e (gfI_o h1.2.2 rfl), ob_e hl, ob_e hcl, ob_e e1, ob_e (gfI_o O1.2.2 rfl), ← nI_succ]
    have hm : nI (nx + 1) - nI (nx + 1) / (8 : Int32) * (8 : Int32) = nI ((nx + 1) % 8) := pk_rem (d := 8) (by omega) (by omega) (by omega)
    rw [hm, ob_e e2, ob_e (gfI_o O2.2.2 rfl), ← nI_succ]
    have hm2 : gmin (nI (sz + 1)) (8 : Int32) = nI (min (sz + 1) 8) := gmin_nI (b := 8) (by omega) (by omega)
    rw [hm2, ob_e e3]
  · have := ((H1 i hi).fr F2 (fun κ c => hno _ _ _ (by omega))).fr F3 (fun κ c => hno _ _ _ (by omega))
    show RS E _ _ _ (if i = nx then cpT S (st i) else st i)
    by_cases hz : i = nx
    · rw [if_pos hz] at this ⊢
      rw [hz] at this ⊢
      exact this
    · rw [if_neg hz] at this ⊢
      exact this
theorem RH.back {E : gE} {w : gWd} {a b nx sz x j : Nat} {st : Nat → gT} {S : gT} (hN : 100000 ≤ gN E) (h : RH E w a nx sz st) (hS : RS E w b j S) (hC : ∀ i, i < 8 → (st i).1 ≤ 6) (hj : j < 2) (hsz : 0 < sz) (hR : RM E w x) :
    ∃ w' : gWd, X5_takeBack_f E a b w.1 = some w'.1 ∧ FS E (fun t => t.2.1 = 24 ∨ t.2.1 = j) w w' ∧ RH E w' a ((nx + 7) % 8) (sz - 1) st ∧ RS E w' b j (cpT (st ((nx + 7) % 8)) S) := by
  obtain ⟨h1, h2, h3, ⟨g, h4, h5⟩, h6⟩ := h
  have hno : ∀ κ j' c, j' ≠ 24 → ¬ ((κ, j', c) : Nat × Nat × Nat) = (10, 24, 0) := fun κ j' c hk z => hk (congrArg (fun t => t.2.1) z)
  have hnx : (nx + 7) % 8 < 8 := Nat.mod_lt _ (by decide)
  obtain ⟨e1, O1, F1⟩ := h1.put (E := E) 1 (.int (nI ((nx + 7) % 8))) (Nat.le_of_ble_eq_true rfl) (J := fun t => t = (10, 24, 0)) rfl
  obtain ⟨e2, O2, F2⟩ := O1.put (E := E) 2 (.int (nI (sz - 1))) (Nat.le_of_ble_eq_true rfl) (J := fun t => t = (10, 24, 0)) rfl
  have H2 : ∀ i, i < 8 → RS E _ (a + 2 + 30 * i) (2 + i) (st i) := fun i hi => ((h6 i hi).fr F1 (fun κ c => hno _ _ _ (by omega))).fr F2 (fun κ c => hno _ _ _ (by omega))
  have A2 := (h4.fr F1 (t3_ne (by decide))).fr F2 (t3_ne (by decide))
  have S2 := (hS.fr F1 (fun κ c => hno _ _ _ (by omega))).fr F2 (fun κ c => hno _ _ _ (by omega))
  have hcl := S2.cl
  obtain ⟨w3, e3, F3, R3⟩ := RS.copy hN S2 (H2 _ hnx) (hC _ hnx) (by omega) (by omega) (F2.2.2.2 x (F1.2.2.2 x hR))
  refine ⟨w3, ?_, (F1.mono (fun t z => Or.inl (by rw [z]))).trans ((F2.mono (fun t z => Or.inl (by rw [z]))).trans (F3.mono (fun t z => Or.inr z))), ⟨O2.fr F3 (by show ¬ (24 = j); omega), hnx, by omega, ⟨g, A2.fr F3 (by show ¬ (24 = j); omega), h5⟩, fun i hi => (H2 i hi).fr F3 (fun κ c => by show ¬ (2 + i = j); omega)⟩, R3⟩
  unfold X5_takeBack_f X5_takeBack
  rw [ob_e (gfI_o h1.2.2 rfl)]
  have hm : ((nI nx + (8 : Int32)) - (1 : Int32)) - ((nI nx + (8 : Int32)) - (1 : Int32)) / (8 : Int32) * (8 : Int32) = nI ((nx + 7) % 8) := by
    have e : (nI nx + (8 : Int32)) - (1 : Int32) = nI (nx + 7) := by
      rw [show (8 : Int32) = nI 8 from rfl, nI_add]
      exact nI_pred (nx + 7)
    rw [e]
    exact pk_rem (d := 8) (by omega) (by omega) (by omega)
  have hl := A2.2.2.ld hnx (by omega) (h5 _ hnx)
  rw [hm, ob_e e1, ob_e (gfI_o O1.2.2 rfl), nI_sub1 hsz, ob_e e2, ob_e (gfR_o O2.2.2 rfl), ob_e (gfI_o O2.2.2 rfl), ob_e hl, ob_e hcl, ob_e e3]
/-! the packer -/
def bL (x : Int64) (b : Nat) : Bool := x.toBitVec.getLsbD b
theorem bL_ext {x y : Int64} (h : ∀ b, b < 64 → bL x b = bL y b) : x = y := Int64.toBitVec_inj.mp (BitVec.eq_of_getLsbD_eq (fun i hi => h i hi))
theorem bL_or (x y : Int64) (b : Nat) : bL (x ||| y) b = (bL x b || bL y b) := by unfold bL; rw [Int64.toBitVec_or, BitVec.getLsbD_or]
theorem bL_lN {m b : Nat} (hb : b < 64) : bL (lN m) b = m.testBit b := by
  unfold bL
  rw [wb_tb, BitVec.getLsbD_ofNat]
  simp [hb]
theorem bL_0 (b : Nat) : bL 0 b = false := BitVec.getLsbD_zero
theorem tb_hi {m k i : Nat} (h : m < 2 ^ k) (hi : k ≤ i) : m.testBit i = false := Nat.testBit_lt_two_pow (Nat.lt_of_lt_of_le h (Nat.pow_le_pow_right (by decide) hi))
/-- bit p of the packed words behind r rows -/
def pb (wd : Nat) (cd : Nat → Nat) (r p : Nat) : Bool := decide (p / wd < r) && (cd (p / wd)).testBit (p % wd)
theorem pb_s {wd r p : Nat} {cd : Nat → Nat} (hc : ∀ i, cd i < 2 ^ wd) : pb wd cd (r + 1) p = (pb wd cd r p || (decide (r * wd ≤ p) && (cd r).testBit (p - r * wd))) := by
  unfold pb
  by_cases h0 : wd = 0
  · subst h0
    have z : ∀ i, cd i = 0 := fun i => by have := hc i; simp at this; exact this
    simp [z]
  · have hd := Nat.div_add_mod p wd
    have hm := Nat.mod_lt p (Nat.pos_of_ne_zero h0)
    rcases Nat.lt_trichotomy (p / wd) r with h | h | h
    · have h3 : ¬ r * wd ≤ p := by
        intro hz
        have : r ≤ p / wd := (Nat.le_div_iff_mul_le (Nat.pos_of_ne_zero h0)).mpr hz
        omega
      simp [h, show p / wd < r + 1 by omega, h3]
    · have h3 : p - r * wd = p % wd := by
        rw [← h, Nat.mul_comm]
        omega
      have h4 : r * wd ≤ p := by
        rw [← h, Nat.mul_comm]
        omega
      simp [h, h3, h4]
    · have h4 : (r + 1) * wd ≤ p := by
        have : r + 1 ≤ p / wd := h
        exact (Nat.le_div_iff_mul_le (Nat.pos_of_ne_zero h0)).mp this
      rw [Nat.add_mul, Nat.one_mul] at h4
      have h5 := tb_hi (hc r) (show wd ≤ p - r * wd by omega)
      simp [show ¬ p / wd < r + 1 by omega, show ¬ p / wd < r by omega, h5]
/-- the packer at a -/
def RP (E : gE) (w : gWd) (a wd : Nat) (W : Nat → Int64) : Prop := Ob w (10, 21, 0) a 6 [.ref (a + 1), .int (nI wd)] ∧ ArJ E w (11, 21, 0) (a + 1) 15 W
abbrev J21 : Nat × Nat × Nat → Prop := fun t => t.2 = (21, 0)
theorem RP.fr {E : gE} {J : Nat × Nat × Nat → Prop} {w w' : gWd} {a wd : Nat} {W : Nat → Int64} (h : RP E w a wd W) (hF : FS E J w w') (hJ : ∀ κ, ¬ J (κ, 21, 0)) : RP E w' a wd W := ⟨h.1.fr hF (hJ _), h.2.fr hF (hJ _)⟩
theorem rem64 {n : Nat} (h : n < 2 ^ 31) : nI n - nI n / (64 : Int32) * (64 : Int32) = nI (n % 64) := pk_rem (d := 64) h (by omega) (by omega)
theorem div64 {n : Nat} (h : n < 2 ^ 31) : nI n / (64 : Int32) = nI (n / 64) := pk_div (d := 64) h (by omega) (by omega)
theorem tb_shl (m k b : Nat) : (m * 2 ^ k).testBit b = (decide (k ≤ b) && m.testBit (b - k)) := by
  rw [← Nat.shiftLeft_eq, Nat.testBit_shiftLeft]
theorem tb_shr (m k b : Nat) : (m / 2 ^ k).testBit b = m.testBit (k + b) := by
  rw [← Nat.shiftRight_eq_div_pow, Nat.testBit_shiftRight]
theorem RP.code {E : gE} {w : gWd} {a wd r : Nat} {W : Nat → Int64} {cd : Nat → Nat} (h : RP E w a wd W) (hwd : wd ≤ 15) (hr : r < 60) (hc : ∀ i, cd i < 2 ^ wd) (hW : ∀ q b, q < 15 → b < 64 → bL (W q) b = pb wd cd r (64 * q + b)) :
    ∃ (w' : gWd) (W' : Nat → Int64), X8_packCode_f E a (nI r) (lN (cd r)) w.1 = some w'.1 ∧ FS E J21 w w' ∧ RP E w' a wd W' ∧ ∀ q b, q < 15 → b < 64 → bL (W' q) b = pb wd cd (r + 1) (64 * q + b) := by
  obtain ⟨h1, h2⟩ := h
  have hbit : r * wd ≤ 59 * 15 := Nat.mul_le_mul (by omega) hwd
  have hcd : cd r < 2 ^ 15 := Nat.lt_of_lt_of_le (hc r) (Nat.pow_le_pow_right (by decide) hwd)
  have hq0 : r * wd / 64 < 14 := by omega
  have hsh : r * wd % 64 < 64 := Nat.mod_lt _ (by decide)
  have hdm := Nat.div_add_mod (r * wd) 64
  obtain ⟨e1, A1, F1⟩ := h2.st (i := r * wd / 64) (by omega) (by omega) (W (r * wd / 64) ||| lN (cd r * 2 ^ (r * wd % 64))) (J := fun t => t = (11, 21, 0)) rfl
  have O1 := h1.fr F1 (t3_ne (by decide))
  have hbits : ∀ q b, q < 15 → b < 64 → bL (vp_updL W (r * wd / 64) (W (r * wd / 64) ||| lN (cd r * 2 ^ (r * wd % 64))) q) b = (pb wd cd r (64 * q + b) || (decide (q = r * wd / 64) && (decide (r * wd ≤ 64 * q + b) && (cd r).testBit (64 * q + b - r * wd)))) := by
    intro q b hq hb
    unfold vp_updL
    by_cases hz : q = r * wd / 64
    · rw [if_pos hz, bL_or, bL_lN hb, tb_shl, ← hz, hW q b hq hb]
      have e3 : decide (r * wd % 64 ≤ b) = decide (r * wd ≤ 64 * q + b) := by
        rw [decide_eq_decide]
        omega
      have e4 : r * wd % 64 ≤ b → b - r * wd % 64 = 64 * q + b - r * wd := fun _ => by omega
      by_cases hy : r * wd % 64 ≤ b
      · rw [e3, e4 hy]
        simp
      · rw [← e3]
        simp [hy]
    · rw [if_neg hz, hW q b hq hb]
      simp [hz]
  have hread := h2.2.2.2.ld (i := r * wd / 64) (by omega) (by omega)
  have hstart : ∀ k : Option gS, X8_packCode_43 E a (lN (cd r)) (nI (r * wd / 64)) (nI (r * wd % 64)) (wUp w (a + 1) (.inl (gcy E 2, 15, .inr (.inl (vp_updL W (r * wd / 64) (W (r * wd / 64) ||| lN (cd r * 2 ^ (r * wd % 64)))))))).1 = k → X8_packCode_f E a (nI r) (lN (cd r)) w.1 = k := by
    intro k hk
    unfold X8_packCode_f X8_packCode
    rw [ob_e (gfI_o h1.2.2 rfl), nI_mul, rem64 (n := r * wd) (by omega), div64 (n := r * wd) (by omega), if_neg (show ¬ (15 : Int32) ≤ nI (r * wd / 64) from nI_ge (b := 15) (by omega) (by omega)), ob_e (gfR_o h1.2.2 rfl), ob_e hread]
    rw [show glshl (lN (cd r)) (nI (r * wd % 64)) = lN (cd r * 2 ^ (r * wd % 64)) from wb_shl _ hsh, ob_e e1]
    exact hk
  by_cases hsp : r * wd % 64 + wd ≤ 64
  · refine ⟨_, _, hstart _ ?_, F1.mono (fun t z => by rw [z]), ⟨O1, A1⟩, fun q b hq hb => ?_⟩
    · unfold X8_packCode_43
      rw [ob_e (gfI_o O1.2.2 rfl), nI_add, if_pos (show nI (r * wd % 64 + wd) ≤ (64 : Int32) from nI_le (b := 64) hsp (by omega))]
    · rw [hbits q b hq hb, pb_s hc]
      by_cases hz : q = r * wd / 64
      · simp [hz]
      · have : (decide (r * wd ≤ 64 * q + b) && (cd r).testBit (64 * q + b - r * wd)) = false := by
          by_cases hle : r * wd ≤ 64 * q + b
          · rw [tb_hi (hc r) (show wd ≤ 64 * q + b - r * wd by omega)]
            simp
          · simp [hle]
        rw [this]
        simp
  · have hread2 := A1.2.2.2.ld (i := r * wd / 64 + 1) (by omega) (by omega)
    obtain ⟨e2, A2, F2⟩ := A1.st (i := r * wd / 64 + 1) (by omega) (by omega) (vp_updL W (r * wd / 64) (W (r * wd / 64) ||| lN (cd r * 2 ^ (r * wd % 64))) (r * wd / 64 + 1) ||| lN (cd r / 2 ^ (64 - r * wd % 64))) (J := fun t => t = (11, 21, 0)) rfl
    refine ⟨_, _, hstart _ ?_, (F1.mono (fun t z => by rw [z])).trans (F2.mono (fun t z => by rw [z])), ⟨O1.fr F2 (t3_ne (by decide)), A2⟩, fun q b hq hb => ?_⟩
    · unfold X8_packCode_43
      rw [ob_e (gfI_o O1.2.2 rfl), nI_add, if_neg (show ¬ nI (r * wd % 64 + wd) ≤ (64 : Int32) from nI_ge (a := 64) (by omega) (by omega)), ← nI_succ, if_neg (show ¬ (15 : Int32) ≤ nI (r * wd / 64 + 1) from nI_ge (b := 15) (by omega) (by omega)), ob_e (gfR_o O1.2.2 rfl), ob_e hread2]
      rw [show (64 : Int32) - nI (r * wd % 64) = nI (64 - r * wd % 64) from nI_sub (a := 64) (by omega)]
      rw [show glushr (lN (cd r)) (nI (64 - r * wd % 64)) = lN (cd r / 2 ^ (64 - r * wd % 64)) from wb_shr (by omega) (by omega), ob_e e2]
    · rw [pb_s hc]
      show bL (if q = r * wd / 64 + 1 then _ else _) b = _
      by_cases hz : q = r * wd / 64 + 1
      · rw [if_pos hz, bL_or, bL_lN hb, tb_shr, ← hz, hbits q b hq hb]
        have e3 : 64 - r * wd % 64 + b = 64 * q + b - r * wd := by omega
        have e5 : r * wd ≤ 64 * q + b := by omega
        rw [e3]
        simp [show ¬ q = r * wd / 64 by omega, e5]
      · rw [if_neg hz, hbits q b hq hb]
        by_cases hy : q = r * wd / 64
        · simp [hy]
        · have : (decide (r * wd ≤ 64 * q + b) && (cd r).testBit (64 * q + b - r * wd)) = false := by
            by_cases hle : r * wd ≤ 64 * q + b
            · rw [tb_hi (hc r) (show wd ≤ 64 * q + b - r * wd by omega)]
              simp
            · simp [hle]
          rw [this]
          simp
theorem fl_loop {E : gE} {a n : Nat} (hn : n < 2 ^ 31) : ∀ (k i m : Nat) (w : gWd) (W : Nat → Int64), i + k = n → k < m → ArJ E w (11, 21, 0) a n W → (∀ q, q < i → W q = 0) →
    ∃ (w' : gWd) (W' : Nat → Int64), J7_fill_d0a16_6 E m a 0 (nI i) (nI n) w.1 = some w'.1 ∧ FS E (fun t => t = (11, 21, 0)) w w' ∧ ArJ E w' (11, 21, 0) a n W' ∧ ∀ q, q < n → W' q = 0 := by
  intro k
  induction k with
  | zero =>
    intro i m w W hi hm h hW
    obtain ⟨m, rfl⟩ : ∃ q, m = q + 1 := ⟨m - 1, by omega⟩
    refine ⟨w, W, ?_, FS.rf, h, by rw [show n = i by omega]; exact hW⟩
    show J7_fill_d0a16_6_s E (J7_fill_d0a16_6 E m) a 0 (nI i) (nI n) w.1 = _
    unfold J7_fill_d0a16_6_s
    rw [if_pos (nI_le (by omega) (by omega))]
  | succ k ih =>
    intro i m w W hi hm h hW
    obtain ⟨m, rfl⟩ : ∃ q, m = q + 1 := ⟨m - 1, by omega⟩
    obtain ⟨e1, A1, F1⟩ := h.st (i := i) (by omega) hn 0 (J := fun t => t = (11, 21, 0)) rfl
    obtain ⟨w', W', e2, F2, A2, H2⟩ := ih (i + 1) m _ _ (by omega) (by omega) A1 (fun q hq => by
      unfold vp_updL
      by_cases hz : q = i
      · rw [if_pos hz]
      · rw [if_neg hz]; exact hW q (by omega))
    refine ⟨w', W', ?_, F1.trans F2, A2, H2⟩
    show J7_fill_d0a16_6_s E (J7_fill_d0a16_6 E m) a 0 (nI i) (nI n) w.1 = _
    unfold J7_fill_d0a16_6_s
    rw [if_neg (nI_ge (by omega) (by omega)), ob_e e1, ← nI_succ]
    exact e2
theorem pkp_loop {E : gE} {a b j c n wd : Nat} {v : Nat → Int32} {f : Nat → Bool} {cd : Nat → Nat} (hN : 100000 ≤ gN E) (hwd : wd ≤ 15) (hv : ∀ r, r < n → vIn (v r) ∧ f (px (v r)) = true) (hcd0 : ∀ r, r < n → cd r = fb_ct f (px (v r))) (hc : ∀ i, cd i < 2 ^ wd) (hj : j < 20) : ∀ (k r m : Nat) (w : gWd) (W : Nat → Int64), r + k = n → k < m → RC E w b j c n v f → RP E w a wd W → (∀ q b, q < 15 → b < 64 → bL (W q) b = pb wd cd r (64 * q + b)) →
    ∃ (w' : gWd) (W' : Nat → Int64), X8_pack_21 E m a b (nI r) w.1 = some w'.1 ∧ FS E J21 w w' ∧ RC E w' b j c n v f ∧ RP E w' a wd W' ∧ ∀ q b, q < 15 → b < 64 → bL (W' q) b = pb wd cd n (64 * q + b) := by
  intro k
  induction k with
  | zero =>
    intro r m w W hr hm h hP hW
    obtain ⟨m, rfl⟩ : ∃ q, m = q + 1 := ⟨m - 1, by omega⟩
    have h2 := h.1.2.1
    refine ⟨w, W, ?_, FS.rf, h, hP, by rw [show n = r by omega]; exact hW⟩
    show X8_pack_21_s E (X8_pack_21 E m) a b (nI r) w.1 = _
    unfold X8_pack_21_s
    rw [ob_e (gcl_o h.1.1.2.2), ob_e h.1.length, if_pos (nI_le (by omega) (by omega))]
  | succ k ih =>
    intro r m w W hr hm h hP hW
    obtain ⟨m, rfl⟩ : ∃ q, m = q + 1 := ⟨m - 1, by omega⟩
    have h2 := h.1.2.1
    have hcd := h.1.codeAt hN h.2 (r := r) (by omega)
    rw [if_pos (dmem_in (hv r (by omega)).1 (hv r (by omega)).2), ← hcd0 r (by omega)] at hcd
    have hs19 := dsz_le f
    have hct := ct_le h.2.1 (px (v r))
    rw [← hcd0 r (by omega)] at hct
    obtain ⟨w1, W1, e1, F1, P1, H1⟩ := hP.code (r := r) (cd := cd) hwd (by omega) hc hW
    have C1 := h.fr F1 (fun κ _ z => by have := congrArg Prod.fst z; simp only at this; omega)
    obtain ⟨w2, W2, e2, F2, C2, P2, H2⟩ := ih (r + 1) m w1 W1 (by omega) (by omega) C1 P1 H1
    refine ⟨w2, W2, ?_, F1.trans F2, C2, P2, H2⟩
    show X8_pack_21_s E (X8_pack_21 E m) a b (nI r) w.1 = _
    unfold X8_pack_21_s
    rw [ob_e (gcl_o h.1.1.2.2), ob_e h.1.length, if_neg (nI_ge (by omega) (by omega)), ob_e (gcl_o h.1.1.2.2), ob_e hcd, ob_e (gcl_o hP.1.2.2), nI_l (by omega), ob_e e1, ← nI_succ]
    exact e2
theorem wid15 (f : Nat → Bool) : gwid (dsz f) ≤ 15 ∧ dsz f ≤ 2 ^ gwid (dsz f) := by
  have h := dsz_le f
  have hy := gwid_yes (n := dsz f) (by omega)
  refine ⟨?_, hy.1⟩
  by_cases hz : gwid (dsz f) ≤ 15
  · exact hz
  · exfalso
    have := gwid_no (n := dsz f) (i := 15) (by omega)
    omega
/-- the codes of the rows -/
def gcd (f : Nat → Bool) (v : Nat → Int32) (n : Nat) : Nat → Nat := fun i => if i < n then fb_ct f (px (v i)) else 0
theorem gcd_lt {f : Nat → Bool} {v : Nat → Int32} {n : Nat} (hv : ∀ r, r < n → vIn (v r) ∧ f (px (v r)) = true) (i : Nat) : gcd f v n i < 2 ^ gwid (dsz f) := by
  have h15 := wid15 f
  unfold gcd
  by_cases hi : i < n
  · rw [if_pos hi]
    have a1 : fb_ct f (px (v i)) < dsz f := (ct_lt (hv i hi).2).mpr (px_lt (hv i hi).1)
    omega
  · rw [if_neg hi]
    exact Nat.two_pow_pos _
theorem RP.pack {E : gE} {w : gWd} {a b j c n wd0 : Nat} {v : Nat → Int32} {f : Nat → Bool} {W : Nat → Int64} (hN : 100000 ≤ gN E) (h : RC E w b j c n v f) (hP : RP E w a wd0 W) (hv : ∀ r, r < n → vIn (v r) ∧ f (px (v r)) = true) (hj : j < 20) :
    ∃ (w' : gWd) (W' : Nat → Int64), X8_pack_f E a b w.1 = some w'.1 ∧ FS E J21 w w' ∧ RC E w' b j c n v f ∧ RP E w' a (gwid (dsz f)) W' ∧ ∀ q b, q < 15 → b < 64 → bL (W' q) b = pb (gwid (dsz f)) (gcd f v n) n (64 * q + b) := by
  have h15 := wid15 f
  have h2 := h.1.2.1
  obtain ⟨w1, W1, e1, F1, A1, H1⟩ := fl_loop (E := E) (n := 15) (by omega) 15 0 (gN E) w W (by omega) (by omega) hP.2 (fun q hq => by omega)
  have hno : ∀ κ, ¬ ((κ, j, c) : Nat × Nat × Nat) = (11, 21, 0) := fun κ z => by have := congrArg (fun t => t.2.1) z; simp only at this; omega
  have O1 := hP.1.fr F1 (t3_ne (by decide))
  have C1 := h.fr F1 (fun κ _ => hno κ)
  obtain ⟨e2, O2, F2⟩ := O1.put (E := E) 1 (.int (nI (gwid (dsz f)))) (Nat.le_of_ble_eq_true rfl) (J := fun t => t = (10, 21, 0)) rfl
  have hno2 : ∀ κ, ¬ ((κ, j, c) : Nat × Nat × Nat) = (10, 21, 0) := fun κ z => by have := congrArg (fun t => t.2.1) z; simp only at this; omega
  have C2 := C1.fr F2 (fun κ _ => hno2 κ)
  obtain ⟨w3, W3, e3, F3, C3, P3, H3⟩ := pkp_loop (cd := gcd f v n) hN h15.1 hv (fun r hr => if_pos hr) (gcd_lt hv) hj n 0 (gN E) _ W1 (by omega) (by omega) C2 ⟨O2, A1.fr F2 (t3_ne (by decide))⟩ (fun q b hq hb => by
      rw [H1 q hq, bL_0]
      unfold pb
      simp)
  obtain ⟨-, en, g0, hO, -⟩ := id C1.2
  refine ⟨w3, W3, ?_, (F1.mono (fun t z => by rw [z])).trans ((F2.mono (fun t z => by rw [z])).trans F3), C3, P3, H3⟩
  unfold X8_pack_f X8_pack
  have hf : J7_fill_d0a16_f E (a + 1) 0 w.1 = some w1.1 := by
    unfold J7_fill_d0a16_f J7_fill_d0a16
    rw [ob_e (hP.2.2.2.2.len hP.2.2.2.1)]
    exact e1
  rw [ob_e (gfR_o hP.1.2.2 rfl), ob_e hf, ob_e (gcl_o C1.1.1.2.2), ob_e C1.1.dict, ob_e (gcl_o hO.2.2), ob_e (C1.2.width hN), ob_e e2]
  exact e3
theorem RP.word {E : gE} {w : gWd} {a wd q : Nat} {W : Nat → Int64} (hP : RP E w a wd W) (hq : q < 15) : X8_word_f E w.1 a (nI q) = some (W q) := by
  unfold X8_word_f X8_word
  rw [ob_e (gfR_o hP.1.2.2 rfl), ob_e (hP.2.2.2.2.ld hq (by omega))]
theorem and1 (x : Int64) : x &&& 1 = if bL x 0 = true then 1 else 0 := by
  apply bL_ext
  intro b hb
  have e1 : bL (x &&& 1) b = (bL x b && bL 1 b) := by unfold bL; rw [Int64.toBitVec_and, BitVec.getLsbD_and]
  have e2 : ∀ b, b < 64 → bL 1 b = decide (b = 0) := by decide +kernel
  rw [e1, e2 b hb]
  by_cases h0 : b = 0
  · subst h0
    cases hx : bL x 0 with
    | true => rw [if_pos rfl, e2 0 (by omega)]; rfl
    | false => rw [if_neg (by decide), bL_0]; rfl
  · simp only [h0, decide_false, Bool.and_false]
    cases hx : bL x 0 with
    | true => rw [if_pos rfl, e2 b hb]; simp [h0]
    | false => rw [if_neg (by decide), bL_0]
theorem bit_at (x : Int64) {s : Nat} (hs : s < 64) : glushr x (nI s) &&& 1 = if bL x s = true then 1 else 0 := by
  rw [and1]
  have e : bL (glushr x (nI s)) 0 = bL x s := by
    obtain ⟨n, hn, rfl⟩ := wb_of x
    rw [show glushr (lN n) (nI s) = lN (n / 2 ^ s) from wb_shr hn hs, bL_lN (by omega), bL_lN hs, tb_shr]
    rfl
  rw [e]
theorem ms_bit (x i : Nat) : x % 2 ^ (i + 1) = x % 2 ^ i + 2 ^ i * (x.testBit i).toNat := by
  rw [Nat.mod_pow_succ, Nat.testBit_eq_decide_div_mod_eq]
  congr 2
  rcases Nat.mod_two_eq_zero_or_one (x / 2 ^ i) with h | h <;> rw [h] <;> rfl
theorem up_loop {E : gE} {w : gWd} {a wd r x n : Nat} {W : Nat → Int64} {cd : Nat → Nat} (hP : RP E w a wd W) (hwd : wd ≤ 15) (hr : r < n) (hn : n ≤ 60) (hW : ∀ q b, q < 15 → b < 64 → bL (W q) b = pb wd cd n (64 * q + b)) : ∀ (k i m : Nat), i + k = wd → k < m → X8_unpack_4 E w.1 m a (nI r) (nI (cd r % 2 ^ i)) (nI i) = some (nI (cd r % 2 ^ wd)) := by
  have hbit : r * wd ≤ 59 * 15 := Nat.mul_le_mul (by omega) hwd
  intro k
  induction k with
  | zero =>
    intro i m hi hm
    obtain ⟨m, rfl⟩ : ∃ q, m = q + 1 := ⟨m - 1, by omega⟩
    show X8_unpack_4_s E w.1 (X8_unpack_4 E w.1 m) a _ _ (nI i) = _
    unfold X8_unpack_4_s
    rw [ob_e (gfI_o hP.1.2.2 rfl), if_pos (nI_le (by omega) (by omega)), show i = wd by omega]
  | succ k ih =>
    intro i m hi hm
    obtain ⟨m, rfl⟩ : ∃ q, m = q + 1 := ⟨m - 1, by omega⟩
    have hI := ih (i + 1) m (by omega) (by omega)
    have hp : (r * wd + i) / 64 < 15 := by omega
    have hld := hP.2.2.2.2.ld hp (by omega)
    have hb := hW ((r * wd + i) / 64) ((r * wd + i) % 64) hp (Nat.mod_lt _ (by decide))
    rw [Nat.div_add_mod] at hb
    have hpb : pb wd cd n (r * wd + i) = (cd r).testBit i := by
      unfold pb
      have e1 : (r * wd + i) / wd = r := by
        rw [Nat.mul_comm, Nat.mul_add_div (by omega), Nat.div_eq_of_lt (by omega), Nat.add_zero]
      have e2 : (r * wd + i) % wd = i := by
        rw [Nat.mul_comm, Nat.mul_add_mod, Nat.mod_eq_of_lt (by omega)]
      rw [e1, e2]
      simp [hr]
    rw [hpb] at hb
    have hms := ms_bit (cd r) i
    show X8_unpack_4_s E w.1 (X8_unpack_4 E w.1 m) a _ _ (nI i) = _
    unfold X8_unpack_4_s X8_unpack_62
    rw [ob_e (gfI_o hP.1.2.2 rfl), if_neg (nI_ge (by omega) (by omega)), ob_e (gfI_o hP.1.2.2 rfl), nI_mul, nI_add, rem64 (n := r * wd + i) (by omega), div64 (n := r * wd + i) (by omega), if_neg (show ¬ (15 : Int32) ≤ nI ((r * wd + i) / 64) from nI_ge (b := 15) (by omega) (by omega)), ob_e (gfR_o hP.1.2.2 rfl), ob_e hld, bit_at _ (Nat.mod_lt _ (by decide)), hb]
    cases htb : (cd r).testBit i with
    | true =>
      rw [htb] at hms
      have hor : nI (cd r % 2 ^ i) ||| ((1 : Int32) <<< (nI i &&& 31)) = nI (cd r % 2 ^ (i + 1)) := by
        have e3 : (1 : Int32) <<< (nI i &&& 31) = nI (2 ^ i) := by
          apply Int32.toBitVec_inj.mp
          rw [nf_sh i (by omega)]
          apply BitVec.eq_of_toNat_eq
          rw [BitVec.toNat_twoPow]
          show 2 ^ i % 2 ^ 32 = (BitVec.ofNat 32 (2 ^ i)).toNat
          rw [BitVec.toNat_ofNat]
        rw [e3, fa_or, hms]
        congr 1
        have h5 : cd r % 2 ^ i < 2 ^ i := Nat.mod_lt _ (Nat.two_pow_pos _)
        have h6 := Nat.two_pow_add_eq_or_of_lt h5 1
        simp only [Nat.mul_one] at h6
        rw [Nat.or_comm, ← h6]
        simp
        omega
      rw [if_pos rfl, if_pos (by decide), hor, ← nI_succ]
      exact hI
    | false =>
      rw [htb] at hms
      rw [if_neg (by decide), ← nI_succ]
      have e4 : cd r % 2 ^ (i + 1) = cd r % 2 ^ i := by rw [hms]; simp
      rw [e4] at hI
      exact hI
theorem RP.unpack {E : gE} {w : gWd} {a wd r n : Nat} {W : Nat → Int64} {cd : Nat → Nat} (hN : 100000 ≤ gN E) (hP : RP E w a wd W) (hwd : wd ≤ 15) (hr : r < n) (hn : n ≤ 60) (hc : cd r < 2 ^ wd) (hW : ∀ q b, q < 15 → b < 64 → bL (W q) b = pb wd cd n (64 * q + b)) : X8_unpack_f E w.1 a (nI r) = some (nI (cd r)) := by
  have := up_loop (x := 0) hP hwd hr hn hW wd 0 (gN E) (by omega) (by omega)
  rw [Nat.mod_eq_of_lt hc] at this
  unfold X8_unpack_f X8_unpack
  rw [show nI (cd r % 2 ^ 0) = 0 by simp [Nat.mod_one]; rfl] at this
  exact this
