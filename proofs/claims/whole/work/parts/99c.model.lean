/-! pure: the reference's room; bits of a word -/
def mF (m ro : Nat) (fi : Nat → Int32) : List Value := [.ref (m + 1), .ref (m + 2), .ref (m + 3), .ref (m + 4), .ref (m + 5), .ref (m + 6), .ref (m + 7), .ref (m + 8), .ref ro, .int (fi 9), .int (fi 10), .int (fi 11), .int (fi 12), .int (fi 13), .ref (m + 9), .int (fi 15), .ref (m + 10), .int (fi 17), .int (fi 18), .int (fi 19), .int (fi 20), .int (fi 21), .int (fi 22), .int (fi 23), .int (fi 24), .int (fi 25), .ref (m + 11), .ref (m + 12), .int (fi 28)]
/-- how long the arrays are -/
def mz : Nat → Nat
  | 5 => 33096
  | 6 => 60
  | 7 => 6
  | 8 => 60
  | 9 => 60
  | 10 => 700
  | 11 => 140
  | _ => 4137
def updG (G : Nat → Nat → Int32) (k : Nat) (g : Nat → Int32) : Nat → Nat → Int32 := fun j => if j = k then g else G j
/-- the reference at m: its row, its numbers, its arrays -/
def MS (E : gE) (w : gWd) (m ro : Nat) (fi : Nat → Int32) (G : Nat → Nat → Int32) : Prop :=
  Ob w (10, 30, 0) m 11 (mF m ro fi) ∧ (∀ k, 1 ≤ k → k ≤ 11 → ArI E w (10 + k, 30, 0) (m + k) (mz k) (G k)) ∧ ∃ g, ArR E w (22, 30, 0) 7 (m + 12) 9 g ∧ ∀ i, i < 9 → g i = some (gst E (2 + i))
abbrev J30 : Nat × Nat × Nat → Prop := fun t => t.2.1 = 30
theorem MS.fr {E : gE} {w w' : gWd} {m ro : Nat} {fi : Nat → Int32} {G : Nat → Nat → Int32} (h : MS E w m ro fi G) {J : Nat × Nat × Nat → Prop} (hF : FS E J w w') (hJ : ∀ κ, ¬ J (κ, 30, 0)) : MS E w' m ro fi G := by
  obtain ⟨h1, h2, g, h3, h4⟩ := h
  exact ⟨h1.fr hF (hJ _), fun k a b => (h2 k a b).fr hF (hJ _), g, h3.fr hF (hJ _), h4⟩
theorem mz_le (k : Nat) : mz k ≤ 33096 := by
  unfold mz
  split <;> omega
theorem updG_s (G : Nat → Nat → Int32) (k : Nat) (g : Nat → Int32) : updG G k g k = g := if_pos rfl
theorem updG_o (G : Nat → Nat → Int32) {k j : Nat} (g : Nat → Int32) (h : j ≠ k) : updG G k g j = G j := if_neg h
section MM
variable {E : gE} {w : gWd} {m ro : Nat} {fi : Nat → Int32} {G : Nat → Nat → Int32}
theorem MS.cl (h : MS E w m ro fi G) : gcl w.1 m 11 = some () := gcl_o h.1.2.2
theorem MS.row (h : MS E w m ro fi G) : gfR w.1 m 11 8 = some ro := gfR_o h.1.2.2 rfl
theorem MS.ld (h : MS E w m ro fi G) (k : Nat) {i : Nat} (h1 : 1 ≤ k) (h2 : k ≤ 11) (hi : i < mz k) : graI E 0 w.1 (m + k) (nI i) = some (G k i) := by
  have := mz_le k
  exact (h.2.1 k h1 h2).2.2.ld hi (by omega)
theorem MS.st (h : MS E w m ro fi G) (k : Nat) {i : Nat} (h1 : 1 ≤ k) (h2 : k ≤ 11) (hi : i < mz k) (x : Int32) : ∃ w', gwaI E w.1 (m + k) (nI i) x = some w'.1 ∧ FS E J30 w w' ∧ MS E w' m ro fi (updG G k (upd (G k) i x)) := by
  have hz := mz_le k
  obtain ⟨e1, A1, F1⟩ := (h.2.1 k h1 h2).st hi (by omega) x (J := fun t => t = (10 + k, 30, 0)) rfl
  obtain ⟨g1, g2, g, g3, g4⟩ := h
  refine ⟨_, e1, F1.mono (fun t z => by show t.2.1 = 30; rw [z]), g1.fr F1 (t3_ne (by omega)), fun j a b => ?_, g, g3.fr F1 (t3_ne (by omega)), g4⟩
  by_cases hj : j = k
  · subst hj
    rw [updG_s]
    exact A1
  · rw [updG_o _ _ hj]
    exact (g2 j a b).fr F1 (t3_ne (by omega))
theorem MS.put (h : MS E w m ro fi G) (k : Nat) (x : Int32) (hk : (mF m ro fi).set k (.int x) = mF m ro (upd fi k x)) (hlt : k < 29) : ∃ w', gpf E w.1 m 11 k (.int x) = some w'.1 ∧ FS E J30 w w' ∧ MS E w' m ro (upd fi k x) G := by
  obtain ⟨e1, O1, F1⟩ := h.1.put (E := E) k (.int x) hlt (J := fun t => t = (10, 30, 0)) rfl
  have O1' : Ob (wUp w m (Sum.inr (11, (mF m ro fi).set k (Value.int x)))) (10, 30, 0) m 11 (mF m ro (upd fi k x)) := by
    rw [← hk]
    exact O1
  obtain ⟨g1, g2, g, g3, g4⟩ := h
  exact ⟨_, e1, F1.mono (fun t z => by show t.2.1 = 30; rw [z]), O1', fun j a b => (g2 j a b).fr F1 (t3_ne (by omega)), g, g3.fr F1 (t3_ne (by omega)), g4⟩
theorem MS.setrow (h : MS E w m ro fi G) (x : Nat) : ∃ w', gpf E w.1 m 11 8 (.ref x) = some w'.1 ∧ FS E J30 w w' ∧ MS E w' m x fi G := by
  obtain ⟨e1, O1, F1⟩ := h.1.put (E := E) 8 (.ref x) (Nat.le_of_ble_eq_true rfl) (J := fun t => t = (10, 30, 0)) rfl
  obtain ⟨g1, g2, g, g3, g4⟩ := h
  exact ⟨_, e1, F1.mono (fun t z => by show t.2.1 = 30; rw [z]), O1, fun j a b => (g2 j a b).fr F1 (t3_ne (by omega)), g, g3.fr F1 (t3_ne (by omega)), g4⟩
theorem MS.cp (h : MS E w m ro fi G) (k k' : Nat) {sp dp n : Nat} (h1 : 1 ≤ k) (h2 : k ≤ 11) (h1' : 1 ≤ k') (h2' : k' ≤ 11) (hs : sp + n ≤ mz k) (hd : dp + n ≤ mz k') : ∃ w', gcopy E w.1 (m + k) (nI sp) (m + k') (nI dp) (nI n) = some w'.1 ∧ FS E J30 w w' ∧ MS E w' m ro fi (updG G k' (va_cpy (G k) (G k') sp dp n)) := by
  have hz := mz_le k
  have hz' := mz_le k'
  obtain ⟨e1, A1, F1⟩ := ArI.cp (J := fun t => t = (10 + k', 30, 0)) (h.2.1 k h1 h2) (h.2.1 k' h1' h2') hs hd (by omega) (by omega) rfl
  obtain ⟨g1, g2, g, g3, g4⟩ := h
  refine ⟨_, e1, F1.mono (fun t z => by show t.2.1 = 30; rw [z]), g1.fr F1 (t3_ne (by omega)), fun j a b => ?_, g, g3.fr F1 (t3_ne (by omega)), g4⟩
  by_cases hj : j = k'
  · subst hj
    rw [updG_s]
    exact A1
  · rw [updG_o _ _ hj]
    exact (g2 j a b).fr F1 (t3_ne (by omega))
end MM
/-! the number of bits of a word -/
theorem lo_and {q r M m' : Nat} (hr : r < 256) (hM : M < 256) : (256 * q + r) &&& (256 * m' + M) = 256 * (q &&& m') + (r &&& M) := by
  apply Nat.eq_of_testBit_eq
  intro i
  have h1 : (256 * q + r).testBit i = if i < 8 then r.testBit i else q.testBit (i - 8) := Nat.testBit_two_pow_mul_add q (i := 8) hr i
  have h2 : (256 * m' + M).testBit i = if i < 8 then M.testBit i else m'.testBit (i - 8) := Nat.testBit_two_pow_mul_add m' (i := 8) hM i
  have hlt : r &&& M < 256 := Nat.lt_of_le_of_lt Nat.and_le_left hr
  have h3 : (256 * (q &&& m') + (r &&& M)).testBit i = if i < 8 then (r &&& M).testBit i else (q &&& m').testBit (i - 8) := Nat.testBit_two_pow_mul_add (q &&& m') (i := 8) hlt i
  rw [Nat.testBit_and, h1, h2, h3]
  by_cases hi : i < 8
  · rw [if_pos hi, if_pos hi, if_pos hi, Nat.testBit_and]
  · rw [if_neg hi, if_neg hi, if_neg hi, Nat.testBit_and]
/-- a word of four bytes -/
def w4 (a b c d : Nat) : Nat := a + 256 * b + 65536 * c + 16777216 * d
theorem w4_and {a b c d M N O P : Nat} (ha : a < 256) (hb : b < 256) (hc : c < 256) (hM : M < 256) (hN : N < 256) (hO : O < 256) : w4 a b c d &&& w4 M N O P = w4 (a &&& M) (b &&& N) (c &&& O) (d &&& P) := by
  have e : ∀ x y z t : Nat, w4 x y z t = 256 * (256 * (256 * t + z) + y) + x := fun x y z t => by unfold w4; omega
  rw [e, e, e, lo_and ha hM, lo_and hb hN, lo_and hc hO]
theorem sh_tab1 : ∀ a, a < 256 → (((a / 2) &&& 85) = (a / 2) &&& 85) ∧ (a / 2 &&& 85) ≤ a ∧ a - (a / 2 &&& 85) < 256 := by decide +kernel
theorem sh_x1 : ∀ x, x < 2 → ∀ a, a < 128 → (a + 128 * x) &&& 85 = a &&& 85 := by decide +kernel
theorem sh_x2 : ∀ x, x < 4 → ∀ a, a < 64 → (a + 64 * x) &&& 51 = a &&& 51 := by decide +kernel
theorem sh_x4 : ∀ x, x < 16 → ∀ a, a < 16 → ∀ y, y < 16 → (a + 16 * x + y) &&& 15 = (a + y) &&& 15 := by decide +kernel
/-- the steps for one byte -/
def by1 (a : Nat) : Nat := a - (a / 2 &&& 85)
def by2 (a : Nat) : Nat := (by1 a &&& 51) + (by1 a / 4 &&& 51)
def by3 (a : Nat) : Nat := (by2 a + by2 a / 16) &&& 15
theorem by_tab : ∀ a, a < 256 → by1 a < 256 ∧ (by1 a &&& 51) + (by1 a / 4 &&& 51) < 256 ∧ by2 a % 16 ≤ 4 ∧ by2 a / 16 ≤ 4 ∧ by3 a = fb_ct (fun i => a.testBit i) 8 ∧ by3 a ≤ 8 := by decide +kernel
