/-! pure: reading and writing the abstract heap -/
theorem ob_s {α β : Type} {x : α} {k : α → Option β} : ob (some x) k = k x := rfl
theorem ob_e {α β : Type} {o : Option α} {x : α} {k : α → Option β} (h : o = some x) : ob o k = k x := by rw [h]; rfl
theorem up_same {f : Nat → va_E} {a : Nat} {e : va_E} : va_up f a e a = e := by simp [va_up]
theorem up_ne {f : Nat → va_E} {a b : Nat} {e : va_E} (h : b ≠ a) : va_up f a e b = f b := by simp [va_up, h]
theorem nI_eqI {a b : Nat} (ha : a < 2 ^ 31) (hb : b < 2 ^ 31) : nI a = nI b ↔ a = b := by
  rw [fa_eq, nI_toInt ha, nI_toInt hb]
  omega
theorem nI_mul (a b : Nat) : nI a * nI b = nI (a * b) := by
  unfold nI
  rw [Int32.ofNat_mul]
theorem nI_sub {a b : Nat} (h : b ≤ a) : nI a - nI b = nI (a - b) := by
  have e : nI a = nI (a - b) + nI b := by rw [nI_add]; congr 1; omega
  rw [e]
  simp
theorem nI_div {a b : Nat} (ha : a < 2 ^ 31) (hb : b < 2 ^ 31) : nI a / nI b = nI (a / b) := by
  apply Int32.toInt_inj.mp
  rw [Int32.toInt_div, nI_toInt ha, nI_toInt hb, nI_toInt (Nat.lt_of_le_of_lt (Nat.div_le_self a b) ha)]
  have h1 : ((a : Int).tdiv (b : Int)) = ((a / b : Nat) : Int) := by simp
  rw [h1]
  have hq := Nat.div_le_self a b
  generalize a / b = q at *
  apply Int.bmod_eq_of_le <;> omega
/-- an object -/
abbrev oO (σ : gS) (a ci : Nat) (fs : List Value) : Prop := σ.1 a = .inr (ci, fs)
/-- an array of ints, of bytes, of longs, of references -/
def oI (E : gE) (σ : gS) (a n : Nat) (g : Nat → Int32) : Prop := gro E a = false ∧ σ.1 a = .inl (gcy E 0, n, .inl g)
def oB (E : gE) (σ : gS) (a n : Nat) (g : Nat → Int32) : Prop := gro E a = false ∧ σ.1 a = .inl (gcy E 1, n, .inl g)
def oJ (E : gE) (σ : gS) (a n : Nat) (g : Nat → Int64) : Prop := σ.1 a = .inl (gcy E 2, n, .inr (.inl g))
def oR (E : gE) (σ : gS) (t a n : Nat) (g : Nat → Option Nat) : Prop := gro E a = false ∧ σ.1 a = .inl (gcy E t, n, .inr (.inr (.inr (.inr g))))
theorem oI.ld {E : gE} {σ : gS} {a n i : Nat} {g : Nat → Int32} (h : oI E σ a n g) (hi : i < n) (hn : n < 2 ^ 31) : graI E 0 σ a (nI i) = some (g i) := by
  have h2 := nI_in hi hn
  unfold graI gat gac
  rw [h.1]
  simp only [Bool.false_eq_true, if_false]
  rw [h.2]
  simp only [true_and]
  rw [if_pos h2, nI_clamp (by omega)]
theorem oB.ld {E : gE} {σ : gS} {a n i : Nat} {g : Nat → Int32} (h : oB E σ a n g) (hi : i < n) (hn : n < 2 ^ 31) : graI E 1 σ a (nI i) = some (g i) := by
  have h2 := nI_in hi hn
  unfold graI gat gac
  rw [h.1]
  simp only [Bool.false_eq_true, if_false]
  rw [h.2]
  simp only [true_and]
  rw [if_pos h2, nI_clamp (by omega)]
theorem oJ.ld {E : gE} {σ : gS} {a n i : Nat} {g : Nat → Int64} (h : oJ E σ a n g) (hi : i < n) (hn : n < 2 ^ 31) : graJ E σ a (nI i) = some (g i) := by
  have h2 := nI_in hi hn
  unfold graJ
  rw [h]
  simp only [true_and]
  rw [if_pos h2, nI_clamp (by omega)]
theorem oR.ld {E : gE} {σ : gS} {t a n i x : Nat} {g : Nat → Option Nat} (h : oR E σ t a n g) (hi : i < n) (hn : n < 2 ^ 31) (hx : g i = some x) : graR E t σ a (nI i) = some x := by
  have h2 := nI_in hi hn
  unfold graR gat gac
  rw [h.1]
  simp only [Bool.false_eq_true, if_false]
  rw [h.2]
  simp only [true_and]
  rw [if_pos h2, nI_clamp (by omega), hx]
theorem oI.len {E : gE} {σ : gS} {a n : Nat} {g : Nat → Int32} (h : oI E σ a n g) : gal E 0 σ a = some (nI n) := by
  unfold gal gat gac
  rw [h.1]
  simp only [Bool.false_eq_true, if_false]
  rw [h.2]
  simp only [if_true]
  rfl
theorem oB.len {E : gE} {σ : gS} {a n : Nat} {g : Nat → Int32} (h : oB E σ a n g) : gal E 1 σ a = some (nI n) := by
  unfold gal gat gac
  rw [h.1]
  simp only [Bool.false_eq_true, if_false]
  rw [h.2]
  simp only [if_true]
  rfl
theorem oJ.len {E : gE} {σ : gS} {a n : Nat} {g : Nat → Int64} (h : oJ E σ a n g) (hr : gro E a = false) : gal E 2 σ a = some (nI n) := by
  unfold gal gat gac
  rw [hr]
  simp only [Bool.false_eq_true, if_false]
  rw [h]
  simp only [if_true]
  rfl
theorem oR.len {E : gE} {σ : gS} {t a n : Nat} {g : Nat → Option Nat} (h : oR E σ t a n g) : gal E t σ a = some (nI n) := by
  unfold gal gat gac
  rw [h.1]
  simp only [Bool.false_eq_true, if_false]
  rw [h.2]
  simp only [if_true]
  rfl
theorem oI.st {E : gE} {σ : gS} {a n i : Nat} {g : Nat → Int32} (h : oI E σ a n g) (hi : i < n) (hn : n < 2 ^ 31) (x : Int32) : gwaI E σ a (nI i) x = some (va_up σ.1 a (.inl (gcy E 0, n, .inl (upd g i x))), σ.2) := by
  have h2 := nI_in hi hn
  unfold gwaI
  rw [h.2]
  simp only [true_and]
  rw [if_pos h2, nI_clamp (by omega)]
theorem oB.st {E : gE} {σ : gS} {a n i : Nat} {g : Nat → Int32} (h : oB E σ a n g) (hi : i < n) (hn : n < 2 ^ 31) (x : Int32) : gwaB E σ a (nI i) x = some (va_up σ.1 a (.inl (gcy E 1, n, .inl (upd g i (vp_nar .byte x)))), σ.2) := by
  have h2 := nI_in hi hn
  unfold gwaB
  rw [h.2]
  simp only [true_and]
  rw [if_pos h2, nI_clamp (by omega)]
theorem oJ.st {E : gE} {σ : gS} {a n i : Nat} {g : Nat → Int64} (h : oJ E σ a n g) (hi : i < n) (hn : n < 2 ^ 31) (x : Int64) : gwaJ E σ a (nI i) x = some (va_up σ.1 a (.inl (gcy E 2, n, .inr (.inl (vp_updL g i x)))), σ.2) := by
  have h2 := nI_in hi hn
  unfold gwaJ
  rw [h]
  simp only [true_and]
  rw [if_pos h2, nI_clamp (by omega)]
theorem oO.put {E : gE} {σ : gS} {a ci k : Nat} {fs : List Value} {v : Value} (h : oO σ a ci fs) (hk : k < fs.length) : gpf E σ a ci k v = some (va_up σ.1 a (.inr (ci, fs.set k v)), σ.2) := by
  unfold gpf
  rw [h]
  simp only [true_and]
  rw [if_pos hk]
theorem oI.cp {E : gE} {σ : gS} {a0 a n0 n1 sp dp n : Nat} {f g : Nat → Int32} (h0 : oI E σ a0 n0 f) (h : oI E σ a n1 g) (hs : sp + n ≤ n0) (hd : dp + n ≤ n1) (h31 : n0 < 2 ^ 31) (h32 : n1 < 2 ^ 31) : gcopy E σ a0 (nI sp) a (nI dp) (nI n) = some (va_up σ.1 a (.inl (gcy E 0, n1, .inl (va_cpy f g sp dp n))), σ.2) := by
  unfold gcopy
  rw [h0.2, h.2]
  simp only [true_and]
  rw [nI_clamp (n := sp) (by omega), nI_clamp (n := dp) (by omega), nI_clamp (n := n) (by omega), if_pos ⟨nI_pos (by omega), nI_pos (by omega), nI_pos (by omega), hs, hd⟩]
