/-! worlds: the heap, whose each address is, how much room each dictionary has -/
abbrev gWd : Type := gS × (Nat → Nat × Nat × Nat) × (Nat → Nat → Nat)
def Phi (cp : Nat → Nat → Nat) : Nat := fb_sm (fun i => 65536 - 2 * cp (i / 6) (i % 6)) 66
/-- there is room for what the dictionaries may still ask, and for x exceptions -/
def RM (E : gE) (w : gWd) (x : Nat) : Prop := w.1.2.2 + Phi w.2.2 + 6 * x ≤ gM E ∧ 32 * w.1.2.1 + Phi w.2.2 + 32 * x ≤ 32 * gK E ∧ ∀ a, w.1.2.1 ≤ a → gro E a = false
/-- nothing has changed but what is J's -/
def FS (E : gE) (J : Nat × Nat × Nat → Prop) (w w' : gWd) : Prop :=
  w.1.2.1 ≤ w'.1.2.1 ∧ (∀ a, a < w.1.2.1 → w'.2.1 a = w.2.1 a ∧ (¬ J (w.2.1 a) → w'.1.1 a = w.1.1 a)) ∧ (∀ j c, ¬ J (9, j, c) → w'.2.2 j c = w.2.2 j c) ∧ ∀ x, RM E w x → RM E w' x
theorem FS.rf {E : gE} {J : Nat × Nat × Nat → Prop} {w : gWd} : FS E J w w := ⟨Nat.le_refl _, fun _ _ => ⟨rfl, fun _ => rfl⟩, fun _ _ _ => rfl, fun _ h => h⟩
theorem FS.trans {E : gE} {J : Nat × Nat × Nat → Prop} {w w1 w2 : gWd} (h : FS E J w w1) (h2 : FS E J w1 w2) : FS E J w w2 := by
  obtain ⟨a1, a2, a3, a4⟩ := h
  obtain ⟨b1, b2, b3, b4⟩ := h2
  refine ⟨Nat.le_trans a1 b1, fun a ha => ?_, fun j c hj => (b3 j c hj).trans (a3 j c hj), fun x hx => b4 x (a4 x hx)⟩
  have h1 := a2 a ha
  have h3 := b2 a (Nat.lt_of_lt_of_le ha a1)
  refine ⟨h3.1.trans h1.1, fun hj => ?_⟩
  rw [h3.2 (by rw [h1.1]; exact hj), h1.2 hj]
theorem FS.mono {E : gE} {J J' : Nat × Nat × Nat → Prop} {w w' : gWd} (h : FS E J w w') (hJ : ∀ t, J t → J' t) : FS E J' w w' := by
  obtain ⟨a1, a2, a3, a4⟩ := h
  exact ⟨a1, fun a ha => ⟨(a2 a ha).1, fun hj => (a2 a ha).2 (fun h => hj (hJ _ h))⟩, fun j c hj => a3 j c (fun h => hj (hJ _ h)), a4⟩
/-- a store into a cell that is J's -/
theorem FS.up {E : gE} {J : Nat × Nat × Nat → Prop} {w : gWd} {a : Nat} {e : va_E} (h : J (w.2.1 a)) : FS E J w ((va_up w.1.1 a e, w.1.2), w.2) := by
  refine ⟨Nat.le_refl _, fun b hb => ⟨rfl, fun hj => ?_⟩, fun _ _ _ => rfl, fun x hx => hx⟩
  have hne : b ≠ a := fun e => hj (by rw [e]; exact h)
  exact up_ne hne
theorem FS.at {E : gE} {J : Nat × Nat × Nat → Prop} {w w' : gWd} (h : FS E J w w') {a : Nat} {t : Nat × Nat × Nat} (ha : a < w.1.2.1) (ht : w.2.1 a = t) (hj : ¬ J t) : w'.1.1 a = w.1.1 a ∧ w'.2.1 a = t ∧ a < w'.1.2.1 :=
  ⟨(h.2.1 a ha).2 (by rw [ht]; exact hj), (h.2.1 a ha).1.trans ht, Nat.lt_of_lt_of_le ha h.1⟩
/-- an object at a place that is the thing t's -/
def Ob (w : gWd) (t : Nat × Nat × Nat) (a ci : Nat) (fs : List Value) : Prop := w.2.1 a = t ∧ a < w.1.2.1 ∧ oO w.1 a ci fs
def ArI (E : gE) (w : gWd) (t : Nat × Nat × Nat) (a n : Nat) (g : Nat → Int32) : Prop := w.2.1 a = t ∧ a < w.1.2.1 ∧ oI E w.1 a n g
def ArB (E : gE) (w : gWd) (t : Nat × Nat × Nat) (a n : Nat) (g : Nat → Int32) : Prop := w.2.1 a = t ∧ a < w.1.2.1 ∧ oB E w.1 a n g
def ArJ (E : gE) (w : gWd) (t : Nat × Nat × Nat) (a n : Nat) (g : Nat → Int64) : Prop := w.2.1 a = t ∧ a < w.1.2.1 ∧ gro E a = false ∧ oJ E w.1 a n g
def ArR (E : gE) (w : gWd) (t : Nat × Nat × Nat) (k a n : Nat) (g : Nat → Option Nat) : Prop := w.2.1 a = t ∧ a < w.1.2.1 ∧ oR E w.1 k a n g
theorem Ob.fr {E : gE} {J : Nat × Nat × Nat → Prop} {w w' : gWd} {t : Nat × Nat × Nat} {a ci : Nat} {fs : List Value} (h : Ob w t a ci fs) (hF : FS E J w w') (hj : ¬ J t) : Ob w' t a ci fs := by
  obtain ⟨h1, h2, h3⟩ := hF.at h.2.1 h.1 hj
  exact ⟨h2, h3, by show w'.1.1 a = _; rw [h1]; exact h.2.2⟩
theorem ArI.fr {E : gE} {J : Nat × Nat × Nat → Prop} {w w' : gWd} {t : Nat × Nat × Nat} {a n : Nat} {g : Nat → Int32} (h : ArI E w t a n g) (hF : FS E J w w') (hj : ¬ J t) : ArI E w' t a n g := by
  obtain ⟨h1, h2, h3⟩ := hF.at h.2.1 h.1 hj
  exact ⟨h2, h3, h.2.2.1, by rw [h1]; exact h.2.2.2⟩
theorem ArB.fr {E : gE} {J : Nat × Nat × Nat → Prop} {w w' : gWd} {t : Nat × Nat × Nat} {a n : Nat} {g : Nat → Int32} (h : ArB E w t a n g) (hF : FS E J w w') (hj : ¬ J t) : ArB E w' t a n g := by
  obtain ⟨h1, h2, h3⟩ := hF.at h.2.1 h.1 hj
  exact ⟨h2, h3, h.2.2.1, by rw [h1]; exact h.2.2.2⟩
theorem ArJ.fr {E : gE} {J : Nat × Nat × Nat → Prop} {w w' : gWd} {t : Nat × Nat × Nat} {a n : Nat} {g : Nat → Int64} (h : ArJ E w t a n g) (hF : FS E J w w') (hj : ¬ J t) : ArJ E w' t a n g := by
  obtain ⟨h1, h2, h3⟩ := hF.at h.2.1 h.1 hj
  exact ⟨h2, h3, h.2.2.1, by show w'.1.1 a = _; rw [h1]; exact h.2.2.2⟩
theorem ArR.fr {E : gE} {J : Nat × Nat × Nat → Prop} {w w' : gWd} {t : Nat × Nat × Nat} {k a n : Nat} {g : Nat → Option Nat} (h : ArR E w t k a n g) (hF : FS E J w w') (hj : ¬ J t) : ArR E w' t k a n g := by
  obtain ⟨h1, h2, h3⟩ := hF.at h.2.1 h.1 hj
  exact ⟨h2, h3, h.2.2.1, by rw [h1]; exact h.2.2.2⟩
theorem gfI_o {σ : gS} {a ci k : Nat} {fs : List Value} {x : Int32} (h : oO σ a ci fs) (hk : fs[k]? = some (.int x)) : gfI σ a ci k = some x := by
  unfold gfI
  rw [h]
  simp only [if_true]
  rw [hk]
theorem gfR_o {σ : gS} {a ci k : Nat} {fs : List Value} {x : Nat} (h : oO σ a ci fs) (hk : fs[k]? = some (.ref x)) : gfR σ a ci k = some x := by
  unfold gfR
  rw [h]
  simp only [if_true]
  rw [hk]
theorem gcl_o {σ : gS} {a ci : Nat} {fs : List Value} (h : oO σ a ci fs) : gcl σ a ci = some () := by
  unfold gcl
  rw [h]
  simp only [if_true]
/-- the world behind a store -/
def wUp (w : gWd) (a : Nat) (e : va_E) : gWd := ((va_up w.1.1 a e, w.1.2), w.2)
theorem wUp_at {w : gWd} {a : Nat} {e : va_E} : (wUp w a e).1.1 a = e := up_same
theorem wUp_ne {w : gWd} {a b : Nat} {e : va_E} (h : b ≠ a) : (wUp w a e).1.1 b = w.1.1 b := up_ne h
/-- a field is put -/
theorem Ob.put {E : gE} {w : gWd} {t : Nat × Nat × Nat} {a ci : Nat} {fs : List Value} (h : Ob w t a ci fs) (k : Nat) (v : Value) (hk : k < fs.length) {J : Nat × Nat × Nat → Prop} (hJ : J t) : gpf E w.1 a ci k v = some (wUp w a (.inr (ci, fs.set k v))).1 ∧ Ob (wUp w a (.inr (ci, fs.set k v))) t a ci (fs.set k v) ∧ FS E J w (wUp w a (.inr (ci, fs.set k v))) :=
  ⟨h.2.2.put hk, ⟨h.1, h.2.1, wUp_at⟩, FS.up (by rw [h.1]; exact hJ)⟩
theorem ArI.st {E : gE} {w : gWd} {t : Nat × Nat × Nat} {a n : Nat} {g : Nat → Int32} (h : ArI E w t a n g) {i : Nat} (hi : i < n) (hn : n < 2 ^ 31) (x : Int32) {J : Nat × Nat × Nat → Prop} (hJ : J t) : gwaI E w.1 a (nI i) x = some (wUp w a (.inl (gcy E 0, n, .inl (upd g i x)))).1 ∧ ArI E (wUp w a (.inl (gcy E 0, n, .inl (upd g i x)))) t a n (upd g i x) ∧ FS E J w (wUp w a (.inl (gcy E 0, n, .inl (upd g i x)))) :=
  ⟨h.2.2.st hi hn x, ⟨h.1, h.2.1, h.2.2.1, wUp_at⟩, FS.up (by rw [h.1]; exact hJ)⟩
theorem ArB.st {E : gE} {w : gWd} {t : Nat × Nat × Nat} {a n : Nat} {g : Nat → Int32} (h : ArB E w t a n g) {i : Nat} (hi : i < n) (hn : n < 2 ^ 31) (x : Int32) {J : Nat × Nat × Nat → Prop} (hJ : J t) : gwaB E w.1 a (nI i) x = some (wUp w a (.inl (gcy E 1, n, .inl (upd g i (vp_nar .byte x))))).1 ∧ ArB E (wUp w a (.inl (gcy E 1, n, .inl (upd g i (vp_nar .byte x))))) t a n (upd g i (vp_nar .byte x)) ∧ FS E J w (wUp w a (.inl (gcy E 1, n, .inl (upd g i (vp_nar .byte x))))) :=
  ⟨h.2.2.st hi hn x, ⟨h.1, h.2.1, h.2.2.1, wUp_at⟩, FS.up (by rw [h.1]; exact hJ)⟩
theorem ArJ.st {E : gE} {w : gWd} {t : Nat × Nat × Nat} {a n : Nat} {g : Nat → Int64} (h : ArJ E w t a n g) {i : Nat} (hi : i < n) (hn : n < 2 ^ 31) (x : Int64) {J : Nat × Nat × Nat → Prop} (hJ : J t) : gwaJ E w.1 a (nI i) x = some (wUp w a (.inl (gcy E 2, n, .inr (.inl (vp_updL g i x))))).1 ∧ ArJ E (wUp w a (.inl (gcy E 2, n, .inr (.inl (vp_updL g i x))))) t a n (vp_updL g i x) ∧ FS E J w (wUp w a (.inl (gcy E 2, n, .inr (.inl (vp_updL g i x))))) :=
  ⟨h.2.2.2.st hi hn x, ⟨h.1, h.2.1, h.2.2.1, wUp_at⟩, FS.up (by rw [h.1]; exact hJ)⟩
theorem ArI.cp {E : gE} {w : gWd} {t0 t : Nat × Nat × Nat} {a0 a n0 n1 sp dp n : Nat} {f g : Nat → Int32} (h0 : ArI E w t0 a0 n0 f) (h : ArI E w t a n1 g) (hs : sp + n ≤ n0) (hd : dp + n ≤ n1) (h31 : n0 < 2 ^ 31) (h32 : n1 < 2 ^ 31) {J : Nat × Nat × Nat → Prop} (hJ : J t) : gcopy E w.1 a0 (nI sp) a (nI dp) (nI n) = some (wUp w a (.inl (gcy E 0, n1, .inl (va_cpy f g sp dp n)))).1 ∧ ArI E (wUp w a (.inl (gcy E 0, n1, .inl (va_cpy f g sp dp n)))) t a n1 (va_cpy f g sp dp n) ∧ FS E J w (wUp w a (.inl (gcy E 0, n1, .inl (va_cpy f g sp dp n)))) :=
  ⟨h0.2.2.cp h.2.2 hs hd h31 h32, ⟨h.1, h.2.1, h.2.2.1, wUp_at⟩, FS.up (by rw [h.1]; exact hJ)⟩
/-- a new array of ints: dictionary (j, c) has it, whose room is n now -/
def wNew (w : gWd) (t : Nat × Nat × Nat) (e : va_E) (n : Nat) (cp : Nat → Nat → Nat) : gWd := ((va_up w.1.1 w.1.2.1 e, w.1.2.1 + 1, w.1.2.2 + n), va_up w.2.1 w.1.2.1 t, cp)
theorem Phi_upd {cp : Nat → Nat → Nat} {j c n : Nat} (hj : j < 11) (hc : c < 6) : Phi (fun j' c' => if j' = j ∧ c' = c then n else cp j' c') + (65536 - 2 * cp j c) = Phi cp + (65536 - 2 * n) := by
  unfold Phi
  have h := fb_sm_upd (fun i => 65536 - 2 * cp (i / 6) (i % 6)) (65536 - 2 * n) (i := 6 * j + c) (n := 66) (by omega)
  have h1 : (6 * j + c) / 6 = j := by omega
  have h2 : (6 * j + c) % 6 = c := by omega
  simp only [h1, h2] at h
  rw [← h]
  congr 1
  apply fb_sm_cong
  intro k hk
  by_cases hkk : k = 6 * j + c
  · subst hkk
    simp only [h1, h2]
    simp
  · have : ¬ (k / 6 = j ∧ k % 6 = c) := by omega
    simp [hkk, this]
theorem grow {E : gE} {w : gWd} {j c n x : Nat} (hR : RM E w x) (hj : j < 11) (hc : c < 6) (hn : 2 * w.2.2 j c ≤ n) (hn2 : n ≤ 32768) (h16 : 16 ≤ w.2.2 j c) {J : Nat × Nat × Nat → Prop} (hJ : J (9, j, c)) :
    ∃ w' : gWd, gnaI E w.1 (nI n) = some (w.1.2.1, w'.1) ∧ FS E J w w' ∧ ArI E w' (9, j, c) w.1.2.1 n (fun _ => 0) ∧ w'.2.2 j c = n ∧ (∀ b, b < w.1.2.1 → w'.1.1 b = w.1.1 b) := by
  obtain ⟨h1, h2, h3⟩ := hR
  have hP : ∀ cp : Nat → Nat → Nat, 65536 - 2 * cp j c ≤ Phi cp := by
    intro cp
    have h := Phi_upd (cp := cp) (n := 32768) hj hc
    omega
  have hp := hP w.2.2
  have hu := Phi_upd (cp := w.2.2) (n := n) hj hc
  have hi : (nI n).toNatClampNeg = n := nI_clamp (by omega)
  refine ⟨wNew w (9, j, c) (.inl (gcy E 0, n, .inl (fun _ => 0))) n (fun j' c' => if j' = j ∧ c' = c then n else w.2.2 j' c'), ?_, ⟨Nat.le_succ _, fun a ha => ?_, fun j' c' hj' => ?_, fun y hy => ?_⟩, ⟨va_up_self _ _ _, Nat.lt_succ_self _, h3 _ (Nat.le_refl _), up_same⟩, by simp [wNew], fun b hb => up_ne (Nat.ne_of_lt hb)⟩
  · unfold gnaI gna
    rw [hi, if_pos ⟨nI_pos (by omega), by omega, by omega, by omega⟩]
    rfl
  · exact ⟨va_up_ne _ _ (Nat.ne_of_lt ha), fun _ => up_ne (Nat.ne_of_lt ha)⟩
  · show (if j' = j ∧ c' = c then n else w.2.2 j' c') = _
    rw [if_neg]
    rintro ⟨rfl, rfl⟩
    exact hj' hJ
  · obtain ⟨g1, g2, g3⟩ := hy
    refine ⟨?_, ?_, fun a ha => g3 a (by have : w.1.2.1 + 1 ≤ a := ha; omega)⟩
    · show w.1.2.2 + n + Phi (fun j' c' => if j' = j ∧ c' = c then n else w.2.2 j' c') + 6 * y ≤ gM E
      omega
    · show 32 * (w.1.2.1 + 1) + Phi (fun j' c' => if j' = j ∧ c' = c then n else w.2.2 j' c') + 32 * y ≤ 32 * gK E
      omega
