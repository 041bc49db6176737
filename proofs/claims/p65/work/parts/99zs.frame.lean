/-! frames by addresses: what the law's own cells do -/
abbrev tL : Nat × Nat × Nat := (31, 31, 0)
theorem tL_JK : ¬ JK tL := by decide
def FP (P : Nat → Prop) (w w' : gWd) : Prop := w.1.2.1 ≤ w'.1.2.1 ∧ ∀ a, a < w.1.2.1 → w'.2.1 a = w.2.1 a ∧ (¬ JK (w.2.1 a) → ¬ P a → w'.1.1 a = w.1.1 a)
section FPS
variable {E : gE} {P P' : Nat → Prop} {w w1 w2 w' : gWd} {a n i : Nat} {g : Nat → Int32} {x : Int32} {u v : Nat}
theorem FP.rf : FP P w w := ⟨Nat.le_refl _, fun _ _ => ⟨rfl, fun _ _ => rfl⟩⟩
theorem FP.tr (h : FP P w w1) (h2 : FP P w1 w2) : FP P w w2 := by
  obtain ⟨a1, a2⟩ := h
  obtain ⟨b1, b2⟩ := h2
  refine ⟨Nat.le_trans a1 b1, fun a ha => ?_⟩
  have h1 := a2 a ha
  have h3 := b2 a (Nat.lt_of_lt_of_le ha a1)
  exact ⟨h3.1.trans h1.1, fun hj hp => (h3.2 (by rw [h1.1]; exact hj) hp).trans (h1.2 hj hp)⟩
theorem FP.mono (h : FP P w w') (hP : ∀ a, P a → P' a) : FP P' w w' := ⟨h.1, fun a ha => ⟨(h.2 a ha).1, fun hj hp => (h.2 a ha).2 hj (fun z => hp (hP _ z))⟩⟩
/-- .. of what was there before alone -/
theorem FP.old (h : FP P w w') (hP : ∀ a, a < w.1.2.1 → P a → P' a) : FP P' w w' := ⟨h.1, fun a ha => ⟨(h.2 a ha).1, fun hj hp => (h.2 a ha).2 hj (fun z => hp (hP _ ha z))⟩⟩
theorem FS.fp {E : gE} {J : Nat × Nat × Nat → Prop} (h : FS E J w w') (hJ : ∀ t, J t → JK t) : FP P w w' := ⟨h.1, fun a ha => ⟨(h.2.1 a ha).1, fun hj _ => (h.2.1 a ha).2 (fun z => hj (hJ _ z))⟩⟩
def KP (E : gE) (P : Nat → Prop) (u : Nat) (w w' : gWd) : Prop := FP P w w' ∧ ∀ y, RM E w (y + u) → RM E w' y
theorem KP.rf : KP E P 0 w w := ⟨FP.rf, fun _ h => h⟩
theorem KP.tr (h : KP E P u w w1) (h2 : KP E P v w1 w2) : KP E P (u + v) w w2 := ⟨h.1.tr h2.1, fun y hy => h2.2 y (h.2 (y + v) (hy.dn (by omega)))⟩
theorem KP.mono (h : KP E P u w w') (hP : ∀ a, P a → P' a) : KP E P' u w w' := ⟨h.1.mono hP, h.2⟩
theorem KP.old (h : KP E P u w w') (hP : ∀ a, a < w.1.2.1 → P a → P' a) : KP E P' u w w' := ⟨h.1.old hP, h.2⟩
theorem KP.le (h : KP E P u w w') (hu : u ≤ v) : KP E P v w w' := ⟨h.1, fun y hy => h.2 y (hy.dn (by omega))⟩
theorem KK.kp (h : KK E JK w w') : KP E P 0 w w' := ⟨h.1.fp (fun _ z => z), fun y hy => h.2 y hy⟩
theorem ArI.fp (h : ArI E w tL a n g) (hF : FP P w w') (hP : ¬ P a) : ArI E w' tL a n g := by
  obtain ⟨h1, h2, h3, h4⟩ := h
  obtain ⟨f1, f2⟩ := hF.2 a h2
  rw [h1] at f1 f2
  exact ⟨f1, Nat.lt_of_lt_of_le h2 hF.1, h3, by rw [f2 tL_JK hP]; exact h4⟩
theorem ArB.fp (h : ArB E w tL a n g) (hF : FP P w w') (hP : ¬ P a) : ArB E w' tL a n g := by
  obtain ⟨h1, h2, h3, h4⟩ := h
  obtain ⟨f1, f2⟩ := hF.2 a h2
  rw [h1] at f1 f2
  exact ⟨f1, Nat.lt_of_lt_of_le h2 hF.1, h3, by rw [f2 tL_JK hP]; exact h4⟩
theorem Ob.fp {ci : Nat} {fs : List Value} (h : Ob w tL a ci fs) (hF : FP P w w') (hP : ¬ P a) : Ob w' tL a ci fs := by
  obtain ⟨h1, h2, h3⟩ := h
  obtain ⟨f1, f2⟩ := hF.2 a h2
  rw [h1] at f1 f2
  exact ⟨f1, Nat.lt_of_lt_of_le h2 hF.1, by show w'.1.1 a = _; rw [f2 tL_JK hP]; exact h3⟩
/-- the object isn't touched by what the law does to its own cells -/
theorem RK.tl {l : Nat} {ad : Nat → Nat} {Q : gQ} (h : RK E w l ad Q) (hF : FS (E0 E) (fun t => t = tL) w w') : RK E w' l ad Q :=
  RK.fr (E := E0 E) h hF (fun κ j c hj z => by
    have e : j = 31 := congrArg (fun t : Nat × Nat × Nat => t.2.1) z
    omega)
theorem fp_up (ha : w.2.1 a = tL) (e : va_E) : FS (E0 E) (fun t => t = tL) w (wUp w a e) ∧ KP E (fun b => b = a) 0 w (wUp w a e) := by
  refine ⟨FS.up (w := w) (a := a) (e := e) ha, ⟨Nat.le_refl _, fun b hb => ⟨rfl, fun _ hne => wUp_ne hne⟩⟩, fun y hy => hy⟩
/-- a new cell of the law's -/
theorem fp_new (hw : 0 < w.1.2.1) (e : va_E) (hn : n ≤ 6 * u) (hu : 1 ≤ u) : FS (E0 E) (fun _ => False) w (wNew w tL e n w.2.2) ∧ KP E P u w (wNew w tL e n w.2.2) := by
  have h1 := (nw_cell (E := E) (J := fun _ => False) (t := tL) (n := n) hw e).1
  refine ⟨h1, h1.fp (fun _ z => z.elim), fun y hy => ?_⟩
  obtain ⟨b1, b2, b3⟩ := hy
  refine ⟨?_, ?_, fun a ha => b3 a (by have : w.1.2.1 + 1 ≤ a := ha; omega)⟩
  · show w.1.2.2 + n + Phi w.2.2 + 6 * y ≤ gM E
    omega
  · show 32 * (w.1.2.1 + 1) + Phi w.2.2 + 32 * y ≤ 32 * gK E
    omega
theorem fp_room (h : RM E w (v + u)) (hn : n ≤ 6 * u) (hu : 1 ≤ u) (hw : 0 < w.1.2.1) : BG E w (0 + 1) (0 + n) := by
  obtain ⟨b1, b2, b3⟩ := h
  exact ⟨by omega, by omega, hw, b3⟩
theorem fp_naI (h : RM E w (v + u)) (hn : n ≤ 6 * u) (hu : 1 ≤ u) (hw : 0 < w.1.2.1) (hn6 : n ≤ 60000000) : gnaI E w.1 (nI n) = some (w.1.2.1, (wNew w tL (.inl (gcy E 0, n, .inl fun _ => 0)) n w.2.2).1) ∧ ArI E (wNew w tL (.inl (gcy E 0, n, .inl fun _ => 0)) n w.2.2) tL w.1.2.1 n (fun _ => 0) :=
  ⟨gna_ok (fp_room h hn hu hw) hn6 0 tL, va_up_self _ _ _, Nat.lt_succ_self _, h.2.2 _ (Nat.le_refl _), up_same⟩
end FPS
