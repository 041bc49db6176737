/-! the law's calls of the object: the answer, and what stays -/
theorem KK.tr {E : gE} {J : Nat × Nat × Nat → Prop} {w w1 w2 : gWd} (h : KK E J w w1) (h2 : KK E J w1 w2) : KK E J w w2 := ⟨h.1.trans h2.1, fun y hy => h2.2 y (h.2 y hy)⟩
def LG {β : Type} (E : gE) (l : Nat) (ad : Nat → Nat) (Q' : gQ) (r : β) (w : gWd) (res : Option (β × gS)) : Prop := ∃ w', res = some (r, w'.1) ∧ KK E JK w w' ∧ RK E w' l ad Q'
def RW (E : gE) (l : Nat) (ad : Nat → Nat) (Q : gQ) (w : gWd) : Prop := RK E w l ad Q ∧ RM E w 1
section LGS
variable {E : gE} {l : Nat} {ad : Nat → Nat} {Q Q1 Q' : gQ} {w : gWd} {α β : Type} {v : α} {r : β}
theorem LG.ret (h : RW E l ad Q w) : LG E l ad Q r w (some (r, w.1)) := ⟨w, rfl, KK.rf h.1.pos, h.1⟩
theorem LG.call {f : Option ((Nat ⊕ α) × gS)} {k : α → gS → Option (β × gS)} (h : RW E l ad Q w) (hf : XA E w l ad Q1 (Sum.inr v) f) (kk : ∀ w1, KK E JK w w1 → RW E l ad Q1 w1 → LG E l ad Q' r w1 (k v w1.1)) : LG E l ad Q' r w (ob (gcl w.1 l 10) fun _ => ob f fun x => gtry x (fun _ _ => none) k) := by
  obtain ⟨w1, e1, F1, h1⟩ := hf
  obtain ⟨w2, e2, F2, h2⟩ := kk w1 F1 ⟨h1, F1.2 _ h.2⟩
  refine ⟨w2, ?_, F1.tr F2, h2⟩
  rw [ob_e h.1.cl, ob_e e1]
  exact e2
theorem LG.ask {f : Option α} {k : α → Option (β × gS)} (h : RW E l ad Q w) (hf : f = some v) (kk : LG E l ad Q' r w (k v)) : LG E l ad Q' r w (ob (gcl w.1 l 10) fun _ => ob f k) := by
  obtain ⟨w2, e2, F2, h2⟩ := kk
  refine ⟨w2, ?_, F2, h2⟩
  rw [ob_e h.1.cl, ob_e hf]
  exact e2
theorem LG.two {f : Option (α × gS)} {J : Nat × Nat × Nat → Prop} {k : α × gS → Option (β × gS)} (h : RW E l ad Q w) (hf : ∃ w', f = some (v, w'.1) ∧ FS E J w w' ∧ RK E w' l ad Q1) (hJ : ∀ t, J t → JK t) (kk : ∀ w1, KK E JK w w1 → RW E l ad Q1 w1 → LG E l ad Q' r w1 (k (v, w1.1))) : LG E l ad Q' r w (ob (gcl w.1 l 10) fun _ => ob f k) := by
  obtain ⟨w1, e1, F1, h1⟩ := hf
  have F := (F1.mono hJ).kk h.1.pos
  obtain ⟨w2, e2, F2, h2⟩ := kk w1 F ⟨h1, F.2 _ h.2⟩
  refine ⟨w2, ?_, F.tr F2, h2⟩
  rw [ob_e h.1.cl, ob_e e1]
  exact e2
theorem LG.it {c : Prop} {_ : Decidable c} {a b : Option (β × gS)} (hc : c) (h : LG E l ad Q r w a) : LG E l ad Q r w (if c then a else b) := by rw [if_pos hc]; exact h
theorem LG.ie {c : Prop} {_ : Decidable c} {a b : Option (β × gS)} (hc : ¬ c) (h : LG E l ad Q r w b) : LG E l ad Q r w (if c then a else b) := by rw [if_neg hc]; exact h
theorem LG.bind {α2 : Type} {v2 : α2} {f : Option (α2 × gS)} {k : α2 × gS → Option (β × gS)} (h : RW E l ad Q w) (hf : LG E l ad Q1 v2 w f) (kk : ∀ w1, KK E JK w w1 → RW E l ad Q1 w1 → LG E l ad Q' r w1 (k (v2, w1.1))) : LG E l ad Q' r w (ob f k) := by
  obtain ⟨w1, e1, F1, h1⟩ := hf
  obtain ⟨w2, e2, F2, h2⟩ := kk w1 F1 ⟨h1, F1.2 _ h.2⟩
  refine ⟨w2, ?_, F1.tr F2, h2⟩
  rw [ob_e e1]
  exact e2
end LGS
