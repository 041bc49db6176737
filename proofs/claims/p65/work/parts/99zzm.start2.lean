/-! the start: the constants read off the heap; what a cell is, is told by what it holds -/
def hpI (s : State) (a j : Nat) : Int32 := match s.heap[a]? with
  | some cl => (match cl.slots[j]? with | some (.int z) => z | _ => 0)
  | none => 0
def fdR (s : State) (a : Nat) (c n d : String) : Nat := match s.fieldOf? a c n d with
  | some (.ref t) => t
  | _ => 0
def hasR (c : Cell) : Prop := ∃ (j : Nat) (t : Addr), c.slots[j]? = some (.ref t)
def isBy (s : State) (c : Cell) : Prop := ∃ (k : Class) (comp : ClassId), s.vm.classes[c.cls]? = some k ∧ k.kind = .array comp .byte
noncomputable def cif {α : Type} (P : Prop) (x y : α) : α := @ite α P (Classical.propDecidable P) x y
theorem cif_pos {α : Type} {P : Prop} {x y : α} (h : P) : cif P x y = x := @if_pos P (Classical.propDecidable P) h α x y
theorem cif_neg {α : Type} {P : Prop} {x y : α} (h : ¬ P) : cif P x y = y := @if_neg P (Classical.propDecidable P) h α x y
/-- what the cell at a is -/
noncomputable def csOf (s : State) (a : Nat) : va_E := match s.heap[a]? with
  | none => .inl (0, 0, .inl fun _ => 0)
  | some cl =>
    cif (hasR cl) (.inr (100, [.ref (fdR s a "java/lang/String" "value" "[B"), .int 0]))
      (.inl (cif (isBy s cl) 1 0, cl.slots.size, .inl (hpI s a)))
/-- an array of exactly n values -/
def HV (s : State) (ty : FieldType) (a n : Nat) (f : Nat → Value) : Prop := ∃ cell : Cell, s.heap[a]? = some cell ∧ s.isArrayOf cell ty ∧ cell.vm ≠ .unknown ∧ cell.slots.size = n ∧ n < 2 ^ 31 ∧ ∀ j : Nat, j < n → cell.slots[j]? = some (f j)
theorem ofN_inj {a b : Nat} (ha : a < 2 ^ 31) (hb : b < 2 ^ 31) (h : Int32.ofNat a = Int32.ofNat b) : a = b := by
  have h2 := congrArg Int32.toNatClampNeg h
  rwa [Int32.toNatClampNeg_ofNat_of_lt ha, Int32.toNatClampNeg_ofNat_of_lt hb] at h2
theorem len_lt {args : Array Value} {s : State} {t : Term} {v : Value} {a : Nat} {cell : Cell} (h : (Term.length t).eval args s none [] s = some v) (ht : t.eval args s none [] s = some (.ref a)) (hc : s.heap[a]? = some cell) : cell.slots.size < 2 ^ 31 := by
  simp only [Term.eval, Option.bind_eq_bind] at h
  simp only [ht, Option.bind_some] at h
  obtain ⟨cell2, h2, h⟩ := Option.bind_eq_some_iff.mp h
  cases (State.arrayAt?_spec h2).1.symm.trans hc
  by_cases hn : cell.slots.size < 2147483648
  · exact hn
  · rw [if_neg hn] at h
    cases h
abbrev stL' (s : State) : Nat → Prop := fun q => s.heap.size ≤ q
theorem stA_no (s : State) : ∀ a : Nat, a < s.heap.size → ¬ stL' s a := fun _ h => Nat.not_le.mpr h
theorem HV.of {args : Array Value} {s : State} {tm : Term} {ty : FieldType} {N : Nat} {f : Nat → Value} (hN : N < 2 ^ 31) (harr : (Cond.arrayOf tm ty).before args s = true) (hlen : (Term.length tm).eval args s none [] s = some (.int (Int32.ofNat N))) (hel : ∀ j : Nat, j < N → (Term.elem tm (.int (Int32.ofNat j))).eval args s none [] s = some (f j)) : ∃ t : Nat, tm.eval args s none [] s = some (.ref t) ∧ HV s ty t N f := by
  obtain ⟨t, ht, cell, h1, h2, h3, h4, h5, h6, h7⟩ := va_Tof (A := stL' s) hN harr hlen hel (stA_no s)
  exact ⟨t, ht, cell, h1, h2, h3, ofN_inj (len_lt hlen ht h1) hN h5, hN, h6⟩
theorem csOf_I {s : State} {ty : FieldType} {a n tt : Nat} {f : Nat → Int32} (h : HV s ty a n (fun j => .int (f j))) (h1 : (ty = .int ∧ tt = 0) ∨ (ty = .byte ∧ tt = 1)) : ∃ g, csOf s a = .inl (tt, n, .inl g) ∧ ∀ j, j < n → g j = f j := by
  obtain ⟨cell, hc, ⟨ho1, k, hk, comp, hkind⟩, hv, hn, hlt, hs⟩ := h
  have hnr : ¬ hasR cell := fun ⟨j, t, hj⟩ => by
    have h2 : j < n := by rw [← hn]; exact (Array.getElem?_eq_some_iff.mp hj).1
    rw [hs j h2] at hj
    cases hj
  refine ⟨hpI s a, ?_, fun j hj => by simp only [hpI, hc, hs j hj]⟩
  rcases h1 with ⟨rfl, rfl⟩ | ⟨rfl, rfl⟩
  · have hb : ¬ isBy s cell := fun ⟨k2, comp2, e1, e2⟩ => by
      cases hk.symm.trans e1
      rw [hkind] at e2
      cases e2
    simp only [csOf, hc, cif_neg hnr, cif_neg hb, hn]
  · have hb : isBy s cell := ⟨k, comp, hk, hkind⟩
    simp only [csOf, hc, cif_neg hnr, cif_pos hb, hn]
theorem csOf_S {s : State} {a t : Nat} (hO : va_O "java/lang/String" a (stL' s) s s.heap) (hV : va_OF "java/lang/String" "value" "[B" (.ref t) a (stL' s) s s.heap) (hC : va_OF "java/lang/String" "coder" "B" (.int 0) a (stL' s) s s.heap) (hf : s.fieldOf? a "java/lang/String" "value" "[B" = some (.ref t)) : csOf s a = .inr (100, [.ref t, .int 0]) := by
  obtain ⟨cell, hc, -, hcl, -⟩ := hO
  obtain ⟨_, _, _, f1, c1, -, -, h1, -, h2, -⟩ := hV
  obtain ⟨_, _, _, f2, c2, -, -, h3, -, h4, -⟩ := hC
  cases hc.symm.trans h1
  cases hc.symm.trans h3
  have hr : hasR cell := ⟨_, _, h2⟩
  simp only [csOf, hc, cif_pos hr, fdR, hf]
theorem wk_I {E : gE} {s : State} {ty : FieldType} {a n tt : Nat} {f g : Nat → Int32} (hcs : gcs E a = .inl (tt, n, .inl g)) (h : HV s ty a n (fun j => .int (f j))) (hg : ∀ j, j < n → g j = f j) (hty : gty tt = ty) : gWk E a (stL' s) s s.heap := by
  obtain ⟨cell, hc, ho, hv, hn, hlt, hs⟩ := h
  unfold gWk
  rw [hcs]
  exact ⟨cell, hc, hty ▸ ho, hv, Nat.le_of_eq hn.symm, by rw [hn], fun j hj => by rw [hs j hj]; show _ = some (Value.int (g j)); rw [hg j hj], stA_no s a (Array.getElem?_eq_some_iff.mp hc).1⟩
theorem wk_S {E : gE} {s : State} {a t : Nat} (hcs : gcs E a = .inr (100, [.ref t, .int 0])) (hO : va_O "java/lang/String" a (stL' s) s s.heap) (hV : va_OF "java/lang/String" "value" "[B" (.ref t) a (stL' s) s s.heap) (hC : va_OF "java/lang/String" "coder" "B" (.int 0) a (stL' s) s s.heap) : gWk E a (stL' s) s s.heap := by
  unfold gWk
  rw [hcs]
  refine ⟨hO, fun k v hk => ?_⟩
  match k, hk with
  | 0, hk => cases hk; exact hV
  | 1, hk => cases hk; exact hC
