/-! the start: the world of the constants -/
noncomputable def sV (b : Nat) (s : State) (k : Nat) : Nat := fdR s (wk b s k) "java/lang/String" "value" "[B"
noncomputable def wst (b : Nat) (s : State) (k : Nat) : Nat := if k = 60 then (match tSI.eval #[Value.ref b] s none [] s with | some (.ref a) => a + 1 | _ => 0) else wk b s k
def Role (b : Nat) (s : State) (a : Nat) : Prop := (∃ k, k < 4 ∧ (a = wk b s k ∨ a = sV b s k)) ∨ a = wk b s 40 ∨ a = wk b s 43 ∨ a = b
noncomputable def roF (b : Nat) (s : State) (a : Nat) : Bool := cif (Role b s a) true false
noncomputable def EZ (b : Nat) (s : State) (cy : Nat → ClassId) : gE := ((100000, 600086 + s.heap.size, 7301442 + gsum s.heap), cy, roF b s, wst b s, csOf s)
theorem roF_y {b : Nat} {s : State} {a : Nat} (h : Role b s a) : roF b s a = true := cif_pos h
theorem roF_r {b : Nat} {s : State} {a : Nat} (h : roF b s a = true) : Role b s a := by
  by_cases hR : Role b s a
  · exact hR
  · exact absurd ((cif_neg hR).symm.trans h) (by decide)
theorem wst_k {b : Nat} {s : State} {k : Nat} (h : k ≠ 60) : wst b s k = wk b s k := if_neg h
theorem strF_V {b : Nat} {s : State} {k t : Nat} (h : strF b s k t) : sV b s k = t := by
  obtain ⟨-, -, -, -, hf, -⟩ := h
  simp only [sV, fdR, hf]
/-- every constant is what the world says, and lies in the heap -/
theorem role_wk {b L : Nat} {xs : Nat → Int32} {s : State} {cy : Nat → ClassId} (hF : FLs b s) (hX : va_X b L xs s s.heap) (hL : L ≤ 260) (a : Nat) (h : Role b s a) : gWk (EZ b s cy) a (stL' s) s s.heap ∧ a < s.heap.size := by
  have hlt : ∀ {ty n f a}, HV s ty a n f → a < s.heap.size := fun h => (Array.getElem?_eq_some_iff.mp h.choose_spec.1).1
  have hlo : ∀ {nm a}, va_O nm a (stL' s) s s.heap → a < s.heap.size := fun h => (Array.getElem?_eq_some_iff.mp h.choose_spec.1).1
  rcases h with ⟨k, hk, hh⟩ | rfl | rfl | rfl
  · obtain ⟨t, hs⟩ := str_fact hF k hk
    have hv := strF_V hs
    obtain ⟨-, h2, h3, h4, h5, h6⟩ := hs
    rcases hh with rfl | rfl
    · exact ⟨wk_S (csOf_S h2 h3 h4 h5) h2 h3 h4, hlo h2⟩
    · rw [hv]
      obtain ⟨g, hg, hgf⟩ := csOf_I (tt := 1) h6 (Or.inr ⟨rfl, rfl⟩)
      exact ⟨wk_I hg h6 hgf rfl, hlt h6⟩
  · have h6 := (FC_fact hF).2
    obtain ⟨g, hg, hgf⟩ := csOf_I (tt := 0) h6 (Or.inl ⟨rfl, rfl⟩)
    exact ⟨wk_I hg h6 hgf rfl, hlt h6⟩
  · have h6 := (DO_fact hF).2
    obtain ⟨g, hg, hgf⟩ := csOf_I (tt := 1) h6 (Or.inr ⟨rfl, rfl⟩)
    exact ⟨wk_I hg h6 hgf rfl, hlt h6⟩
  · obtain ⟨cell, h1, h2, h3, h4, h5⟩ := hX
    have h6 : HV s .int a L (fun j => .int (xs j)) := ⟨cell, h1, h2, h3, h4, by omega, h5⟩
    obtain ⟨g, hg, hgf⟩ := csOf_I (tt := 0) h6 (Or.inl ⟨rfl, rfl⟩)
    exact ⟨wk_I hg h6 hgf rfl, hlt h6⟩
theorem start_ok {b : Nat} {s : State} {cy : Nat → ClassId} (hF : FLs b s) : gOK (EZ b s cy) := by
  refine ⟨Nat.le_refl _, fun k hk => ?_, ?_, ?_⟩
  · obtain ⟨t, hs⟩ := str_fact hF k hk
    have hv := strF_V hs
    obtain ⟨-, h2, h3, h4, h5, h6⟩ := hs
    obtain ⟨g, hg, hgf⟩ := csOf_I (tt := 1) h6 (Or.inr ⟨rfl, rfl⟩)
    have e : gst (EZ b s cy) k = wk b s k := wst_k (by omega)
    rw [e]
    exact ⟨roF_y (Or.inl ⟨k, hk, Or.inl rfl⟩), t, g, csOf_S h2 h3 h4 h5, roF_y (Or.inl ⟨k, hk, Or.inr hv.symm⟩), hg, txt_lt k hk, fun i hi => ⟨txt_c k hk i hi, hgf i hi⟩⟩
  · have h6 := (FC_fact hF).2
    obtain ⟨g, hg, hgf⟩ := csOf_I (tt := 0) h6 (Or.inl ⟨rfl, rfl⟩)
    have e : gst (EZ b s cy) 40 = wk b s 40 := wst_k (k := 40) (by omega)
    rw [e]
    exact ⟨roF_y (Or.inr (Or.inl rfl)), g, hg, hgf⟩
  · have h6 := (DO_fact hF).2
    obtain ⟨g, hg, hgf⟩ := csOf_I (tt := 1) h6 (Or.inr ⟨rfl, rfl⟩)
    have e : gst (EZ b s cy) 43 = wk b s 43 := wst_k (k := 43) (by omega)
    rw [e]
    exact ⟨roF_y (Or.inr (Or.inr (Or.inl rfl))), g, hg, fun i hi => by rw [hgf i (by omega), Nat.mod_eq_of_lt hi]⟩
theorem start_scr {b L : Nat} {xs : Nat → Int32} {s : State} {cy : Nat → ClassId} (hX : va_X b L xs s s.heap) (hL : L ≤ 260) : gro (EZ b s cy) b = true ∧ ∃ g, gcs (EZ b s cy) b = .inl (0, L, .inl g) := by
  obtain ⟨cell, h1, h2, h3, h4, h5⟩ := hX
  have h6 : HV s .int b L (fun j => .int (xs j)) := ⟨cell, h1, h2, h3, h4, by omega, h5⟩
  obtain ⟨g, hg, -⟩ := csOf_I (tt := 0) h6 (Or.inl ⟨rfl, rfl⟩)
  exact ⟨roF_y (Or.inr (Or.inr (Or.inr rfl))), g, hg⟩
def lwTs (b : Nat) (s : State) : Prop := ∀ w ∈ lw_tbl, w.before #[Value.ref b] s = true
theorem prim_cls {b : Nat} {s : State} {ty : FieldType} (h : (Cond.arrayClass ty).before #[Value.ref b] s = true) : ∃ c : ClassId, ArrOfT s c ty ∧ s.vm.findClass ("[" ++ ty.toString) = some c := by
  obtain ⟨c, k, comp, h1, h2, h3⟩ := Cond.arrayClass_spec (args := #[Value.ref b]) (first := s) (o := none) (s := s) (idx := []) h
  exact ⟨c, fun n z => ⟨fun k h => (by cases h), k, h2, comp, h3⟩, h1⟩
theorem over_cls {b : Nat} {s : State} {C : String} (h : (Cond.arrayOver (.object C)).before #[Value.ref b] s = true) : ∃ c : ClassId, ArrOfT s c (.object C) ∧ va_RA s c (.object C) := by
  obtain ⟨comp, c, k, h1, h2, h3, h4, h5⟩ := Cond.arrayOver_spec (args := #[Value.ref b]) (first := s) (o := none) (s := s) (idx := []) h
  exact ⟨c, fun n z => ⟨fun k h => (by cases h), k, h3, comp, h4⟩, k, comp, h3, h4, h1, h5⟩
theorem start_cls {b : Nat} {s : State} (hts : lwTs b s) : ∃ cy : Nat → ClassId, ∀ (k : Nat) (q : ClassId × FieldType), (gTy (EZ b s cy))[k]? = some q → ArrOfT s q.1 q.2 ∧ va_RA s q.1 q.2 := by
  obtain ⟨c0, a0, b0⟩ := prim_cls (hts _ tbAI)
  obtain ⟨c1, a1, b1⟩ := prim_cls (hts _ tbAB)
  obtain ⟨c2, a2, b2⟩ := prim_cls (hts _ tbAJ)
  obtain ⟨c4, h4⟩ := over_cls (hts _ tbO0)
  obtain ⟨c5, h5⟩ := over_cls (hts _ tbO1)
  obtain ⟨c6, h6⟩ := over_cls (hts _ tbO2)
  refine ⟨fun k => match k with | 0 => c0 | 1 => c1 | 2 => c2 | 3 => c1 | 4 => c4 | 5 => c5 | _ => c6, fun k q hq => ?_⟩
  match k, hq with
  | 0, hq => cases hq; exact ⟨a0, b0⟩
  | 1, hq => cases hq; exact ⟨a1, b1⟩
  | 2, hq => cases hq; exact ⟨a2, b2⟩
  | 3, hq => cases hq; exact ⟨a1, b1⟩
  | 4, hq => cases hq; exact h4
  | 5, hq => cases hq; exact h5
  | 6, hq => cases hq; exact h6
  | k + 7, hq => simp [gTy] at hq
theorem start_kn {b : Nat} {s : State} (hts : lwTs b s) : ∃ D : va_G, ∀ (c : Nat) (q : vw_C), vwCl[c]? = some q → u_Kn s q.1 q.2.1 q.2.2 (D.1 c) (D.2 c) := by
  have hG : ∀ w ∈ lwG, w.before #[Value.ref b] s = true := fun w hw => hts w (lwG_tbl hw)
  obtain ⟨c0, i0, k0⟩ := u_known hG inWX1 (hts _ tbNX1)
  obtain ⟨c1, i1, k1⟩ := u_known hG inWX2 (hts _ tbNX2)
  obtain ⟨c2, i2, k2⟩ := u_known hG inWX3 (hts _ tbNX3)
  obtain ⟨c3, i3, k3⟩ := u_known hG inWX4 (hts _ tbNX4)
  obtain ⟨c4, i4, k4⟩ := u_known hG inWX5 (hts _ tbNX5)
  obtain ⟨c5, i5, k5⟩ := u_known hG inWX6 (hts _ tbNX6)
  obtain ⟨c6, i6, k6⟩ := u_known hG inWX8 (hts _ tbNX8)
  obtain ⟨c7, i7, k7⟩ := u_known hG inWX9 (hts _ tbNX9)
  obtain ⟨c8, i8, k8⟩ := u_known hG inWX10 (hts _ tbNX10)
  obtain ⟨c9, i9, k9⟩ := u_known hG inWX11 (hts _ tbNX11)
  obtain ⟨c10, i10, k10⟩ := u_known hG inWX12 (hts _ tbNX12)
  obtain ⟨c11, i11, k11⟩ := u_known hG inWJ4 (hts _ tbNJ4)
  obtain ⟨c12, i12, k12⟩ := u_known hG inWJ0 (hts _ tbNJ0)
  refine ⟨(fun k => match k with | 0 => c0 | 1 => c1 | 2 => c2 | 3 => c3 | 4 => c4 | 5 => c5 | 6 => c6 | 7 => c7 | 8 => c8 | 9 => c9 | 10 => c10 | 11 => c11 | _ => c12, fun k => match k with | 0 => i0 | 1 => i1 | 2 => i2 | 3 => i3 | 4 => i4 | 5 => i5 | 6 => i6 | 7 => i7 | 8 => i8 | 9 => i9 | 10 => i10 | 11 => i11 | _ => i12), fun k q hq => ?_⟩
  match k, hq with
  | 0, hq => cases hq; exact k0
  | 1, hq => cases hq; exact k1
  | 2, hq => cases hq; exact k2
  | 3, hq => cases hq; exact k3
  | 4, hq => cases hq; exact k4
  | 5, hq => cases hq; exact k5
  | 6, hq => cases hq; exact k6
  | 7, hq => cases hq; exact k7
  | 8, hq => cases hq; exact k8
  | 9, hq => cases hq; exact k9
  | 10, hq => cases hq; exact k10
  | 11, hq => cases hq; exact k11
  | 12, hq => cases hq; exact k12
  | k + 13, hq => simp [vwCl] at hq
