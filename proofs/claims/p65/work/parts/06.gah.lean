/-! the abstract heap: what each address holds, how many cells there are, how many slots they have; gE: fuel, most cells, most slots; the numbers of the array kinds; which addresses are only read; the addresses of constants -/
abbrev gS : Type := (Nat → va_E) × Nat × Nat
abbrev gE : Type := (Nat × Nat × Nat) × (Nat → ClassId) × (Nat → Bool) × (Nat → Nat) × (Nat → va_E)
def gN (E : gE) : Nat := E.1.1
def gK (E : gE) : Nat := E.1.2.1
def gM (E : gE) : Nat := E.1.2.2
def gcy (E : gE) : Nat → ClassId := E.2.1
def gro (E : gE) : Nat → Bool := E.2.2.1
def gst (E : gE) : Nat → Nat := E.2.2.2.1
/-- what the addresses hold that are only read -/
def gcs (E : gE) : Nat → va_E := E.2.2.2.2
def gsq (E : gE) : Option Nat := if gst E 60 = 0 then none else some (gst E 60 - 1)
/-- the kinds of arrays; of arrays that are only read the kind's number stands for their class -/
def gty : Nat → FieldType
  | 0 => .int
  | 1 => .byte
  | _ => .object "PackedTable$Kind"
def gvals (y : (Nat → Int32) ⊕ (Nat → Int64) ⊕ (Nat → UInt32) ⊕ (Nat → UInt64) ⊕ (Nat → Option Nat)) : Nat → Value := match y with
  | .inl f => fun j => .int (f j)
  | .inr (.inl f) => fun j => .long (f j)
  | .inr (.inr (.inl f)) => fun j => .float (f j)
  | .inr (.inr (.inr (.inl f))) => fun j => .double (f j)
  | .inr (.inr (.inr (.inr f))) => fun j => va_rf (f j)
/-- classes of objects that are only read: 100 String, 101 Kind; their fields -/
def gfc : Nat → String
  | 100 => "java/lang/String"
  | _ => "PackedTable$Kind"
def gff : Nat → Nat → String × String × String
  | 100, 0 => ("java/lang/String", "value", "[B")
  | 100, _ => ("java/lang/String", "coder", "B")
  | _, 0 => ("PackedTable$Kind", "word", "Ljava/lang/String;")
  | _, _ => ("java/lang/Enum", "ordinal", "I")
def gDead : va_E := .inr (999, [])
def gTy (E : gE) : List (ClassId × FieldType) := [(gcy E 0, .int), (gcy E 1, .byte), (gcy E 2, .long), (gcy E 3, .byte), (gcy E 4, .object "PackedTable$Column"), (gcy E 5, .object "PackedTable$Store"), (gcy E 6, .object "PackedTable$Command")]
def gsum (H : Heap) : Nat := (H.toList.map (fun c => c.slots.size)).sum
theorem gsum_same {H H1 : Heap} (z : H1.size = H.size) (h : ∀ (q : Nat) (c : Cell), H[q]? = some c → ∃ c1 : Cell, H1[q]? = some c1 ∧ c1.slots.size = c.slots.size) : gsum H1 = gsum H := by
  unfold gsum
  congr 1
  apply List.ext_getElem?
  intro q
  rw [List.getElem?_map, List.getElem?_map, Array.getElem?_toList, Array.getElem?_toList]
  cases hq : H[q]? with
  | some c =>
    obtain ⟨c1, h1, h2⟩ := h q c hq
    rw [h1]
    simp [h2]
  | none =>
    have h3 : H1[q]? = none := by
      rw [Array.getElem?_eq_none_iff] at hq ⊢
      omega
    rw [h3]
theorem gsum_push {H H1 : Heap} {c : Cell} (z : H1.size = H.size + 1) (h : ∀ q, q < H.size → H1[q]? = H[q]?) (hc : H1[H.size]? = some c) : gsum H1 = gsum H + c.slots.size := by
  unfold gsum
  have h1 : H1.toList = H.toList ++ [c] := by
    apply List.ext_getElem?
    intro q
    rw [Array.getElem?_toList]
    by_cases hq : q < H.size
    · rw [List.getElem?_append_left (by simpa using hq), h q hq, Array.getElem?_toList]
    · by_cases hq2 : q = H.size
      · subst hq2
        rw [hc, List.getElem?_append_right (by simp)]
        simp
      · rw [Array.getElem?_eq_none_iff.mpr (by omega), List.getElem?_append_right (by simp; omega)]
        symm
        apply List.getElem?_eq_none
        simp
        omega
  rw [h1]
  simp
theorem gsum_take {H H0 : Heap} (z : H0.size ≤ H.size) (h : ∀ (q : Nat) (c : Cell), H0[q]? = some c → ∃ c1 : Cell, H[q]? = some c1 ∧ c1.slots.size = c.slots.size) : gsum H = gsum H0 + ((H.toList.drop H0.size).map (fun c => c.slots.size)).sum := by
  have h1 : (H.toList.take H0.size).map (fun c => c.slots.size) = H0.toList.map (fun c => c.slots.size) := by
    apply List.ext_getElem?
    intro q
    rw [List.getElem?_map, List.getElem?_map]
    have e0 : H0.toList[q]? = H0[q]? := Array.getElem?_toList
    have e1 : H.toList[q]? = H[q]? := Array.getElem?_toList
    rw [e0]
    by_cases hq : q < H0.size
    · rw [List.getElem?_take_of_lt hq, e1]
      obtain ⟨c, hc⟩ : ∃ c, H0[q]? = some c := ⟨_, Array.getElem?_eq_getElem hq⟩
      obtain ⟨c1, g1, g2⟩ := h q c hc
      rw [hc, g1]
      simp [g2]
    · rw [List.getElem?_eq_none (by rw [List.length_take]; omega), Array.getElem?_eq_none_iff.mpr (by omega)]
  unfold gsum
  conv => lhs; rw [← List.take_append_drop H0.size H.toList]
  rw [List.map_append, List.sum_append, h1]
def gB (E : gE) (D : va_G) (A : Nat → Prop) (σ : gS) (H : Heap) : Prop :=
  H.size = σ.2.1 ∧ gsum H = σ.2.2 ∧ σ.2.1 ≤ gK E ∧ σ.2.2 ≤ gM E ∧ ∀ a : Nat, σ.1 a ≠ gDead → va_at D vwCl (a, σ.1 a) H ∧ A a
def gW (E : gE) (D : va_G) (A : Nat → Prop) (s : State) (σ : gS) (H : Heap) (locs : List Loc) : Prop := gB E D A σ H ∧ va_S A s.heap H locs ∧ gsum s.heap ≤ σ.2.2
/-- an address that is only read -/
def gWk (E : gE) (a : Nat) (A : Nat → Prop) (U : State) (H : Heap) : Prop := match gcs E a with
  | .inl (t, n, y) => va_T (gty t) a n (gvals y) A U H
  | .inr (ci, fs) => va_O (gfc ci) a A U H ∧ ∀ (k : Nat) (v : Value), fs[k]? = some v → va_OF (gff ci k).1 (gff ci k).2.1 (gff ci k).2.2 v a A U H
theorem gWk.moved {E : gE} {a : Nat} {A : Nat → Prop} {u U : State} {H : Heap} (hvm : u.vm.Alike U.vm) (h : gWk E a A u H) : gWk E a A U H := by
  unfold gWk at h ⊢
  split at h
  · exact va_T.moved hvm h
  · exact ⟨va_O.moved hvm h.1, fun k v hk => va_OF.moved hvm (h.2 k v hk)⟩
theorem gWk.kept {E : gE} {a : Nat} {A : Nat → Prop} {U : State} {H H1 : Heap} (h : gWk E a A U H) (hq : ∀ a : Nat, a < H.size → ¬ A a → H1[a]? = H[a]?) : gWk E a A U H1 := by
  unfold gWk at h ⊢
  split at h
  · exact va_T.kept h hq
  · exact ⟨h.1.kept hq, fun k v hk => (h.2 k v hk).kept hq⟩
def gAO : List String := ["PackedTable$Column", "PackedTable$Store", "PackedTable$Command"]
/-- String constants: the class, the place, the text, the constant's number -/
def gStr : List (String × Nat × String × Nat) := [("PackedTable$Parser", 81, "table", 0), ("PackedTableLaw", 155, " ", 1), ("PackedTableLaw", 157, "", 2), ("PackedTableLaw", 215, "table ", 3), ("PackedTable", 349, "no such length", 70), ("PackedTable", 352, "no such column", 71), ("PackedTable", 357, "no such row", 72), ("PackedTable", 359, "no such code", 73), ("PackedTable", 168, "no such word", 74), ("PackedTable", 364, "no such condition", 75), ("PackedTable", 368, "no row is selected", 76), ("PackedTable", 366, "value out of range", 77), ("PackedTable", 268, "60 rows", 78), ("PackedTable", 388, "8 conditions", 79), ("PackedTable", 337, "nothing to undo", 81), ("PackedTable", 345, "no snapshot", 82)]
/-- static fields: the class, the name, the type, what they hold -/
def gSta : List (String × String × String × (gE → Value)) := [("PackedTable", "FIRST_CELLS", "[I", fun E => .ref (gst E 40)), ("PackedTable$Kind", "ROW", "LPackedTable$Kind;", fun E => .ref (gst E 30)), ("java/lang/String", "COMPACT_STRINGS", "Z", fun _ => .int 1), ("jdk/internal/util/Preconditions", "SIOOBE_FORMATTER", "Ljava/util/function/BiFunction;", fun E => va_rf (gsq E)), ("java/lang/Integer", "DigitOnes", "[B", fun E => .ref (gst E 43)), ("java/lang/Integer", "DigitTens", "[B", fun E => .ref (gst E 44))]
/-- classes that aren't each other's -/
def gNc : List (String × String) := []
def lwC : List Cond := [.castable "[B" "java/lang/Cloneable", .castable "java/lang/IndexOutOfBoundsException" "java/lang/IndexOutOfBoundsException", .castable "java/lang/IllegalArgumentException" "java/lang/IllegalArgumentException", .castable "java/lang/IllegalStateException" "java/lang/IllegalStateException", .declares ⟨"java/lang/RuntimeException", "<init>", "(Ljava/lang/String;)V"⟩, .declares ⟨"java/lang/Exception", "<init>", "(Ljava/lang/String;)V"⟩, .declares ⟨"java/lang/Throwable", "<init>", "(Ljava/lang/String;)V"⟩]
theorem lwC_warm {s U : State} (hW : s.WarmedH U.vm) : ∀ w ∈ lwC, va_Nw w s → va_Nw w U := by
  intro w hw h
  simp only [lwC, List.mem_cons, List.not_mem_nil, or_false] at hw
  rcases hw with rfl | rfl | rfl | rfl | rfl | rfl | rfl <;> first | exact va_Nw.warmC hW h | exact va_Nw.warmD hW h
theorem lwC_same {s U : State} (hW : s.vm = U.vm) : ∀ w ∈ lwC, va_Nw w s → va_Nw w U := by
  intro w hw h
  simp only [lwC, List.mem_cons, List.not_mem_nil, or_false] at hw
  rcases hw with rfl | rfl | rfl | rfl | rfl | rfl | rfl <;> exact va_Nw.same rfl hW h
theorem lwC_ot : ∀ w ∈ lwC, w.onTables = true := by
  intro w hw
  simp only [lwC, List.mem_cons, List.not_mem_nil, or_false] at hw
  rcases hw with rfl | rfl | rfl | rfl | rfl | rfl | rfl <;> rfl
/-- what is said of nests, statics and texts -/
def gX (E : gE) (A : Nat → Prop) (U : State) (H : Heap) : Prop :=
  (∀ w ∈ lwN, va_Nw w U) ∧ (∀ C ∈ gAO, va_AO C U) ∧ (∀ q ∈ gStr, vk_R q.1 q.2.1 q.2.2.1 (gst E q.2.2.2) U) ∧ (∀ q ∈ gSta, va_Z q.1 q.2.1 q.2.2.1 (q.2.2.2 E) A U H) ∧ (∀ a, gro E a = true → gWk E a A U H) ∧
  vx_Zq Bundle.tN "UNASSIGNED_STACK" Bundle.steD A U H ∧ vx_Zq Bundle.tN "SUPPRESSED_SENTINEL" Bundle.listD A U H ∧ (∀ q ∈ gNc, va_Nc q.1 q.2 U) ∧ ∀ w ∈ lwC, va_Nw w U
theorem gX.warm {E : gE} {A : Nat → Prop} {u U : State} {H H1 : Heap} (hW : u.WarmedH U.vm) (hq : ∀ q, q < H.size → ¬ A q → H1[q]? = H[q]?) (h : gX E A u H) : gX E A U H1 := by
  obtain ⟨h1, h2, h3, h4, h5, h6, h7, h8, h9⟩ := h
  exact ⟨fun w hw => lwN_warm hW w hw (h1 w hw), fun C hC => va_AO.moved hW.alike (h2 C hC), fun q hq => vk_R.warm hW (h3 q hq), fun q hz => (va_Z.moved hW.alike (h4 q hz)).kept hq, fun a ha => (gWk.moved hW.alike (h5 a ha)).kept hq, (vx_Zq.moved hW.alike h6).kept hq, (vx_Zq.moved hW.alike h7).kept hq, fun q hq => va_Nc.moved hW.alike (h8 q hq), fun w hw => lwC_warm hW w hw (h9 w hw)⟩
theorem gX.same {E : gE} {A : Nat → Prop} {u U : State} {H : Heap} (hW : u.vm = U.vm) (h : gX E A u H) : gX E A U H := by
  have hv : u.vm.Alike U.vm := by rw [hW]; exact Vm.Alike.refl _
  obtain ⟨h1, h2, h3, h4, h5, h6, h7, h8, h9⟩ := h
  exact ⟨fun w hw => lwN_same hW w hw (h1 w hw), fun C hC => va_AO.moved hv (h2 C hC), fun q hq => vk_R.same hW.symm (h3 q hq), fun q hz => va_Z.moved hv (h4 q hz), fun a ha => gWk.moved hv (h5 a ha), vx_Zq.moved hv h6, vx_Zq.moved hv h7, fun q hq => va_Nc.moved hv (h8 q hq), fun w hw => lwC_same hW w hw (h9 w hw)⟩
def gP (E : gE) (D : va_G) (A : Nat → Prop) (σ : gS) (U : State) : Prop := gB E D A σ U.heap ∧ va_K D vwCl (gTy E) U ∧ (∀ q, U.heap.size ≤ q → A q) ∧ gX E A U U.heap
def gC (E : gE) (D : va_G) (A : Nat → Prop) (p : Program) (R : Room) (s : State) (m : MethodId) (args : Array Value) (meth : Method) (c : Code) (cc : ByteArray) (nL : Nat) (own nm : String) (F L : Nat) : Prop :=
  p.tables.exec = Jvm.exec ∧ c.code = cc ∧ c.maxLocals = nL ∧ s.vm.findClass own = some m.cls ∧ (∀ w ∈ lwG, w.before args s = true) ∧ va_K D vwCl (gTy E) s ∧ (∀ q, s.heap.size ≤ q → A q) ∧ gX E A s s.heap ∧ meth.name = nm ∧ F ≤ R.frames ∧ L ≤ R.locals ∧ gK E ≤ R.cells + s.heap.size ∧ gM E ≤ R.slots + gsum s.heap
def gR (E : gE) (F L : Nat) (σ : gS) : Room := { frames := F, cells := gK E - σ.2.1, slots := gM E - σ.2.2, locals := L }
/-! reading the abstract heap -/
def gfI (σ : gS) (a ci k : Nat) : Option Int32 := match σ.1 a with
  | .inr (c, fs) => if c = ci then (match fs[k]? with | some (.int x) => some x | _ => none) else none
  | _ => none
def gfR (σ : gS) (a ci k : Nat) : Option Nat := match σ.1 a with
  | .inr (c, fs) => if c = ci then (match fs[k]? with | some (.ref x) => some x | _ => none) else none
  | _ => none
def gcl (σ : gS) (a ci : Nat) : Option Unit := match σ.1 a with
  | .inr (c, _) => if c = ci then some () else none
  | _ => none
def gpf (_ : gE) (σ : gS) (a ci k : Nat) (v : Value) : Option gS := match σ.1 a with
  | .inr (c, fs) => if c = ci ∧ k < fs.length then some (va_up σ.1 a (.inr (c, fs.set k v)), σ.2) else none
  | _ => none
def gat (E : gE) (σ : gS) (a : Nat) : va_E := if gro E a = true then gcs E a else σ.1 a
def gac (E : gE) (t a : Nat) : ClassId := if gro E a = true then t else gcy E t
def graI (E : gE) (t : Nat) (σ : gS) (a : Nat) (i : Int32) : Option Int32 := match gat E σ a with
  | .inl (c, n, .inl g) => if c = gac E t a ∧ ¬ (i < 0 ∨ n ≤ i.toNatClampNeg) then some (g i.toNatClampNeg) else none
  | _ => none
def graJ (E : gE) (σ : gS) (a : Nat) (i : Int32) : Option Int64 := match σ.1 a with
  | .inl (c, n, .inr (.inl g)) => if c = gcy E 2 ∧ ¬ (i < 0 ∨ n ≤ i.toNatClampNeg) then some (g i.toNatClampNeg) else none
  | _ => none
def graR (E : gE) (t : Nat) (σ : gS) (a : Nat) (i : Int32) : Option Nat := match gat E σ a with
  | .inl (c, n, .inr (.inr (.inr (.inr g)))) => if c = gac E t a ∧ ¬ (i < 0 ∨ n ≤ i.toNatClampNeg) then g i.toNatClampNeg else none
  | _ => none
def gal (E : gE) (t : Nat) (σ : gS) (a : Nat) : Option Int32 := match gat E σ a with
  | .inl (c, n, _) => if c = gac E t a then some (Int32.ofNat n) else none
  | _ => none
def gwaI (E : gE) (σ : gS) (a : Nat) (i x : Int32) : Option gS := match σ.1 a with
  | .inl (c, n, .inl g) => if c = gcy E 0 ∧ ¬ (i < 0 ∨ n ≤ i.toNatClampNeg) then some (va_up σ.1 a (.inl (c, n, .inl (upd g i.toNatClampNeg x))), σ.2) else none
  | _ => none
def gnew (E : gE) (σ : gS) (ci : Nat) (fs : List Value) : Option (Nat × gS) :=
  if σ.2.1 + 1 ≤ gK E ∧ σ.2.2 + fs.length ≤ gM E then some (σ.2.1, (va_up σ.1 σ.2.1 (.inr (ci, fs)), σ.2.1 + 1, σ.2.2 + fs.length)) else none
/-- .. of an array that is only read -/
def graK (E : gE) (a : Nat) (i : Int32) : Option Nat := if gro E a = true then (match gcs E a with
  | .inl (c, n, .inr (.inr (.inr (.inr g)))) => if c = 8 ∧ ¬ (i < 0 ∨ n ≤ i.toNatClampNeg) then g i.toNatClampNeg else none
  | _ => none) else none
def galK (E : gE) (a : Nat) : Option Int32 := if gro E a = true then (match gcs E a with
  | .inl (c, n, _) => if c = 8 then some (Int32.ofNat n) else none
  | _ => none) else none
/-- a field of an object that is only read -/
def gxI (E : gE) (a ci k : Nat) : Option Int32 := if gro E a = true then (match gcs E a with
  | .inr (c, fs) => if c = ci then (match fs[k]? with | some (.int x) => some x | _ => none) else none
  | _ => none) else none
def gxR (E : gE) (a ci k : Nat) : Option Nat := if gro E a = true then (match gcs E a with
  | .inr (c, fs) => if c = ci then (match fs[k]? with | some (.ref x) => some x | _ => none) else none
  | _ => none) else none
def gxc (E : gE) (a ci : Nat) : Option Unit := if gro E a = true then (match gcs E a with
  | .inr (c, _) => if c = ci then some () else none
  | _ => none) else none
def ob {α β : Type} (o : Option α) (k : α → Option β) : Option β := match o with
  | some x => k x
  | none => none
theorem ob_some {α β : Type} {o : Option α} {k : α → Option β} {r : β} (h : ob o k = some r) : ∃ x, o = some x ∧ k x = some r := by
  cases o with
  | none => exact absurd h (by simp [ob])
  | some x => exact ⟨x, rfl, h⟩
theorem gfI_some {σ : gS} {a ci k : Nat} {x : Int32} (h : gfI σ a ci k = some x) : ∃ fs : List Value, σ.1 a = .inr (ci, fs) ∧ fs[k]? = some (.int x) := by
  unfold gfI at h
  split at h
  · rename_i c fs hc
    split at h
    · rename_i he
      subst he
      split at h
      · rename_i y hy
        cases h
        exact ⟨fs, hc, hy⟩
      · cases h
    · cases h
  · cases h
theorem gfR_some {σ : gS} {a ci k : Nat} {x : Nat} (h : gfR σ a ci k = some x) : ∃ fs : List Value, σ.1 a = .inr (ci, fs) ∧ fs[k]? = some (.ref x) := by
  unfold gfR at h
  split at h
  · rename_i c fs hc
    split at h
    · rename_i he
      subst he
      split at h
      · rename_i y hy
        cases h
        exact ⟨fs, hc, hy⟩
      · cases h
    · cases h
  · cases h
theorem graK_some {E : gE} {a : Nat} {i : Int32} {x : Nat} (h : graK E a i = some x) : gro E a = true ∧ ∃ (n : Nat) (g : Nat → Option Nat), gcs E a = .inl (8, n, .inr (.inr (.inr (.inr g)))) ∧ vp_in i n ∧ g i.toNatClampNeg = some x := by
  unfold graK at h
  split at h
  · rename_i hro
    refine ⟨hro, ?_⟩
    split at h
    · rename_i c n g hc
      split at h
      · rename_i he
        obtain ⟨rfl, h1⟩ := he
        exact ⟨n, g, hc, h1, h⟩
      · cases h
    · cases h
  · cases h
theorem galK_some {E : gE} {a : Nat} {x : Int32} (h : galK E a = some x) : gro E a = true ∧ ∃ y : vp_A, gcs E a = .inl (8, y) ∧ Int32.ofNat y.1 = x := by
  unfold galK at h
  split at h
  · rename_i hro
    refine ⟨hro, ?_⟩
    split at h
    · rename_i c n y hc
      split at h
      · rename_i he
        subst he
        cases h
        exact ⟨_, hc, rfl⟩
      · cases h
    · cases h
  · cases h
theorem gxI_some {E : gE} {a ci k : Nat} {x : Int32} (h : gxI E a ci k = some x) : gro E a = true ∧ ∃ fs : List Value, gcs E a = .inr (ci, fs) ∧ fs[k]? = some (.int x) := by
  unfold gxI at h
  split at h
  · rename_i hro
    refine ⟨hro, ?_⟩
    split at h
    · rename_i c fs hc
      split at h
      · rename_i he
        subst he
        split at h
        · rename_i y hy
          cases h
          exact ⟨fs, hc, hy⟩
        · cases h
      · cases h
    · cases h
  · cases h
theorem gxR_some {E : gE} {a ci k : Nat} {x : Nat} (h : gxR E a ci k = some x) : gro E a = true ∧ ∃ fs : List Value, gcs E a = .inr (ci, fs) ∧ fs[k]? = some (.ref x) := by
  unfold gxR at h
  split at h
  · rename_i hro
    refine ⟨hro, ?_⟩
    split at h
    · rename_i c fs hc
      split at h
      · rename_i he
        subst he
        split at h
        · rename_i y hy
          cases h
          exact ⟨fs, hc, hy⟩
        · cases h
      · cases h
    · cases h
  · cases h
theorem gxc_some {E : gE} {a ci : Nat} {u : Unit} (h : gxc E a ci = some u) : gro E a = true ∧ ∃ fs : List Value, gcs E a = .inr (ci, fs) := by
  unfold gxc at h
  split at h
  · rename_i hro
    refine ⟨hro, ?_⟩
    split at h
    · rename_i c fs hc
      split at h
      · rename_i he
        subst he
        exact ⟨fs, hc⟩
      · cases h
    · cases h
  · cases h
theorem gcl_some {σ : gS} {a ci : Nat} {u : Unit} (h : gcl σ a ci = some u) : ∃ fs : List Value, σ.1 a = .inr (ci, fs) := by
  unfold gcl at h
  split at h
  · rename_i c fs hc
    split at h
    · rename_i he
      subst he
      exact ⟨fs, hc⟩
    · cases h
  · cases h
theorem gpf_some {E : gE} {σ σ' : gS} {a ci k : Nat} {v : Value} (h : gpf E σ a ci k v = some σ') : ∃ fs : List Value, σ.1 a = .inr (ci, fs) ∧ k < fs.length ∧ σ' = (va_up σ.1 a (.inr (ci, fs.set k v)), σ.2) := by
  unfold gpf at h
  split at h
  · rename_i c fs hc
    split at h
    · rename_i he
      obtain ⟨rfl, h1⟩ := he
      cases h
      exact ⟨fs, hc, h1, rfl⟩
    · cases h
  · cases h
theorem graI_some {E : gE} {t : Nat} {σ : gS} {a : Nat} {i x : Int32} (h : graI E t σ a i = some x) : ∃ (n : Nat) (g : Nat → Int32), gat E σ a = .inl (gac E t a, n, .inl g) ∧ vp_in i n ∧ x = g i.toNatClampNeg := by
  unfold graI at h
  split at h
  · rename_i c n g hc
    split at h
    · rename_i he
      obtain ⟨rfl, h1⟩ := he
      cases h
      exact ⟨n, g, hc, h1, rfl⟩
    · cases h
  · cases h
theorem graJ_some {E : gE} {σ : gS} {a : Nat} {i : Int32} {x : Int64} (h : graJ E σ a i = some x) : ∃ (n : Nat) (g : Nat → Int64), σ.1 a = .inl (gcy E 2, n, .inr (.inl g)) ∧ vp_in i n ∧ x = g i.toNatClampNeg := by
  unfold graJ at h
  split at h
  · rename_i c n g hc
    split at h
    · rename_i he
      obtain ⟨rfl, h1⟩ := he
      cases h
      exact ⟨n, g, hc, h1, rfl⟩
    · cases h
  · cases h
theorem graR_some {E : gE} {t : Nat} {σ : gS} {a : Nat} {i : Int32} {x : Nat} (h : graR E t σ a i = some x) : ∃ (n : Nat) (g : Nat → Option Nat), gat E σ a = .inl (gac E t a, n, .inr (.inr (.inr (.inr g)))) ∧ vp_in i n ∧ g i.toNatClampNeg = some x := by
  unfold graR at h
  split at h
  · rename_i c n g hc
    split at h
    · rename_i he
      obtain ⟨rfl, h1⟩ := he
      exact ⟨n, g, hc, h1, h⟩
    · cases h
  · cases h
theorem gal_some {E : gE} {t : Nat} {σ : gS} {a : Nat} {x : Int32} (h : gal E t σ a = some x) : ∃ y : vp_A, gat E σ a = .inl (gac E t a, y) ∧ Int32.ofNat y.1 = x := by
  unfold gal at h
  split at h
  · rename_i c n y hc
    split at h
    · rename_i he
      subst he
      cases h
      exact ⟨_, hc, rfl⟩
    · cases h
  · cases h
theorem gwaI_some {E : gE} {σ σ' : gS} {a : Nat} {i x : Int32} (h : gwaI E σ a i x = some σ') : ∃ (n : Nat) (g : Nat → Int32), σ.1 a = .inl (gcy E 0, n, .inl g) ∧ vp_in i n ∧ σ' = (va_up σ.1 a (.inl (gcy E 0, n, .inl (upd g i.toNatClampNeg x))), σ.2) := by
  unfold gwaI at h
  split at h
  · rename_i c n g hc
    split at h
    · rename_i he
      obtain ⟨rfl, h1⟩ := he
      cases h
      exact ⟨n, g, hc, h1, rfl⟩
    · cases h
  · cases h
theorem gnew_some {E : gE} {σ : gS} {ci : Nat} {fs : List Value} {r : Nat × gS} (h : gnew E σ ci fs = some r) : σ.2.1 + 1 ≤ gK E ∧ σ.2.2 + fs.length ≤ gM E ∧ r = (σ.2.1, (va_up σ.1 σ.2.1 (.inr (ci, fs)), σ.2.1 + 1, σ.2.2 + fs.length)) := by
  unfold gnew at h
  split at h
  · rename_i he
    cases h
    exact ⟨he.1, he.2, rfl⟩
  · cases h
/-! the world and one cell of it -/
theorem gB.one {E : gE} {D : va_G} {A : Nat → Prop} {σ : gS} {H : Heap} (h : gB E D A σ H) {a : Nat} {e : va_E} (ha : σ.1 a = e) (hd : e ≠ gDead) : va_P D vwCl [(a, e)] H := by
  intro k q hk
  have hz : k < 1 := (List.getElem?_eq_some_iff.mp hk).1
  rw [show k = 0 by omega] at hk
  cases hk
  have := (h.2.2.2.2 a (by rw [ha]; exact hd)).1
  rw [ha] at this
  exact this
theorem gDead_inl {a : ClassId × vp_A} : (Sum.inl a : va_E) ≠ gDead := fun h => by cases h
theorem gDead_inr {ci : Nat} {fs : List Value} {r : vw_C} (hc : vwCl[ci]? = some r) : (Sum.inr (ci, fs) : va_E) ≠ gDead := fun h => by
  have h1 : (ci, fs) = (999, []) := Sum.inr.inj h
  have h2 : ci = 999 := congrArg Prod.fst h1
  subst h2
  cases hc
/-- a store into a live cell that isn't only read -/
theorem gB.store {E : gE} {D : va_G} {A : Nat → Prop} {σ : gS} {H H1 : Heap} (h : gB E D A σ H) {a : Nat} {e e1 : va_E} (ha : σ.1 a = e) (hd : e ≠ gDead) (hat : va_at D vwCl (a, e1) H1) (z : H1.size = H.size) (oq : ∀ q : Nat, q ≠ a → H1[q]? = H[q]?) (hsz : ∀ c, H[a]? = some c → ∃ c1 : Cell, H1[a]? = some c1 ∧ c1.slots.size = c.slots.size) : gB E D A (va_up σ.1 a e1, σ.2) H1 := by
  obtain ⟨h1, h2, h3, h4, h5⟩ := h
  refine ⟨by rw [z]; exact h1, ?_, h3, h4, fun b hb => ?_⟩
  · rw [gsum_same z (fun q c hq => ?_)]
    · exact h2
    · by_cases hqa : q = a
      · subst hqa; exact hsz c hq
      · exact ⟨c, by rw [oq q hqa]; exact hq, rfl⟩
  · by_cases hba : b = a
    · subst hba
      have hs : (va_up σ.1 b e1) b = e1 := by simp [va_up]
      refine ⟨?_, ?_⟩
      · show va_at D vwCl (b, (va_up σ.1 b e1) b) H1
        rw [hs]; exact hat
      · exact (h5 b (by rw [ha]; exact hd)).2
    · have hs : (va_up σ.1 a e1) b = σ.1 b := by simp [va_up, hba]
      have hb' : σ.1 b ≠ gDead := by rw [← hs]; exact hb
      obtain ⟨g1, g2⟩ := h5 b hb'
      refine ⟨?_, g2⟩
      show va_at D vwCl (b, (va_up σ.1 a e1) b) H1
      rw [hs]
      exact g1.kept (oq b hba)
theorem gB.push {E : gE} {D : va_G} {A : Nat → Prop} {σ : gS} {H H1 : Heap} (h : gB E D A σ H) {e1 : va_E} {n : Nat} (hA : A σ.2.1) (hK : σ.2.1 + 1 ≤ gK E) (hM : σ.2.2 + n ≤ gM E) (hat : va_at D vwCl (σ.2.1, e1) H1) (z : H1.size = H.size + 1) (oq : ∀ q : Nat, q < H.size → H1[q]? = H[q]?) (hn : gsum H1 = gsum H + n) : gB E D A (va_up σ.1 σ.2.1 e1, σ.2.1 + 1, σ.2.2 + n) H1 := by
  obtain ⟨h1, h2, h3, h4, h5⟩ := h
  refine ⟨by rw [z, h1], by rw [hn, h2], hK, hM, fun b hb => ?_⟩
  by_cases hba : b = σ.2.1
  · have hs : (va_up σ.1 σ.2.1 e1) b = e1 := by simp [va_up, hba]
    refine ⟨?_, ?_⟩
    · show va_at D vwCl (b, (va_up σ.1 σ.2.1 e1) b) H1
      rw [hs, hba]; exact hat
    · rw [hba]; exact hA
  · have hs : (va_up σ.1 σ.2.1 e1) b = σ.1 b := by simp [va_up, hba]
    have hb' : σ.1 b ≠ gDead := by rw [← hs]; exact hb
    obtain ⟨g1, g2⟩ := h5 b hb'
    refine ⟨?_, g2⟩
    show va_at D vwCl (b, (va_up σ.1 σ.2.1 e1) b) H1
    rw [hs]
    exact g1.kept (oq b g1.lt)
