/-! contracts over the abstract heap: a method's own room is what is left; behind it the abstract heap is the pure program's -/
theorem gg_ok {w : Cond} (h : w ∈ lwG) : w ∈ lwG ∧ ((w.onTables && w.keeps) = true ∨ ∃ ty, w = .arrayClass ty) := ⟨h, good_of_word (lwG_good h)⟩
theorem gi_V {own C : String} {idx n : Nat} {y : MethodName} {b : ByteArray} {ret : Option FieldType} (h1 : Cond.methodLink own idx y ∈ lwG) (h2 : Cond.instanceMethod y ∈ lwG) (h3 : Cond.selects C y y ∈ lwG) (h4 : Cond.initialized C ∈ lwG) (h5 : Cond.code y b n ret ∈ lwG) : GoodIn lwG (wsV own idx C y (Cond.code y b n ret :: lwG)) := by
  intro w hw
  unfold wsV at hw
  rcases List.mem_append.mp hw with hw | hw
  · simp only [List.mem_cons, List.not_mem_nil, or_false] at hw
    rcases hw with rfl | rfl | rfl | rfl
    · exact gg_ok h1
    · exact gg_ok h2
    · exact gg_ok h3
    · exact gg_ok h4
  · rcases List.mem_cons.mp hw with rfl | hw
    · exact gg_ok h5
    · exact gg_ok hw
theorem gi_S {own : String} {idx n : Nat} {y : MethodName} {b : ByteArray} {ret : Option FieldType} (h1 : Cond.methodLink own idx y ∈ lwG) (h2 : Cond.static y ∈ lwG) (h4 : Cond.initialized y.cls ∈ lwG) (h5 : Cond.code y b n ret ∈ lwG) : GoodIn lwG (va_wsS own idx y (Cond.code y b n ret :: lwG)) := by
  intro w hw
  unfold va_wsS at hw
  rcases List.mem_append.mp hw with hw | hw
  · simp only [List.mem_cons, List.not_mem_nil, or_false] at hw
    rcases hw with rfl | rfl | rfl
    · exact gg_ok h1
    · exact gg_ok h2
    · exact gg_ok h4
  · rcases List.mem_cons.mp hw with rfl | hw
    · exact gg_ok h5
    · exact gg_ok hw
theorem gi_I {n : Nat} {y : MethodName} {b : ByteArray} {ret : Option FieldType} (h5 : Cond.code y b n ret ∈ lwG) : GoodIn lwG (Cond.code y b n ret :: lwG) := by
  intro w hw
  rcases List.mem_cons.mp hw with rfl | hw
  · exact gg_ok h5
  · exact gg_ok hw
theorem gP.call {E : gE} {D : va_G} {A : Nat → Prop} {σ : gS} {U : State} {g : JFrame} {mk : MethodId} {a : Array Value} (h : gP E D A σ U) : gP E D A σ (U.calling g mk a) :=
  ⟨h.1, va_K.moved (u := U) (U := U.calling g mk a) (Vm.Alike.refl U.vm) h.2.1, h.2.2.1, gX.same (u := U) (U := U.calling g mk a) rfl h.2.2.2⟩
section GC
variable {p : Program} {l : Launch} {e : Env} {R : Room} {s : State} {m : MethodId} {args : Array Value} {below : List Frame} {meth : Method} {c : Code} {H : Heap} {locs : List Loc} {cells slots : Nat} {Q : State → Prop}
  {E : gE} {D : va_G} {A : Nat → Prop} {cc : ByteArray} {nL F L : Nat} {own nm : String} {pc : Nat} {ls : Array Slot} {rest : List Value} {σ σ' : gS}
theorem gP_of {U : State} (hC : gC E D A p R s m args meth c cc nL own nm F L) (hw : gW E D A s σ H locs) (hU : U.heap = H) (hW : s.WarmedH U.vm) : gP E D A σ U := by
  obtain ⟨hx, hb, hml, hown, hts, hK, hA, hX, -⟩ := hC
  refine ⟨by rw [hU]; exact hw.1, va_K.moved hW.alike hK, fun q h => hA q (Nat.le_trans hw.2.1.1 (by rw [← hU]; exact h)), ?_⟩
  rw [hU]
  exact gX.warm hW hw.2.1.2.1 hX
abbrev gCI (l : Launch) (E : gE) (D : va_G) (A : Nat → Prop) (y : MethodName) (b : ByteArray) (nL F L : Nat) (rt : Option FieldType) (av : List Value) (σ : gS) (res : Int32 × gS) : Prop :=
  Met l y (Cond.code y b nL rt :: lwG) (gR E F L σ) (va_Pc av (gP E D A σ)) (va_Qi (fun (r : Int32) (u : gS) => r = res.1 ∧ u = res.2 ∧ σ.2.2 ≤ u.2.2) (fun u t => gB E D A u t.heap) A) (gK E - σ.2.1) (gM E - σ.2.2) A
abbrev gCJ (l : Launch) (E : gE) (D : va_G) (A : Nat → Prop) (y : MethodName) (b : ByteArray) (nL F L : Nat) (rt : Option FieldType) (av : List Value) (σ : gS) (res : Int64 × gS) : Prop :=
  Met l y (Cond.code y b nL rt :: lwG) (gR E F L σ) (va_Pc av (gP E D A σ)) (va_Ql (fun (r : Int64) (u : gS) => r = res.1 ∧ u = res.2 ∧ σ.2.2 ≤ u.2.2) (fun u t => gB E D A u t.heap) A) (gK E - σ.2.1) (gM E - σ.2.2) A
abbrev gCF (l : Launch) (E : gE) (D : va_G) (A : Nat → Prop) (y : MethodName) (b : ByteArray) (nL F L : Nat) (rt : Option FieldType) (av : List Value) (σ : gS) (res : UInt32 × gS) : Prop :=
  Met l y (Cond.code y b nL rt :: lwG) (gR E F L σ) (va_Pc av (gP E D A σ)) (va_Qf (fun (r : UInt32) (u : gS) => r = res.1 ∧ u = res.2 ∧ σ.2.2 ≤ u.2.2) (fun u t => gB E D A u t.heap) A) (gK E - σ.2.1) (gM E - σ.2.2) A
abbrev gCD (l : Launch) (E : gE) (D : va_G) (A : Nat → Prop) (y : MethodName) (b : ByteArray) (nL F L : Nat) (rt : Option FieldType) (av : List Value) (σ : gS) (res : UInt64 × gS) : Prop :=
  Met l y (Cond.code y b nL rt :: lwG) (gR E F L σ) (va_Pc av (gP E D A σ)) (va_Qd (fun (r : UInt64) (u : gS) => r = res.1 ∧ u = res.2 ∧ σ.2.2 ≤ u.2.2) (fun u t => gB E D A u t.heap) A) (gK E - σ.2.1) (gM E - σ.2.2) A
abbrev gCV (l : Launch) (E : gE) (D : va_G) (A : Nat → Prop) (y : MethodName) (b : ByteArray) (nL F L : Nat) (rt : Option FieldType) (av : List Value) (σ σ' : gS) : Prop :=
  Met l y (Cond.code y b nL rt :: lwG) (gR E F L σ) (va_Pc av (gP E D A σ)) (va_Qv (fun u : gS => u = σ' ∧ σ.2.2 ≤ u.2.2) (fun u t => gB E D A u t.heap) A) (gK E - σ.2.1) (gM E - σ.2.2) A
abbrev gCR (l : Launch) (E : gE) (D : va_G) (A : Nat → Prop) (y : MethodName) (b : ByteArray) (nL F L : Nat) (rt : Option FieldType) (av : List Value) (σ : gS) (res : Nat × gS) : Prop :=
  Met l y (Cond.code y b nL rt :: lwG) (gR E F L σ) (va_Pc av (gP E D A σ)) (va_Qr (fun u : gS => u = res.2 ∧ σ.2.2 ≤ u.2.2) (fun u a t => a = res.1 ∧ gB E D A u t.heap) A) (gK E - σ.2.1) (gM E - σ.2.2) A
theorem gg_entI {l : Launch} {E : gE} {D : va_G} {A : Nat → Prop} {y : MethodName} {b : ByteArray} {nL F L : Nat} {rt : Option FieldType} {av : List Value} {σ : gS} {res : Int32 × gS} {own nm : String} (hy : plainName y.cls = true) (ho : y.cls = own) (hn : y.name = nm) (hav : (lg_sl av).length ≤ nL) {ty : FieldType} (hr : rt = some ty)
    (body : ∀ (p : Program) (e : Env) (R : Room) (s : State) (m : MethodId) (args : Array Value) (below : List Frame) (meth : Method) (c : Code) (Q : State → Prop) (ls : Array Slot), gC E D A p R s m args meth c b nL own nm F L → gW E D A s σ s.heap [] →
      (∀ (pc : Nat) (ls : Array Slot) (H : Heap) (locs : List Loc) (cells slots : Nat), decode b pc = .ok (.ireturn, 1) → narrow ty (.int res.1) = .int res.1 → gW E D A s res.2 H locs → W p l e R s m args below meth c H locs cells slots Q (F0 m pc ls [.int res.1])) →
      lv_has ls nL (lv_args 0 av) → W p l e R s m args below meth c s.heap [] 0 0 Q (F0 m 0 ls [])) : gCI l E D A y b nL F L rt av σ res := by
  subst ho
  subst hn
  refine Met.ofW (cc := b) (maxL := nL) (ret := rt) hy rfl ?_
  intro p e s m args below meth c s₁ B hml hv
  obtain ⟨rfl, hB, hK, hA, hX⟩ := hv
  have hts := atoms_spec (ws := Cond.code y b nL rt :: lwG) B.pre
  have hsz := hB.1
  have hsl := hB.2.1
  have hlk := B.notSynchronized
  rw [lg_entry_eq]
  refine body p e _ s m _ below meth c _ _ ⟨B.exec, B.bytes, hml, findClass_of_methodNamed B.named, fun w hw => hts w (List.mem_cons_of_mem _ hw), hK, hA, hX, (name_of_methodNamed B.named B.method).1, Nat.le_refl _, Nat.le_refl _, by show gK E ≤ gK E - σ.2.1 + s.heap.size; omega, by show gM E ≤ gM E - σ.2.2 + gsum s.heap; omega⟩ ⟨hB, va_S.rf, Nat.le_of_eq hsl⟩ ?_ (lv_entry av hav)
  intro pc ls H locs cells slots hd hnar hw
  have h1 := hw.1.1
  have h2 := hw.1.2.1
  have h3 := hw.1.2.2.1
  have h4 := hw.1.2.2.2.1
  have h5 := hw.2.2
  refine gg_tight hw.2.1.1 ?_
  refine W.widen (k := gK E - σ.2.1) (n := gM E - σ.2.2) (by omega) (by omega) ?_
  exact W.zret (ty := ty) B.exec B.bytes (by rw [← hr]; exact B.returns) hnar (fun t ht hW => ⟨⟨res.1, res.2, rfl, ⟨rfl, rfl, by omega⟩, by show gB E D A _ t.heap; rw [ht]; exact hw.1⟩, hw.2.1.F ht⟩) hw.2.1.2.2 hd hlk
theorem gg_entJ {l : Launch} {E : gE} {D : va_G} {A : Nat → Prop} {y : MethodName} {b : ByteArray} {nL F L : Nat} {rt : Option FieldType} {av : List Value} {σ : gS} {res : Int64 × gS} {own nm : String} (hy : plainName y.cls = true) (ho : y.cls = own) (hn : y.name = nm) (hav : (lg_sl av).length ≤ nL) (hr : rt = some .long)
    (body : ∀ (p : Program) (e : Env) (R : Room) (s : State) (m : MethodId) (args : Array Value) (below : List Frame) (meth : Method) (c : Code) (Q : State → Prop) (ls : Array Slot), gC E D A p R s m args meth c b nL own nm F L → gW E D A s σ s.heap [] →
      (∀ (pc : Nat) (ls : Array Slot) (H : Heap) (locs : List Loc) (cells slots : Nat), decode b pc = .ok (.lreturn, 1) → gW E D A s res.2 H locs → W p l e R s m args below meth c H locs cells slots Q (F0 m pc ls [.long res.1])) →
      lv_has ls nL (lv_args 0 av) → W p l e R s m args below meth c s.heap [] 0 0 Q (F0 m 0 ls [])) : gCJ l E D A y b nL F L rt av σ res := by
  subst ho
  subst hn
  refine Met.ofW (cc := b) (maxL := nL) (ret := rt) hy rfl ?_
  intro p e s m args below meth c s₁ B hml hv
  obtain ⟨rfl, hB, hK, hA, hX⟩ := hv
  have hts := atoms_spec (ws := Cond.code y b nL rt :: lwG) B.pre
  have hsz := hB.1
  have hsl := hB.2.1
  have hlk := B.notSynchronized
  rw [lg_entry_eq]
  refine body p e _ s m _ below meth c _ _ ⟨B.exec, B.bytes, hml, findClass_of_methodNamed B.named, fun w hw => hts w (List.mem_cons_of_mem _ hw), hK, hA, hX, (name_of_methodNamed B.named B.method).1, Nat.le_refl _, Nat.le_refl _, by show gK E ≤ gK E - σ.2.1 + s.heap.size; omega, by show gM E ≤ gM E - σ.2.2 + gsum s.heap; omega⟩ ⟨hB, va_S.rf, Nat.le_of_eq hsl⟩ ?_ (lv_entry av hav)
  intro pc ls H locs cells slots hd hw
  have h1 := hw.1.1
  have h2 := hw.1.2.1
  have h3 := hw.1.2.2.1
  have h4 := hw.1.2.2.2.1
  have h5 := hw.2.2
  refine gg_tight hw.2.1.1 ?_
  refine W.widen (k := gK E - σ.2.1) (n := gM E - σ.2.2) (by omega) (by omega) ?_
  exact W.lret B.exec B.bytes (by rw [← hr]; exact B.returns) (fun t ht hW => ⟨⟨res.1, res.2, rfl, ⟨rfl, rfl, by omega⟩, by show gB E D A _ t.heap; rw [ht]; exact hw.1⟩, hw.2.1.F ht⟩) hw.2.1.2.2 hd hlk
theorem gg_entF {l : Launch} {E : gE} {D : va_G} {A : Nat → Prop} {y : MethodName} {b : ByteArray} {nL F L : Nat} {rt : Option FieldType} {av : List Value} {σ : gS} {res : UInt32 × gS} {own nm : String} (hy : plainName y.cls = true) (ho : y.cls = own) (hn : y.name = nm) (hav : (lg_sl av).length ≤ nL) (hr : rt = some .float)
    (body : ∀ (p : Program) (e : Env) (R : Room) (s : State) (m : MethodId) (args : Array Value) (below : List Frame) (meth : Method) (c : Code) (Q : State → Prop) (ls : Array Slot), gC E D A p R s m args meth c b nL own nm F L → gW E D A s σ s.heap [] →
      (∀ (pc : Nat) (ls : Array Slot) (H : Heap) (locs : List Loc) (cells slots : Nat), decode b pc = .ok (.freturn, 1) → gW E D A s res.2 H locs → W p l e R s m args below meth c H locs cells slots Q (F0 m pc ls [.float res.1])) →
      lv_has ls nL (lv_args 0 av) → W p l e R s m args below meth c s.heap [] 0 0 Q (F0 m 0 ls [])) : gCF l E D A y b nL F L rt av σ res := by
  subst ho
  subst hn
  refine Met.ofW (cc := b) (maxL := nL) (ret := rt) hy rfl ?_
  intro p e s m args below meth c s₁ B hml hv
  obtain ⟨rfl, hB, hK, hA, hX⟩ := hv
  have hts := atoms_spec (ws := Cond.code y b nL rt :: lwG) B.pre
  have hsz := hB.1
  have hsl := hB.2.1
  have hlk := B.notSynchronized
  rw [lg_entry_eq]
  refine body p e _ s m _ below meth c _ _ ⟨B.exec, B.bytes, hml, findClass_of_methodNamed B.named, fun w hw => hts w (List.mem_cons_of_mem _ hw), hK, hA, hX, (name_of_methodNamed B.named B.method).1, Nat.le_refl _, Nat.le_refl _, by show gK E ≤ gK E - σ.2.1 + s.heap.size; omega, by show gM E ≤ gM E - σ.2.2 + gsum s.heap; omega⟩ ⟨hB, va_S.rf, Nat.le_of_eq hsl⟩ ?_ (lv_entry av hav)
  intro pc ls H locs cells slots hd hw
  have h1 := hw.1.1
  have h2 := hw.1.2.1
  have h3 := hw.1.2.2.1
  have h4 := hw.1.2.2.2.1
  have h5 := hw.2.2
  refine gg_tight hw.2.1.1 ?_
  refine W.widen (k := gK E - σ.2.1) (n := gM E - σ.2.2) (by omega) (by omega) ?_
  exact W.fret B.exec B.bytes (by rw [← hr]; exact B.returns) (fun t ht hW => ⟨⟨res.1, res.2, rfl, ⟨rfl, rfl, by omega⟩, by show gB E D A _ t.heap; rw [ht]; exact hw.1⟩, hw.2.1.F ht⟩) hw.2.1.2.2 hd hlk
theorem gg_entD {l : Launch} {E : gE} {D : va_G} {A : Nat → Prop} {y : MethodName} {b : ByteArray} {nL F L : Nat} {rt : Option FieldType} {av : List Value} {σ : gS} {res : UInt64 × gS} {own nm : String} (hy : plainName y.cls = true) (ho : y.cls = own) (hn : y.name = nm) (hav : (lg_sl av).length ≤ nL) (hr : rt = some .double)
    (body : ∀ (p : Program) (e : Env) (R : Room) (s : State) (m : MethodId) (args : Array Value) (below : List Frame) (meth : Method) (c : Code) (Q : State → Prop) (ls : Array Slot), gC E D A p R s m args meth c b nL own nm F L → gW E D A s σ s.heap [] →
      (∀ (pc : Nat) (ls : Array Slot) (H : Heap) (locs : List Loc) (cells slots : Nat), decode b pc = .ok (.dreturn, 1) → gW E D A s res.2 H locs → W p l e R s m args below meth c H locs cells slots Q (F0 m pc ls [.double res.1])) →
      lv_has ls nL (lv_args 0 av) → W p l e R s m args below meth c s.heap [] 0 0 Q (F0 m 0 ls [])) : gCD l E D A y b nL F L rt av σ res := by
  subst ho
  subst hn
  refine Met.ofW (cc := b) (maxL := nL) (ret := rt) hy rfl ?_
  intro p e s m args below meth c s₁ B hml hv
  obtain ⟨rfl, hB, hK, hA, hX⟩ := hv
  have hts := atoms_spec (ws := Cond.code y b nL rt :: lwG) B.pre
  have hsz := hB.1
  have hsl := hB.2.1
  have hlk := B.notSynchronized
  rw [lg_entry_eq]
  refine body p e _ s m _ below meth c _ _ ⟨B.exec, B.bytes, hml, findClass_of_methodNamed B.named, fun w hw => hts w (List.mem_cons_of_mem _ hw), hK, hA, hX, (name_of_methodNamed B.named B.method).1, Nat.le_refl _, Nat.le_refl _, by show gK E ≤ gK E - σ.2.1 + s.heap.size; omega, by show gM E ≤ gM E - σ.2.2 + gsum s.heap; omega⟩ ⟨hB, va_S.rf, Nat.le_of_eq hsl⟩ ?_ (lv_entry av hav)
  intro pc ls H locs cells slots hd hw
  have h1 := hw.1.1
  have h2 := hw.1.2.1
  have h3 := hw.1.2.2.1
  have h4 := hw.1.2.2.2.1
  have h5 := hw.2.2
  refine gg_tight hw.2.1.1 ?_
  refine W.widen (k := gK E - σ.2.1) (n := gM E - σ.2.2) (by omega) (by omega) ?_
  exact W.dret B.exec B.bytes (by rw [← hr]; exact B.returns) (fun t ht hW => ⟨⟨res.1, res.2, rfl, ⟨rfl, rfl, by omega⟩, by show gB E D A _ t.heap; rw [ht]; exact hw.1⟩, hw.2.1.F ht⟩) hw.2.1.2.2 hd hlk
theorem gg_entV {l : Launch} {E : gE} {D : va_G} {A : Nat → Prop} {y : MethodName} {b : ByteArray} {nL F L : Nat} {rt : Option FieldType} {av : List Value} {σ σ' : gS} {own nm : String} (hy : plainName y.cls = true) (ho : y.cls = own) (hn : y.name = nm) (hav : (lg_sl av).length ≤ nL) (hr : rt = none)
    (body : ∀ (p : Program) (e : Env) (R : Room) (s : State) (m : MethodId) (args : Array Value) (below : List Frame) (meth : Method) (c : Code) (Q : State → Prop) (ls : Array Slot), gC E D A p R s m args meth c b nL own nm F L → gW E D A s σ s.heap [] →
      (∀ (pc : Nat) (ls : Array Slot) (H : Heap) (locs : List Loc) (cells slots : Nat), decode b pc = .ok (.return_, 1) → gW E D A s σ' H locs → W p l e R s m args below meth c H locs cells slots Q (F0 m pc ls [])) →
      lv_has ls nL (lv_args 0 av) → W p l e R s m args below meth c s.heap [] 0 0 Q (F0 m 0 ls [])) : gCV l E D A y b nL F L rt av σ σ' := by
  subst ho
  subst hn
  refine Met.ofW (cc := b) (maxL := nL) (ret := rt) hy rfl ?_
  intro p e s m args below meth c s₁ B hml hv
  obtain ⟨rfl, hB, hK, hA, hX⟩ := hv
  have hts := atoms_spec (ws := Cond.code y b nL rt :: lwG) B.pre
  have hsz := hB.1
  have hsl := hB.2.1
  have hlk := B.notSynchronized
  rw [lg_entry_eq]
  refine body p e _ s m _ below meth c _ _ ⟨B.exec, B.bytes, hml, findClass_of_methodNamed B.named, fun w hw => hts w (List.mem_cons_of_mem _ hw), hK, hA, hX, (name_of_methodNamed B.named B.method).1, Nat.le_refl _, Nat.le_refl _, by show gK E ≤ gK E - σ.2.1 + s.heap.size; omega, by show gM E ≤ gM E - σ.2.2 + gsum s.heap; omega⟩ ⟨hB, va_S.rf, Nat.le_of_eq hsl⟩ ?_ (lv_entry av hav)
  intro pc ls H locs cells slots hd hw
  have h1 := hw.1.1
  have h2 := hw.1.2.1
  have h3 := hw.1.2.2.1
  have h4 := hw.1.2.2.2.1
  have h5 := hw.2.2
  refine gg_tight hw.2.1.1 ?_
  refine W.widen (k := gK E - σ.2.1) (n := gM E - σ.2.2) (by omega) (by omega) ?_
  exact W.vret B.exec B.bytes (by rw [← hr]; exact B.returns) (fun t ht hW => ⟨⟨σ', rfl, ⟨rfl, by omega⟩, by show gB E D A _ t.heap; rw [ht]; exact hw.1⟩, hw.2.1.F ht⟩) hw.2.1.2.2 hd hlk
theorem gg_entR {l : Launch} {E : gE} {D : va_G} {A : Nat → Prop} {y : MethodName} {b : ByteArray} {nL F L : Nat} {rt : Option FieldType} {av : List Value} {σ : gS} {res : Nat × gS} {own nm : String} (hy : plainName y.cls = true) (ho : y.cls = own) (hn : y.name = nm) (hav : (lg_sl av).length ≤ nL) {ty : FieldType} (hr : rt = some ty) (hrt : (∃ n, ty = .object n) ∨ ∃ t, ty = .array t)
    (body : ∀ (p : Program) (e : Env) (R : Room) (s : State) (m : MethodId) (args : Array Value) (below : List Frame) (meth : Method) (c : Code) (Q : State → Prop) (ls : Array Slot), gC E D A p R s m args meth c b nL own nm F L → gW E D A s σ s.heap [] →
      (∀ (pc : Nat) (ls : Array Slot) (H : Heap) (locs : List Loc) (cells slots : Nat), decode b pc = .ok (.areturn, 1) → gW E D A s res.2 H locs → W p l e R s m args below meth c H locs cells slots Q (F0 m pc ls [.ref res.1])) →
      lv_has ls nL (lv_args 0 av) → W p l e R s m args below meth c s.heap [] 0 0 Q (F0 m 0 ls [])) : gCR l E D A y b nL F L rt av σ res := by
  subst ho
  subst hn
  refine Met.ofW (cc := b) (maxL := nL) (ret := rt) hy rfl ?_
  intro p e s m args below meth c s₁ B hml hv
  obtain ⟨rfl, hB, hK, hA, hX⟩ := hv
  have hts := atoms_spec (ws := Cond.code y b nL rt :: lwG) B.pre
  have hsz := hB.1
  have hsl := hB.2.1
  have hlk := B.notSynchronized
  rw [lg_entry_eq]
  refine body p e _ s m _ below meth c _ _ ⟨B.exec, B.bytes, hml, findClass_of_methodNamed B.named, fun w hw => hts w (List.mem_cons_of_mem _ hw), hK, hA, hX, (name_of_methodNamed B.named B.method).1, Nat.le_refl _, Nat.le_refl _, by show gK E ≤ gK E - σ.2.1 + s.heap.size; omega, by show gM E ≤ gM E - σ.2.2 + gsum s.heap; omega⟩ ⟨hB, va_S.rf, Nat.le_of_eq hsl⟩ ?_ (lv_entry av hav)
  intro pc ls H locs cells slots hd hw
  have h1 := hw.1.1
  have h2 := hw.1.2.1
  have h3 := hw.1.2.2.1
  have h4 := hw.1.2.2.2.1
  have h5 := hw.2.2
  refine gg_tight hw.2.1.1 ?_
  refine W.widen (k := gK E - σ.2.1) (n := gM E - σ.2.2) (by omega) (by omega) ?_
  exact W.aret (rt := ty) B.exec B.bytes (by rw [← hr]; exact B.returns) hrt (Or.inr ⟨_, rfl⟩) (fun t ht hW => ⟨⟨res.2, res.1, rfl, ⟨rfl, by omega⟩, rfl, by show gB E D A _ t.heap; rw [ht]; exact hw.1⟩, hw.2.1.F ht⟩) hw.2.1.2.2 hd hlk
theorem gg_cVI {y : MethodName} {b : ByteArray} {nLy F1 L1 idx : Nat} {rt : Option FieldType} {As st : List Value} {res : Int32 × gS} {a ci N : Nat} {u : Unit} {C : String} {T : u_T} (hC : gC E D A p R s m args meth c cc nL own nm F L) (hw : gW E D A s σ H locs) (hM : gCI l E D A y b nLy F1 L1 rt (.ref a :: As) σ res) (hcl : gcl σ a ci = some u) (hc : vwCl[ci]? = some (C, T, N)) (hG : GoodIn lwG (wsV own idx C y (Cond.code y b nLy rt :: lwG)))
    (hd : y.cls = C ∧ y.cls ≠ "java/lang/invoke/MethodHandle" ∧ y.cls ≠ "java/lang/invoke/VarHandle" ∧ (parseMethodDescriptor y.desc).map (fun d => d.parameters.length) = some As.length) (hF : F1 + 1 ≤ F) (hL : 8 + (nLy + 11) + L1 ≤ L) (hsz : ls.size = nL) (hst : st = As.reverse ++ .ref a :: rest) (h8 : (rest.map fun v => v.category).sum ≤ 8) (hdg : decode cc pc = .ok (.invokevirtual idx, 3))
    (kk : ∀ (H : Heap) (locs : List Loc) (cells slots : Nat), gW E D A s res.2 H locs → W p l e R s m args below meth c H locs cells slots Q (F0 m (pc + 3) ls (.int res.1 :: rest))) : W p l e R s m args below meth c H locs cells slots Q (F0 m pc ls st) := by
  have hC0 := hC
  obtain ⟨hx, hb, hml, hown, hts, hK, hA, hX, hnm, hF0, hL0, hRc, hRs⟩ := hC0
  obtain ⟨fs, ha⟩ := gcl_some hcl
  have hP := hw.1.one ha (gDead_inr hc)
  subst hst
  have h1 := hw.1.1
  have h2 := hw.1.2.1
  have h3 := hw.1.2.2.1
  have h4 := hw.1.2.2.2.1
  have h5 := hw.2.2
  have h6 := hw.2.1.1
  refine gg_tight h6 ?_
  refine va_calli (A1 := A) (va_runV (As := As) (rest := rest) ⟨hx, hb, hml, hown, hts⟩ hM (cwV As.length hts hG rfl rfl rfl hd ⟨Nat.le_trans hF hF0, Nat.le_trans hL hL0⟩) ⟨fun a U g mk q => ⟨q.1, q.2.call⟩, va_recv hK hP hc (q0 := 0) rfl, fun U hU hW => ⟨rfl, gP_of hC hw hU hW⟩⟩ rfl rfl hsz rfl (lv_room h8) hdg ⟨by omega, by omega⟩) hw.2.1 (fun q _ h => h) (fun q h => h) (fun r u t H1 locs1 ht hvm hp hB hz hk hS => ?_)
  obtain ⟨h7, h6, hle⟩ := hp
  subst h7
  subst h6
  exact kk H1 locs1 _ _ ⟨by rw [← ht]; exact hB, hS, Nat.le_trans h5 hle⟩
theorem gg_cVJ {y : MethodName} {b : ByteArray} {nLy F1 L1 idx : Nat} {rt : Option FieldType} {As st : List Value} {res : Int64 × gS} {a ci N : Nat} {u : Unit} {C : String} {T : u_T} (hC : gC E D A p R s m args meth c cc nL own nm F L) (hw : gW E D A s σ H locs) (hM : gCJ l E D A y b nLy F1 L1 rt (.ref a :: As) σ res) (hcl : gcl σ a ci = some u) (hc : vwCl[ci]? = some (C, T, N)) (hG : GoodIn lwG (wsV own idx C y (Cond.code y b nLy rt :: lwG)))
    (hd : y.cls = C ∧ y.cls ≠ "java/lang/invoke/MethodHandle" ∧ y.cls ≠ "java/lang/invoke/VarHandle" ∧ (parseMethodDescriptor y.desc).map (fun d => d.parameters.length) = some As.length) (hF : F1 + 1 ≤ F) (hL : 8 + (nLy + 11) + L1 ≤ L) (hsz : ls.size = nL) (hst : st = As.reverse ++ .ref a :: rest) (h8 : (rest.map fun v => v.category).sum ≤ 8) (hdg : decode cc pc = .ok (.invokevirtual idx, 3))
    (kk : ∀ (H : Heap) (locs : List Loc) (cells slots : Nat), gW E D A s res.2 H locs → W p l e R s m args below meth c H locs cells slots Q (F0 m (pc + 3) ls (.long res.1 :: rest))) : W p l e R s m args below meth c H locs cells slots Q (F0 m pc ls st) := by
  have hC0 := hC
  obtain ⟨hx, hb, hml, hown, hts, hK, hA, hX, hnm, hF0, hL0, hRc, hRs⟩ := hC0
  obtain ⟨fs, ha⟩ := gcl_some hcl
  have hP := hw.1.one ha (gDead_inr hc)
  subst hst
  have h1 := hw.1.1
  have h2 := hw.1.2.1
  have h3 := hw.1.2.2.1
  have h4 := hw.1.2.2.2.1
  have h5 := hw.2.2
  have h6 := hw.2.1.1
  refine gg_tight h6 ?_
  refine va_calll (A1 := A) (va_runV (As := As) (rest := rest) ⟨hx, hb, hml, hown, hts⟩ hM (cwV As.length hts hG rfl rfl rfl hd ⟨Nat.le_trans hF hF0, Nat.le_trans hL hL0⟩) ⟨fun a U g mk q => ⟨q.1, q.2.call⟩, va_recv hK hP hc (q0 := 0) rfl, fun U hU hW => ⟨rfl, gP_of hC hw hU hW⟩⟩ rfl rfl hsz rfl (lv_room h8) hdg ⟨by omega, by omega⟩) hw.2.1 (fun q _ h => h) (fun q h => h) (fun r u t H1 locs1 ht hvm hp hB hz hk hS => ?_)
  obtain ⟨h7, h6, hle⟩ := hp
  subst h7
  subst h6
  exact kk H1 locs1 _ _ ⟨by rw [← ht]; exact hB, hS, Nat.le_trans h5 hle⟩
theorem gg_cVF {y : MethodName} {b : ByteArray} {nLy F1 L1 idx : Nat} {rt : Option FieldType} {As st : List Value} {res : UInt32 × gS} {a ci N : Nat} {u : Unit} {C : String} {T : u_T} (hC : gC E D A p R s m args meth c cc nL own nm F L) (hw : gW E D A s σ H locs) (hM : gCF l E D A y b nLy F1 L1 rt (.ref a :: As) σ res) (hcl : gcl σ a ci = some u) (hc : vwCl[ci]? = some (C, T, N)) (hG : GoodIn lwG (wsV own idx C y (Cond.code y b nLy rt :: lwG)))
    (hd : y.cls = C ∧ y.cls ≠ "java/lang/invoke/MethodHandle" ∧ y.cls ≠ "java/lang/invoke/VarHandle" ∧ (parseMethodDescriptor y.desc).map (fun d => d.parameters.length) = some As.length) (hF : F1 + 1 ≤ F) (hL : 8 + (nLy + 11) + L1 ≤ L) (hsz : ls.size = nL) (hst : st = As.reverse ++ .ref a :: rest) (h8 : (rest.map fun v => v.category).sum ≤ 8) (hdg : decode cc pc = .ok (.invokevirtual idx, 3))
    (kk : ∀ (H : Heap) (locs : List Loc) (cells slots : Nat), gW E D A s res.2 H locs → W p l e R s m args below meth c H locs cells slots Q (F0 m (pc + 3) ls (.float res.1 :: rest))) : W p l e R s m args below meth c H locs cells slots Q (F0 m pc ls st) := by
  have hC0 := hC
  obtain ⟨hx, hb, hml, hown, hts, hK, hA, hX, hnm, hF0, hL0, hRc, hRs⟩ := hC0
  obtain ⟨fs, ha⟩ := gcl_some hcl
  have hP := hw.1.one ha (gDead_inr hc)
  subst hst
  have h1 := hw.1.1
  have h2 := hw.1.2.1
  have h3 := hw.1.2.2.1
  have h4 := hw.1.2.2.2.1
  have h5 := hw.2.2
  have h6 := hw.2.1.1
  refine gg_tight h6 ?_
  refine va_callf (A1 := A) (va_runV (As := As) (rest := rest) ⟨hx, hb, hml, hown, hts⟩ hM (cwV As.length hts hG rfl rfl rfl hd ⟨Nat.le_trans hF hF0, Nat.le_trans hL hL0⟩) ⟨fun a U g mk q => ⟨q.1, q.2.call⟩, va_recv hK hP hc (q0 := 0) rfl, fun U hU hW => ⟨rfl, gP_of hC hw hU hW⟩⟩ rfl rfl hsz rfl (lv_room h8) hdg ⟨by omega, by omega⟩) hw.2.1 (fun q _ h => h) (fun q h => h) (fun r u t H1 locs1 ht hvm hp hB hz hk hS => ?_)
  obtain ⟨h7, h6, hle⟩ := hp
  subst h7
  subst h6
  exact kk H1 locs1 _ _ ⟨by rw [← ht]; exact hB, hS, Nat.le_trans h5 hle⟩
theorem gg_cVD {y : MethodName} {b : ByteArray} {nLy F1 L1 idx : Nat} {rt : Option FieldType} {As st : List Value} {res : UInt64 × gS} {a ci N : Nat} {u : Unit} {C : String} {T : u_T} (hC : gC E D A p R s m args meth c cc nL own nm F L) (hw : gW E D A s σ H locs) (hM : gCD l E D A y b nLy F1 L1 rt (.ref a :: As) σ res) (hcl : gcl σ a ci = some u) (hc : vwCl[ci]? = some (C, T, N)) (hG : GoodIn lwG (wsV own idx C y (Cond.code y b nLy rt :: lwG)))
    (hd : y.cls = C ∧ y.cls ≠ "java/lang/invoke/MethodHandle" ∧ y.cls ≠ "java/lang/invoke/VarHandle" ∧ (parseMethodDescriptor y.desc).map (fun d => d.parameters.length) = some As.length) (hF : F1 + 1 ≤ F) (hL : 8 + (nLy + 11) + L1 ≤ L) (hsz : ls.size = nL) (hst : st = As.reverse ++ .ref a :: rest) (h8 : (rest.map fun v => v.category).sum ≤ 8) (hdg : decode cc pc = .ok (.invokevirtual idx, 3))
    (kk : ∀ (H : Heap) (locs : List Loc) (cells slots : Nat), gW E D A s res.2 H locs → W p l e R s m args below meth c H locs cells slots Q (F0 m (pc + 3) ls (.double res.1 :: rest))) : W p l e R s m args below meth c H locs cells slots Q (F0 m pc ls st) := by
  have hC0 := hC
  obtain ⟨hx, hb, hml, hown, hts, hK, hA, hX, hnm, hF0, hL0, hRc, hRs⟩ := hC0
  obtain ⟨fs, ha⟩ := gcl_some hcl
  have hP := hw.1.one ha (gDead_inr hc)
  subst hst
  have h1 := hw.1.1
  have h2 := hw.1.2.1
  have h3 := hw.1.2.2.1
  have h4 := hw.1.2.2.2.1
  have h5 := hw.2.2
  have h6 := hw.2.1.1
  refine gg_tight h6 ?_
  refine va_calld (A1 := A) (va_runV (As := As) (rest := rest) ⟨hx, hb, hml, hown, hts⟩ hM (cwV As.length hts hG rfl rfl rfl hd ⟨Nat.le_trans hF hF0, Nat.le_trans hL hL0⟩) ⟨fun a U g mk q => ⟨q.1, q.2.call⟩, va_recv hK hP hc (q0 := 0) rfl, fun U hU hW => ⟨rfl, gP_of hC hw hU hW⟩⟩ rfl rfl hsz rfl (lv_room h8) hdg ⟨by omega, by omega⟩) hw.2.1 (fun q _ h => h) (fun q h => h) (fun r u t H1 locs1 ht hvm hp hB hz hk hS => ?_)
  obtain ⟨h7, h6, hle⟩ := hp
  subst h7
  subst h6
  exact kk H1 locs1 _ _ ⟨by rw [← ht]; exact hB, hS, Nat.le_trans h5 hle⟩
theorem gg_cVV {y : MethodName} {b : ByteArray} {nLy F1 L1 idx : Nat} {rt : Option FieldType} {As st : List Value} {σ2 : gS} {a ci N : Nat} {u : Unit} {C : String} {T : u_T} (hC : gC E D A p R s m args meth c cc nL own nm F L) (hw : gW E D A s σ H locs) (hM : gCV l E D A y b nLy F1 L1 rt (.ref a :: As) σ σ2) (hcl : gcl σ a ci = some u) (hc : vwCl[ci]? = some (C, T, N)) (hG : GoodIn lwG (wsV own idx C y (Cond.code y b nLy rt :: lwG)))
    (hd : y.cls = C ∧ y.cls ≠ "java/lang/invoke/MethodHandle" ∧ y.cls ≠ "java/lang/invoke/VarHandle" ∧ (parseMethodDescriptor y.desc).map (fun d => d.parameters.length) = some As.length) (hF : F1 + 1 ≤ F) (hL : 8 + (nLy + 11) + L1 ≤ L) (hsz : ls.size = nL) (hst : st = As.reverse ++ .ref a :: rest) (h8 : (rest.map fun v => v.category).sum ≤ 8) (hdg : decode cc pc = .ok (.invokevirtual idx, 3))
    (kk : ∀ (H : Heap) (locs : List Loc) (cells slots : Nat), gW E D A s σ2 H locs → W p l e R s m args below meth c H locs cells slots Q (F0 m (pc + 3) ls rest)) : W p l e R s m args below meth c H locs cells slots Q (F0 m pc ls st) := by
  have hC0 := hC
  obtain ⟨hx, hb, hml, hown, hts, hK, hA, hX, hnm, hF0, hL0, hRc, hRs⟩ := hC0
  obtain ⟨fs, ha⟩ := gcl_some hcl
  have hP := hw.1.one ha (gDead_inr hc)
  subst hst
  have h1 := hw.1.1
  have h2 := hw.1.2.1
  have h3 := hw.1.2.2.1
  have h4 := hw.1.2.2.2.1
  have h5 := hw.2.2
  have h6 := hw.2.1.1
  refine gg_tight h6 ?_
  refine va_callv (A1 := A) (va_runV (As := As) (rest := rest) ⟨hx, hb, hml, hown, hts⟩ hM (cwV As.length hts hG rfl rfl rfl hd ⟨Nat.le_trans hF hF0, Nat.le_trans hL hL0⟩) ⟨fun a U g mk q => ⟨q.1, q.2.call⟩, va_recv hK hP hc (q0 := 0) rfl, fun U hU hW => ⟨rfl, gP_of hC hw hU hW⟩⟩ rfl rfl hsz rfl (lv_room h8) hdg ⟨by omega, by omega⟩) hw.2.1 (fun q _ h => h) (fun q h => h) (fun u t H1 locs1 ht hvm hp hB hz hk hS => ?_)
  obtain ⟨rfl, hle⟩ := hp
  exact kk H1 locs1 _ _ ⟨by rw [← ht]; exact hB, hS, Nat.le_trans h5 hle⟩
theorem gg_cVR {y : MethodName} {b : ByteArray} {nLy F1 L1 idx : Nat} {rt : Option FieldType} {As st : List Value} {res : Nat × gS} {a ci N : Nat} {u : Unit} {C : String} {T : u_T} (hC : gC E D A p R s m args meth c cc nL own nm F L) (hw : gW E D A s σ H locs) (hM : gCR l E D A y b nLy F1 L1 rt (.ref a :: As) σ res) (hcl : gcl σ a ci = some u) (hc : vwCl[ci]? = some (C, T, N)) (hG : GoodIn lwG (wsV own idx C y (Cond.code y b nLy rt :: lwG)))
    (hd : y.cls = C ∧ y.cls ≠ "java/lang/invoke/MethodHandle" ∧ y.cls ≠ "java/lang/invoke/VarHandle" ∧ (parseMethodDescriptor y.desc).map (fun d => d.parameters.length) = some As.length) (hF : F1 + 1 ≤ F) (hL : 8 + (nLy + 11) + L1 ≤ L) (hsz : ls.size = nL) (hst : st = As.reverse ++ .ref a :: rest) (h8 : (rest.map fun v => v.category).sum ≤ 8) (hdg : decode cc pc = .ok (.invokevirtual idx, 3))
    (kk : ∀ (H : Heap) (locs : List Loc) (cells slots : Nat), gW E D A s res.2 H locs → W p l e R s m args below meth c H locs cells slots Q (F0 m (pc + 3) ls (.ref res.1 :: rest))) : W p l e R s m args below meth c H locs cells slots Q (F0 m pc ls st) := by
  have hC0 := hC
  obtain ⟨hx, hb, hml, hown, hts, hK, hA, hX, hnm, hF0, hL0, hRc, hRs⟩ := hC0
  obtain ⟨fs, ha⟩ := gcl_some hcl
  have hP := hw.1.one ha (gDead_inr hc)
  subst hst
  have h1 := hw.1.1
  have h2 := hw.1.2.1
  have h3 := hw.1.2.2.1
  have h4 := hw.1.2.2.2.1
  have h5 := hw.2.2
  have h6 := hw.2.1.1
  refine gg_tight h6 ?_
  refine va_callr (A1 := A) (va_runV (As := As) (rest := rest) ⟨hx, hb, hml, hown, hts⟩ hM (cwV As.length hts hG rfl rfl rfl hd ⟨Nat.le_trans hF hF0, Nat.le_trans hL hL0⟩) ⟨fun a U g mk q => ⟨q.1, q.2.call⟩, va_recv hK hP hc (q0 := 0) rfl, fun U hU hW => ⟨rfl, gP_of hC hw hU hW⟩⟩ rfl rfl hsz rfl (lv_room h8) hdg ⟨by omega, by omega⟩) hw.2.1 (fun q _ h => h) (fun q h => h) (fun u a1 t H1 locs1 ht hvm hp hB hz hk hS => ?_)
  obtain ⟨h6, hle⟩ := hp
  obtain ⟨h7, hB⟩ := hB
  subst h7
  subst h6
  exact kk H1 locs1 _ _ ⟨by rw [← ht]; exact hB, hS, Nat.le_trans h5 hle⟩
theorem gg_cSI {y : MethodName} {b : ByteArray} {nLy F1 L1 idx : Nat} {rt : Option FieldType} {As st : List Value} {res : Int32 × gS} (hC : gC E D A p R s m args meth c cc nL own nm F L) (hw : gW E D A s σ H locs) (hM : gCI l E D A y b nLy F1 L1 rt As σ res) (hG : GoodIn lwG (va_wsS own idx y (Cond.code y b nLy rt :: lwG)))
    (hd : y.cls ≠ "java/lang/invoke/MethodHandle" ∧ y.cls ≠ "java/lang/invoke/VarHandle" ∧ (parseMethodDescriptor y.desc).map (fun d => d.parameters.length) = some As.length) (hF : F1 + 1 ≤ F) (hL : 8 + (nLy + 11) + L1 ≤ L) (hsz : ls.size = nL) (hst : st = As.reverse ++ rest) (h8 : (rest.map fun v => v.category).sum ≤ 8) (hdg : decode cc pc = .ok (.invokestatic idx, 3))
    (kk : ∀ (H : Heap) (locs : List Loc) (cells slots : Nat), gW E D A s res.2 H locs → W p l e R s m args below meth c H locs cells slots Q (F0 m (pc + 3) ls (.int res.1 :: rest))) : W p l e R s m args below meth c H locs cells slots Q (F0 m pc ls st) := by
  have hC0 := hC
  obtain ⟨hx, hb, hml, hown, hts, hK, hA, hX, hnm, hF0, hL0, hRc, hRs⟩ := hC0
  subst hst
  have h1 := hw.1.1
  have h2 := hw.1.2.1
  have h3 := hw.1.2.2.1
  have h4 := hw.1.2.2.2.1
  have h5 := hw.2.2
  have h6 := hw.2.1.1
  refine gg_tight h6 ?_
  refine va_calli (A1 := A) (va_runS (As := As) (rest := rest) ⟨hx, hb, hml, hown, hts⟩ hM (va_cwS As.length hts hG rfl rfl rfl hd ⟨Nat.le_trans hF hF0, Nat.le_trans hL hL0⟩) ⟨fun a U g mk q => ⟨q.1, q.2.call⟩, fun U hU hW => ⟨rfl, gP_of hC hw hU hW⟩⟩ rfl rfl hsz rfl (lv_room h8) hdg ⟨by omega, by omega⟩) hw.2.1 (fun q _ h => h) (fun q h => h) (fun r u t H1 locs1 ht hvm hp hB hz hk hS => ?_)
  obtain ⟨h7, h6, hle⟩ := hp
  subst h7
  subst h6
  exact kk H1 locs1 _ _ ⟨by rw [← ht]; exact hB, hS, Nat.le_trans h5 hle⟩
theorem gg_cSV {y : MethodName} {b : ByteArray} {nLy F1 L1 idx : Nat} {rt : Option FieldType} {As st : List Value} {σ2 : gS} (hC : gC E D A p R s m args meth c cc nL own nm F L) (hw : gW E D A s σ H locs) (hM : gCV l E D A y b nLy F1 L1 rt As σ σ2) (hG : GoodIn lwG (va_wsS own idx y (Cond.code y b nLy rt :: lwG)))
    (hd : y.cls ≠ "java/lang/invoke/MethodHandle" ∧ y.cls ≠ "java/lang/invoke/VarHandle" ∧ (parseMethodDescriptor y.desc).map (fun d => d.parameters.length) = some As.length) (hF : F1 + 1 ≤ F) (hL : 8 + (nLy + 11) + L1 ≤ L) (hsz : ls.size = nL) (hst : st = As.reverse ++ rest) (h8 : (rest.map fun v => v.category).sum ≤ 8) (hdg : decode cc pc = .ok (.invokestatic idx, 3))
    (kk : ∀ (H : Heap) (locs : List Loc) (cells slots : Nat), gW E D A s σ2 H locs → W p l e R s m args below meth c H locs cells slots Q (F0 m (pc + 3) ls rest)) : W p l e R s m args below meth c H locs cells slots Q (F0 m pc ls st) := by
  have hC0 := hC
  obtain ⟨hx, hb, hml, hown, hts, hK, hA, hX, hnm, hF0, hL0, hRc, hRs⟩ := hC0
  subst hst
  have h1 := hw.1.1
  have h2 := hw.1.2.1
  have h3 := hw.1.2.2.1
  have h4 := hw.1.2.2.2.1
  have h5 := hw.2.2
  have h6 := hw.2.1.1
  refine gg_tight h6 ?_
  refine va_callv (A1 := A) (va_runS (As := As) (rest := rest) ⟨hx, hb, hml, hown, hts⟩ hM (va_cwS As.length hts hG rfl rfl rfl hd ⟨Nat.le_trans hF hF0, Nat.le_trans hL hL0⟩) ⟨fun a U g mk q => ⟨q.1, q.2.call⟩, fun U hU hW => ⟨rfl, gP_of hC hw hU hW⟩⟩ rfl rfl hsz rfl (lv_room h8) hdg ⟨by omega, by omega⟩) hw.2.1 (fun q _ h => h) (fun q h => h) (fun u t H1 locs1 ht hvm hp hB hz hk hS => ?_)
  obtain ⟨rfl, hle⟩ := hp
  exact kk H1 locs1 _ _ ⟨by rw [← ht]; exact hB, hS, Nat.le_trans h5 hle⟩
theorem gg_cSR {y : MethodName} {b : ByteArray} {nLy F1 L1 idx : Nat} {rt : Option FieldType} {As st : List Value} {res : Nat × gS} (hC : gC E D A p R s m args meth c cc nL own nm F L) (hw : gW E D A s σ H locs) (hM : gCR l E D A y b nLy F1 L1 rt As σ res) (hG : GoodIn lwG (va_wsS own idx y (Cond.code y b nLy rt :: lwG)))
    (hd : y.cls ≠ "java/lang/invoke/MethodHandle" ∧ y.cls ≠ "java/lang/invoke/VarHandle" ∧ (parseMethodDescriptor y.desc).map (fun d => d.parameters.length) = some As.length) (hF : F1 + 1 ≤ F) (hL : 8 + (nLy + 11) + L1 ≤ L) (hsz : ls.size = nL) (hst : st = As.reverse ++ rest) (h8 : (rest.map fun v => v.category).sum ≤ 8) (hdg : decode cc pc = .ok (.invokestatic idx, 3))
    (kk : ∀ (H : Heap) (locs : List Loc) (cells slots : Nat), gW E D A s res.2 H locs → W p l e R s m args below meth c H locs cells slots Q (F0 m (pc + 3) ls (.ref res.1 :: rest))) : W p l e R s m args below meth c H locs cells slots Q (F0 m pc ls st) := by
  have hC0 := hC
  obtain ⟨hx, hb, hml, hown, hts, hK, hA, hX, hnm, hF0, hL0, hRc, hRs⟩ := hC0
  subst hst
  have h1 := hw.1.1
  have h2 := hw.1.2.1
  have h3 := hw.1.2.2.1
  have h4 := hw.1.2.2.2.1
  have h5 := hw.2.2
  have h6 := hw.2.1.1
  refine gg_tight h6 ?_
  refine va_callr (A1 := A) (va_runS (As := As) (rest := rest) ⟨hx, hb, hml, hown, hts⟩ hM (va_cwS As.length hts hG rfl rfl rfl hd ⟨Nat.le_trans hF hF0, Nat.le_trans hL hL0⟩) ⟨fun a U g mk q => ⟨q.1, q.2.call⟩, fun U hU hW => ⟨rfl, gP_of hC hw hU hW⟩⟩ rfl rfl hsz rfl (lv_room h8) hdg ⟨by omega, by omega⟩) hw.2.1 (fun q _ h => h) (fun q h => h) (fun u a1 t H1 locs1 ht hvm hp hB hz hk hS => ?_)
  obtain ⟨h6, hle⟩ := hp
  obtain ⟨h7, hB⟩ := hB
  subst h7
  subst h6
  exact kk H1 locs1 _ _ ⟨by rw [← ht]; exact hB, hS, Nat.le_trans h5 hle⟩
theorem gg_cIV {y : MethodName} {b : ByteArray} {nLy F1 L1 idx : Nat} {rt : Option FieldType} {As st : List Value} {σ2 : gS} {a : Nat} (hC : gC E D A p R s m args meth c cc nL own nm F L) (hw : gW E D A s σ H locs) (hM : gCV l E D A y b nLy F1 L1 none (.ref a :: As) σ σ2) (hG : Cond.code y b nLy none ∈ lwG) (hini : Cond.initialized y.cls ∈ lwG) (hlk : Cond.methodLink own idx y ∈ lwG) (him : Cond.instanceMethod y ∈ lwG) (hy1 : y.name = "<init>")
    (hd : y.cls ≠ "java/lang/invoke/MethodHandle" ∧ y.cls ≠ "java/lang/invoke/VarHandle" ∧ (parseMethodDescriptor y.desc).map (fun d => d.parameters.length) = some As.length) (hF : F1 + 1 ≤ F) (hL : 8 + (nLy + 11) + L1 ≤ L) (hsz : ls.size = nL) (hst : st = As.reverse ++ .ref a :: rest) (h8 : (rest.map fun v => v.category).sum ≤ 8) (hdg : decode cc pc = .ok (.invokespecial idx, 3))
    (kk : ∀ (H : Heap) (locs : List Loc) (cells slots : Nat), gW E D A s σ2 H locs → W p l e R s m args below meth c H locs cells slots Q (F0 m (pc + 3) ls rest)) : W p l e R s m args below meth c H locs cells slots Q (F0 m pc ls st) := by
  have hC0 := hC
  obtain ⟨hx, hb, hml, hown, hts, hK, hA, hX, hnm, hF0, hL0, hRc, hRs⟩ := hC0
  subst hst
  have h1 := hw.1.1
  have h2 := hw.1.2.1
  have h3 := hw.1.2.2.1
  have h4 := hw.1.2.2.2.1
  have h5 := hw.2.2
  have h6 := hw.2.1.1
  refine gg_tight h6 ?_
  refine va_callv (A1 := A) (va_runI (As := As) (rest := rest) ⟨hx, hb, hml, hown, hts⟩ hM (cwI As.length hts (gi_I hG) rfl rfl rfl (hts _ hini) (hts _ hlk) (hts _ him) hy1 hd ⟨Nat.le_trans hF hF0, Nat.le_trans hL hL0⟩) ⟨fun a U g mk q => ⟨q.1, q.2.call⟩, fun U hU hW => ⟨rfl, gP_of hC hw hU hW⟩⟩ rfl rfl hsz rfl (lv_room h8) hdg ⟨by omega, by omega⟩) hw.2.1 (fun q _ h => h) (fun q h => h) (fun u t H1 locs1 ht hvm hp hB hz hk hS => ?_)
  obtain ⟨rfl, hle⟩ := hp
  exact kk H1 locs1 _ _ ⟨by rw [← ht]; exact hB, hS, Nat.le_trans h5 hle⟩
end GC
