/-! methods that may throw, and those with a table: entries, calls, catching -/
theorem gB.garb {E : gE} {D : va_G} {A : Nat → Prop} {σ : gS} {H H1 : Heap} {n : Nat} (h : gB E D A σ H) (hK : σ.2.1 + 1 ≤ gK E) (hM : σ.2.2 + n ≤ gM E) (z : H1.size = H.size + 1) (oq : ∀ q : Nat, q < H.size → H1[q]? = H[q]?) (hn : gsum H1 = gsum H + n) : gB E D A (σ.1, σ.2.1 + 1, σ.2.2 + n) H1 := by
  obtain ⟨h1, h2, h3, h4, h5⟩ := h
  exact ⟨by rw [z, h1], by rw [hn, h2], hK, hM, fun b hb => ⟨(h5 b hb).1.kept (oq b (h5 b hb).1.lt), (h5 b hb).2⟩⟩
def gtry {α β : Type} (v : (Nat ⊕ α) × gS) (fk : Nat → gS → Option β) (fx : α → gS → Option β) : Option β := match v.1 with
  | .inl k => fk k v.2
  | .inr x => fx x v.2
/-- the words of throwing exception k in the class own -/
def gTw (own : String) (k ik ic : Nat) : Prop := Cond.classLink own ik (gEx k) ∈ lwG ∧ Cond.initialized (gEx k) ∈ lwG ∧ (∀ w ∈ vx_atS own ic (gEx k) gExN, w ∈ lwG ∨ w ∈ lwC) ∧ Bundle.fit (gEx k) = true
section GY
variable {p : Program} {l : Launch} {e : Env} {R : Room} {s : State} {m : MethodId} {args : Array Value} {below : List Frame} {meth : Method} {c : Code} {H : Heap} {locs : List Loc} {cells slots : Nat} {Q : State → Prop}
  {E : gE} {D : va_G} {A : Nat → Prop} {cc : ByteArray} {nL F L : Nat} {own nm : String} {pc : Nat} {ls : Array Slot} {rest : List Value} {σ σ' : gS}
theorem gx_tight {g : JFrame} {q : Nat} (hS : s.heap.size ≤ H.size) (kk : vx_W p l e R s m args below meth c H locs (H.size - s.heap.size) (gsum H - gsum s.heap) Q g q) : vx_W p l e R s m args below meth c H locs cells slots Q g q := by
  intro T hT X
  refine kk T hT ?_
  obtain ⟨h1, h2, h3, h4, h5, h6⟩ := X.same
  have hh : (T.setVm s.vm).heap = H := hT
  have ht := gsum_take (H := H) (H0 := s.heap) hS (fun q c0 hq => by
    obtain ⟨c', g1, -, g3, -⟩ := h6 q c0 hq
    exact ⟨c', by rw [← hh]; exact g1, g3⟩)
  refine { X with same := ⟨h1, h2, ?_, h4, ?_, h6⟩ }
  · rw [hh]; omega
  · rw [hh]
    have : gsum H - gsum s.heap = ((H.toList.drop s.heap.size).map (fun c => c.slots.size)).sum := by omega
    rw [this]
    exact Nat.le_refl _
/-- what a frame owes where it makes and throws exception k -/
abbrev gTN (E : gE) (D : va_G) (A : Nat → Prop) (p : Program) (l : Launch) (e : Env) (R : Room) (s : State) (m : MethodId) (args : Array Value) (below : List Frame) (meth : Method) (c : Code) (Q : State → Prop) (cc : ByteArray) (nL : Nat) (own : String) (k : Nat) (σ1 : gS) : Prop :=
  (∀ (pc ik is ic n : Nat) (q : String × Nat × String × Nat) (ls : Array Slot) (H : Heap) (locs : List Loc) (cells slots : Nat) (σ0 : gS), gthr E σ0 = some σ1 → gW E D A s σ0 H locs → ls.size = nL → gTw own k ik ic → gStr[n]? = some q → q.1 = own → q.2.1 = is →
    decode cc pc = .ok (.new ik, 3) → decode cc (pc + 3) = .ok (.dup, 1) → decode cc (pc + 4) = .ok (.ldc is, 2) → decode cc (pc + 6) = .ok (.invokespecial ic, 3) → decode cc (pc + 9) = .ok (.athrow, 1) → W p l e R s m args below meth c H locs cells slots Q (F0 m pc ls [])) ∧
  (∀ (pc ik is ic n : Nat) (q : String × Nat × String × Nat) (ls : Array Slot) (H : Heap) (locs : List Loc) (cells slots : Nat) (σ0 : gS), gthr E σ0 = some σ1 → gW E D A s σ0 H locs → ls.size = nL → gTw own k ik ic → gStr[n]? = some q → q.1 = own → q.2.1 = is →
    decode cc pc = .ok (.new ik, 3) → decode cc (pc + 3) = .ok (.dup, 1) → decode cc (pc + 4) = .ok (.ldc_w is, 3) → decode cc (pc + 7) = .ok (.invokespecial ic, 3) → decode cc (pc + 10) = .ok (.athrow, 1) → W p l e R s m args below meth c H locs cells slots Q (F0 m pc ls [])) ∧
  ∀ (pc : Nat) (ls : Array Slot) (rest : List Value), gQX E D A p l e R s m args below meth c Q pc ls rest k σ1
theorem gTN_of {α : Type} {res : (Nat ⊕ α) × gS} {Qc : Array Value → State → Outcome → State → Prop} (hst : l.stackTraces = false) (hC : gC E D A p R s m args meth c cc nL own nm F L) (hR : R = gR E F L σ) (hF : 6 ≤ F) (hL : 90 ≤ L) (hsl : s.heap.size = σ.2.1) (hss : gsum s.heap = σ.2.2) (hout : ∀ x ∈ c.exceptionTable.toList, False) (hlk : meth.locks = false) {k : Nat} {σ1 : gS} (he : res = (.inl k, σ1)) :
    gTN E D A p l e R s m args below meth c (vx_MQ below Qc (gXC E D A σ res) args s (gK E - σ.2.1) (gM E - σ.2.2) A) cc nL own k σ1 := by
  subst he
  have hC0 := hC
  obtain ⟨hx, hb, hml, hown, hts, hK, hA, hX, hnm, hF0, hL0, hRc, hRs⟩ := hC0
  have hX6 := hX.2.2.2.2.2.1
  have hX7 := hX.2.2.2.2.2.2.1
  have hno : ∀ n : Nat, ∀ x ∈ c.exceptionTable.toList, covers x n = false := fun n x hx => (hout x hx).elim
  have hR1 : R.frames = F := by rw [hR]; rfl
  have hR2 : R.locals = L := by rw [hR]; rfl
  have hR3 : R.cells = gK E - σ.2.1 := by rw [hR]; rfl
  have hR4 : R.slots = gM E - σ.2.2 := by rw [hR]; rfl
  have key : ∀ (σ0 : gS) (H : Heap) (locs : List Loc), gthr E σ0 = some σ1 → gW E D A s σ0 H locs → ∀ t : State, s.vm.Alike t.vm → t.heap.size = H.size + 1 → (∀ q : Nat, q < H.size → t.heap[q]? = H[q]?) → (∃ ce : Cell, t.heap[H.size]? = some ce ∧ ce.slots.size = 6) → gXC E D A σ ((.inl k, σ1) : (Nat ⊕ α) × gS) (gEx k) s t := by
    intro σ0 H locs ht hw t hv hz hq hce
    obtain ⟨g1, g2, rfl⟩ := gthr_some ht
    obtain ⟨ce, hc1, hc2⟩ := hce
    have h5 := hw.2.2
    refine ⟨_, ⟨rfl, by show σ.2.2 ≤ σ0.2.2 + 6; omega⟩, ⟨⟨k, rfl, rfl⟩, hw.1.garb g1 g2 hz hq (by rw [gsum_push hz hq hc1, hc2])⟩, ⟨Nat.le_trans hw.2.1.1 (by omega), fun q h1 h2 => (hq q (Nat.lt_of_lt_of_le h1 hw.2.1.1)).trans (hw.2.1.2.1 q h1 h2)⟩⟩
  have num : ∀ (σ0 : gS) (H : Heap) (locs : List Loc), gthr E σ0 = some σ1 → gW E D A s σ0 H locs → H.size - s.heap.size + 1 ≤ gK E - σ.2.1 ∧ gsum H - gsum s.heap + 6 ≤ gM E - σ.2.2 := by
    intro σ0 H locs ht hw
    obtain ⟨g1, g2, rfl⟩ := gthr_some ht
    have h1 := hw.1.1
    have h2 := hw.1.2.1
    have h3 := hw.2.1.1
    have h5 := hw.2.2
    omega
  refine ⟨?_, ?_, ?_⟩
  · intro pc ik is ic n q ls H locs cells slots σ0 ht hw hsz htw hq hq1 hq2 d0 d3 d4 d6 d9
    subst hq1
    subst hq2
    obtain ⟨w1, w2, w3, w4⟩ := htw
    obtain ⟨n1, n2⟩ := num σ0 H locs ht hw
    refine gg_tight hw.2.1.1 ?_
    exact gg_throwS (names := gExN) hx hb hst hown w4 (by decide +kernel) (hts _ w1) (hts _ w2) (hX.2.2.1 q (List.mem_of_getElem? hq)) (fun w hw => (w3 w hw).elim (fun h => hts _ h) (fun h => va_Nw.use (lwC_ot w h) (hX.2.2.2.2.2.2.2.2 w h)))
      (fun w hw => by
        rcases List.mem_cons.mp hw with rfl | hw
        · exact Bool.or_eq_true_iff.mpr (Or.inr (lwG_good w1))
        · rcases List.mem_cons.mp hw with rfl | hw
          · exact Bool.or_eq_true_iff.mpr (Or.inr (lwG_good w2))
          · exact (w3 w hw).elim (fun h => Bool.or_eq_true_iff.mpr (Or.inr (lwG_good h))) (fun h => Bool.or_eq_true_iff.mpr (Or.inl (lwC_ot w h))))
      hX6 hX7 hw.2.1 (by rw [hsz, hml]) d0 d3 d4 d6 d9 (hno _) (by rw [hR1]; show 2 + 3 < F; omega) (by rw [hR2]; show 0 + (13 * 3 + 43) ≤ L; omega) (by rw [hR3]; omega) (by rw [hR4]; omega) hlk (key σ0 H locs ht hw) hw.2.1.2.2 (by omega) (by omega)
  · intro pc ik is ic n q ls H locs cells slots σ0 ht hw hsz htw hq hq1 hq2 d0 d3 d4 d6 d9
    subst hq1
    subst hq2
    obtain ⟨w1, w2, w3, w4⟩ := htw
    obtain ⟨n1, n2⟩ := num σ0 H locs ht hw
    refine gg_tight hw.2.1.1 ?_
    exact gg_throwSW (names := gExN) hx hb hst hown w4 (by decide +kernel) (hts _ w1) (hts _ w2) (hX.2.2.1 q (List.mem_of_getElem? hq)) (fun w hw => (w3 w hw).elim (fun h => hts _ h) (fun h => va_Nw.use (lwC_ot w h) (hX.2.2.2.2.2.2.2.2 w h)))
      (fun w hw => by
        rcases List.mem_cons.mp hw with rfl | hw
        · exact Bool.or_eq_true_iff.mpr (Or.inr (lwG_good w1))
        · rcases List.mem_cons.mp hw with rfl | hw
          · exact Bool.or_eq_true_iff.mpr (Or.inr (lwG_good w2))
          · exact (w3 w hw).elim (fun h => Bool.or_eq_true_iff.mpr (Or.inr (lwG_good h))) (fun h => Bool.or_eq_true_iff.mpr (Or.inl (lwC_ot w h))))
      hX6 hX7 hw.2.1 (by rw [hsz, hml]) d0 d3 d4 d6 d9 (hno _) (by rw [hR1]; show 2 + 3 < F; omega) (by rw [hR2]; show 0 + (13 * 3 + 43) ≤ L; omega) (by rw [hR3]; omega) (by rw [hR4]; omega) hlk (key σ0 H locs ht hw) hw.2.1.2.2 (by omega) (by omega)
  · intro pc ls rest H locs cells slots q ce hw hce hv hcl
    have h1 := hw.1.1
    have h2 := hw.1.2.1
    have h3 := hw.1.2.2.1
    have h4 := hw.1.2.2.2.1
    have h5 := hw.2.2
    have h6 := hw.2.1.1
    refine gx_tight hw.2.1.1 ?_
    exact vx_out (hno _) hlk hce hv hcl (fun t ht hv => ⟨_, ⟨rfl, by show σ.2.2 ≤ σ1.2.2; omega⟩, ⟨⟨k, rfl, rfl⟩, by show gB E D A σ1 t.heap; rw [ht]; exact hw.1⟩, hw.2.1.F ht⟩) hw.2.1.2.2 (by omega) (by omega)
end GY
theorem gg_entYI {l : Launch} {E : gE} {D : va_G} {A : Nat → Prop} {y : MethodName} {b : ByteArray} {nL F L : Nat} {rt : Option FieldType} {av : List Value} {σ : gS} {res : (Nat ⊕ Int32) × gS} {own nm : String} (hst : l.stackTraces = false) (hF6 : 6 ≤ F) (hL9 : 90 ≤ L) (hy : plainName y.cls = true) (ho : y.cls = own) (hn : y.name = nm) (hav : (lg_sl av).length ≤ nL) {ty : FieldType} (hr : rt = some ty)
    (body : ∀ (p : Program) (e : Env) (R : Room) (s : State) (m : MethodId) (args : Array Value) (below : List Frame) (meth : Method) (c : Code) (Q : State → Prop) (ls : Array Slot), gC E D A p R s m args meth c b nL own nm F L → gW E D A s σ s.heap [] → (∀ (r : Int32) (σ1 : gS), res = (.inr r, σ1) → gQI E D A p l e R s m args below meth c Q b ty (r, σ1)) → (∀ (k : Nat) (σ1 : gS), res = (.inl k, σ1) → gTN E D A p l e R s m args below meth c Q b nL own k σ1) →
      lv_has ls nL (lv_args 0 av) → W p l e R s m args below meth c s.heap [] 0 0 Q (F0 m 0 ls [])) : gYI l E D A y (Cond.code y b nL rt) F L av σ res := by
  subst ho
  subst hn
  refine vx_ofW (cc := b) (maxL := nL) (ret := rt) hy rfl ?_
  intro p e s m args below meth c s₁ B hml hout hv
  obtain ⟨rfl, hB, hK, hA, hX⟩ := hv
  have hts := atoms_spec (ws := (Cond.code y b nL rt) :: lwG) B.pre
  have hsz := hB.1
  have hsl := hB.2.1
  have hlk := B.notSynchronized
  rw [lg_entry_eq]
  have hC : gC E D A p (gR E F L σ) s m (av.toArray) meth c b nL y.cls y.name F L := ⟨B.exec, B.bytes, hml, findClass_of_methodNamed B.named, fun w hw => hts w (List.mem_cons_of_mem _ hw), hK, hA, hX, (name_of_methodNamed B.named B.method).1, Nat.le_refl _, Nat.le_refl _, by show gK E ≤ gK E - σ.2.1 + s.heap.size; omega, by show gM E ≤ gM E - σ.2.2 + gsum s.heap; omega⟩
  refine body p e _ s m _ below meth c _ _ hC ⟨hB, va_S.rf, Nat.le_of_eq hsl⟩ ?_ (fun k σ1 he => gTN_of hst hC rfl hF6 hL9 hsz hsl hout hlk he) (lv_entry av hav)
  intro r σ1 he pc ls H locs cells slots hd hnar hw
  subst he
  have h1 := hw.1.1
  have h2 := hw.1.2.1
  have h3 := hw.1.2.2.1
  have h4 := hw.1.2.2.2.1
  have h5 := hw.2.2
  have hs1 : gsum s.heap ≤ σ1.2.2 := h5
  have hk1 : σ1.2.1 ≤ gK E := h3
  have hm1 : σ1.2.2 ≤ gM E := h4
  have hz1 : H.size = σ1.2.1 := h1
  have hy1 : gsum H = σ1.2.2 := h2
  refine vx_ret ?_
  refine gg_tight hw.2.1.1 ?_
  refine W.widen (k := gK E - σ.2.1) (n := gM E - σ.2.2) (by omega) (by omega) ?_
  exact W.zret (ty := ty) B.exec B.bytes (by rw [← hr]; exact B.returns) hnar (fun t ht hW => ⟨⟨r, σ1, rfl, ⟨rfl, rfl, by show σ.2.2 ≤ σ1.2.2; omega⟩, by show gB E D A _ t.heap; rw [ht]; exact hw.1⟩, hw.2.1.F ht⟩) hw.2.1.2.2 hd hlk
theorem gg_entHI {l : Launch} {E : gE} {D : va_G} {A : Nat → Prop} {y : MethodName} {b : ByteArray} {nL F L : Nat} {rt : Option FieldType} {hh : List (Nat × Nat × Nat × Nat)} {av : List Value} {σ : gS} {res : (Nat ⊕ Int32) × gS} {own nm : String} (hy : plainName y.cls = true) (ho : y.cls = own) (hn : y.name = nm) (hav : (lg_sl av).length ≤ nL) {ty : FieldType} (hr : rt = some ty)
    (body : ∀ (p : Program) (e : Env) (R : Room) (s : State) (m : MethodId) (args : Array Value) (below : List Frame) (meth : Method) (c : Code) (Q : State → Prop) (ls : Array Slot), gC E D A p R s m args meth c b nL own nm F L → gW E D A s σ s.heap [] → (∀ (r : Int32) (σ1 : gS), res = (.inr r, σ1) → gQI E D A p l e R s m args below meth c Q b ty (r, σ1)) → c.exceptionTable.toList = tableOf hh →
      lv_has ls nL (lv_args 0 av) → W p l e R s m args below meth c s.heap [] 0 0 Q (F0 m 0 ls [])) : gYI l E D A y (Cond.codeWith y b nL rt hh) F L av σ res := by
  subst ho
  subst hn
  refine vx_ofWH (cc := b) (maxL := nL) (ret := rt) hy rfl ?_
  intro p e s m args below meth c s₁ B hml hv
  obtain ⟨rfl, hB, hK, hA, hX⟩ := hv
  have hts := atoms_spec (ws := (Cond.codeWith y b nL rt hh) :: lwG) B.pre
  have hsz := hB.1
  have hsl := hB.2.1
  have hlk := B.notSynchronized
  rw [lg_entry_eq]
  have hC : gC E D A p (gR E F L σ) s m (av.toArray) meth c b nL y.cls y.name F L := ⟨B.exec, B.bytes, hml, findClass_of_methodNamed B.named, fun w hw => hts w (List.mem_cons_of_mem _ hw), hK, hA, hX, (name_of_methodNamed B.named B.method).1, Nat.le_refl _, Nat.le_refl _, by show gK E ≤ gK E - σ.2.1 + s.heap.size; omega, by show gM E ≤ gM E - σ.2.2 + gsum s.heap; omega⟩
  refine body p e _ s m _ below meth c _ _ hC ⟨hB, va_S.rf, Nat.le_of_eq hsl⟩ ?_ (vx_table (x := y) B (hts _ List.mem_cons_self)) (lv_entry av hav)
  intro r σ1 he pc ls H locs cells slots hd hnar hw
  subst he
  have h1 := hw.1.1
  have h2 := hw.1.2.1
  have h3 := hw.1.2.2.1
  have h4 := hw.1.2.2.2.1
  have h5 := hw.2.2
  have hs1 : gsum s.heap ≤ σ1.2.2 := h5
  have hk1 : σ1.2.1 ≤ gK E := h3
  have hm1 : σ1.2.2 ≤ gM E := h4
  have hz1 : H.size = σ1.2.1 := h1
  have hy1 : gsum H = σ1.2.2 := h2
  refine vx_ret ?_
  refine gg_tight hw.2.1.1 ?_
  refine W.widen (k := gK E - σ.2.1) (n := gM E - σ.2.2) (by omega) (by omega) ?_
  exact W.zret (ty := ty) B.exec B.bytes (by rw [← hr]; exact B.returns) hnar (fun t ht hW => ⟨⟨r, σ1, rfl, ⟨rfl, rfl, by show σ.2.2 ≤ σ1.2.2; omega⟩, by show gB E D A _ t.heap; rw [ht]; exact hw.1⟩, hw.2.1.F ht⟩) hw.2.1.2.2 hd hlk
theorem gg_entYJ {l : Launch} {E : gE} {D : va_G} {A : Nat → Prop} {y : MethodName} {b : ByteArray} {nL F L : Nat} {rt : Option FieldType} {av : List Value} {σ : gS} {res : (Nat ⊕ Int64) × gS} {own nm : String} (hst : l.stackTraces = false) (hF6 : 6 ≤ F) (hL9 : 90 ≤ L) (hy : plainName y.cls = true) (ho : y.cls = own) (hn : y.name = nm) (hav : (lg_sl av).length ≤ nL) (hr : rt = some .long)
    (body : ∀ (p : Program) (e : Env) (R : Room) (s : State) (m : MethodId) (args : Array Value) (below : List Frame) (meth : Method) (c : Code) (Q : State → Prop) (ls : Array Slot), gC E D A p R s m args meth c b nL own nm F L → gW E D A s σ s.heap [] → (∀ (r : Int64) (σ1 : gS), res = (.inr r, σ1) → gQJ E D A p l e R s m args below meth c Q b (r, σ1)) → (∀ (k : Nat) (σ1 : gS), res = (.inl k, σ1) → gTN E D A p l e R s m args below meth c Q b nL own k σ1) →
      lv_has ls nL (lv_args 0 av) → W p l e R s m args below meth c s.heap [] 0 0 Q (F0 m 0 ls [])) : gYJ l E D A y (Cond.code y b nL rt) F L av σ res := by
  subst ho
  subst hn
  refine vx_ofW (cc := b) (maxL := nL) (ret := rt) hy rfl ?_
  intro p e s m args below meth c s₁ B hml hout hv
  obtain ⟨rfl, hB, hK, hA, hX⟩ := hv
  have hts := atoms_spec (ws := (Cond.code y b nL rt) :: lwG) B.pre
  have hsz := hB.1
  have hsl := hB.2.1
  have hlk := B.notSynchronized
  rw [lg_entry_eq]
  have hC : gC E D A p (gR E F L σ) s m (av.toArray) meth c b nL y.cls y.name F L := ⟨B.exec, B.bytes, hml, findClass_of_methodNamed B.named, fun w hw => hts w (List.mem_cons_of_mem _ hw), hK, hA, hX, (name_of_methodNamed B.named B.method).1, Nat.le_refl _, Nat.le_refl _, by show gK E ≤ gK E - σ.2.1 + s.heap.size; omega, by show gM E ≤ gM E - σ.2.2 + gsum s.heap; omega⟩
  refine body p e _ s m _ below meth c _ _ hC ⟨hB, va_S.rf, Nat.le_of_eq hsl⟩ ?_ (fun k σ1 he => gTN_of hst hC rfl hF6 hL9 hsz hsl hout hlk he) (lv_entry av hav)
  intro r σ1 he pc ls H locs cells slots hd hw
  subst he
  have h1 := hw.1.1
  have h2 := hw.1.2.1
  have h3 := hw.1.2.2.1
  have h4 := hw.1.2.2.2.1
  have h5 := hw.2.2
  have hs1 : gsum s.heap ≤ σ1.2.2 := h5
  have hk1 : σ1.2.1 ≤ gK E := h3
  have hm1 : σ1.2.2 ≤ gM E := h4
  have hz1 : H.size = σ1.2.1 := h1
  have hy1 : gsum H = σ1.2.2 := h2
  refine vx_ret ?_
  refine gg_tight hw.2.1.1 ?_
  refine W.widen (k := gK E - σ.2.1) (n := gM E - σ.2.2) (by omega) (by omega) ?_
  exact W.lret B.exec B.bytes (by rw [← hr]; exact B.returns) (fun t ht hW => ⟨⟨r, σ1, rfl, ⟨rfl, rfl, by show σ.2.2 ≤ σ1.2.2; omega⟩, by show gB E D A _ t.heap; rw [ht]; exact hw.1⟩, hw.2.1.F ht⟩) hw.2.1.2.2 hd hlk
theorem gg_entYD {l : Launch} {E : gE} {D : va_G} {A : Nat → Prop} {y : MethodName} {b : ByteArray} {nL F L : Nat} {rt : Option FieldType} {av : List Value} {σ : gS} {res : (Nat ⊕ UInt64) × gS} {own nm : String} (hst : l.stackTraces = false) (hF6 : 6 ≤ F) (hL9 : 90 ≤ L) (hy : plainName y.cls = true) (ho : y.cls = own) (hn : y.name = nm) (hav : (lg_sl av).length ≤ nL) (hr : rt = some .double)
    (body : ∀ (p : Program) (e : Env) (R : Room) (s : State) (m : MethodId) (args : Array Value) (below : List Frame) (meth : Method) (c : Code) (Q : State → Prop) (ls : Array Slot), gC E D A p R s m args meth c b nL own nm F L → gW E D A s σ s.heap [] → (∀ (r : UInt64) (σ1 : gS), res = (.inr r, σ1) → gQD E D A p l e R s m args below meth c Q b (r, σ1)) → (∀ (k : Nat) (σ1 : gS), res = (.inl k, σ1) → gTN E D A p l e R s m args below meth c Q b nL own k σ1) →
      lv_has ls nL (lv_args 0 av) → W p l e R s m args below meth c s.heap [] 0 0 Q (F0 m 0 ls [])) : gYD l E D A y (Cond.code y b nL rt) F L av σ res := by
  subst ho
  subst hn
  refine vx_ofW (cc := b) (maxL := nL) (ret := rt) hy rfl ?_
  intro p e s m args below meth c s₁ B hml hout hv
  obtain ⟨rfl, hB, hK, hA, hX⟩ := hv
  have hts := atoms_spec (ws := (Cond.code y b nL rt) :: lwG) B.pre
  have hsz := hB.1
  have hsl := hB.2.1
  have hlk := B.notSynchronized
  rw [lg_entry_eq]
  have hC : gC E D A p (gR E F L σ) s m (av.toArray) meth c b nL y.cls y.name F L := ⟨B.exec, B.bytes, hml, findClass_of_methodNamed B.named, fun w hw => hts w (List.mem_cons_of_mem _ hw), hK, hA, hX, (name_of_methodNamed B.named B.method).1, Nat.le_refl _, Nat.le_refl _, by show gK E ≤ gK E - σ.2.1 + s.heap.size; omega, by show gM E ≤ gM E - σ.2.2 + gsum s.heap; omega⟩
  refine body p e _ s m _ below meth c _ _ hC ⟨hB, va_S.rf, Nat.le_of_eq hsl⟩ ?_ (fun k σ1 he => gTN_of hst hC rfl hF6 hL9 hsz hsl hout hlk he) (lv_entry av hav)
  intro r σ1 he pc ls H locs cells slots hd hw
  subst he
  have h1 := hw.1.1
  have h2 := hw.1.2.1
  have h3 := hw.1.2.2.1
  have h4 := hw.1.2.2.2.1
  have h5 := hw.2.2
  have hs1 : gsum s.heap ≤ σ1.2.2 := h5
  have hk1 : σ1.2.1 ≤ gK E := h3
  have hm1 : σ1.2.2 ≤ gM E := h4
  have hz1 : H.size = σ1.2.1 := h1
  have hy1 : gsum H = σ1.2.2 := h2
  refine vx_ret ?_
  refine gg_tight hw.2.1.1 ?_
  refine W.widen (k := gK E - σ.2.1) (n := gM E - σ.2.2) (by omega) (by omega) ?_
  exact W.dret B.exec B.bytes (by rw [← hr]; exact B.returns) (fun t ht hW => ⟨⟨r, σ1, rfl, ⟨rfl, rfl, by show σ.2.2 ≤ σ1.2.2; omega⟩, by show gB E D A _ t.heap; rw [ht]; exact hw.1⟩, hw.2.1.F ht⟩) hw.2.1.2.2 hd hlk
theorem gg_entYV {l : Launch} {E : gE} {D : va_G} {A : Nat → Prop} {y : MethodName} {b : ByteArray} {nL F L : Nat} {rt : Option FieldType} {av : List Value} {σ : gS} {res : (Nat ⊕ Unit) × gS} {own nm : String} (hst : l.stackTraces = false) (hF6 : 6 ≤ F) (hL9 : 90 ≤ L) (hy : plainName y.cls = true) (ho : y.cls = own) (hn : y.name = nm) (hav : (lg_sl av).length ≤ nL) (hr : rt = none)
    (body : ∀ (p : Program) (e : Env) (R : Room) (s : State) (m : MethodId) (args : Array Value) (below : List Frame) (meth : Method) (c : Code) (Q : State → Prop) (ls : Array Slot), gC E D A p R s m args meth c b nL own nm F L → gW E D A s σ s.heap [] → (∀ (σ1 : gS), res = (.inr (), σ1) → gQV E D A p l e R s m args below meth c Q b σ1) → (∀ (k : Nat) (σ1 : gS), res = (.inl k, σ1) → gTN E D A p l e R s m args below meth c Q b nL own k σ1) →
      lv_has ls nL (lv_args 0 av) → W p l e R s m args below meth c s.heap [] 0 0 Q (F0 m 0 ls [])) : gYV l E D A y (Cond.code y b nL rt) F L av σ res := by
  subst ho
  subst hn
  refine vx_ofW (cc := b) (maxL := nL) (ret := rt) hy rfl ?_
  intro p e s m args below meth c s₁ B hml hout hv
  obtain ⟨rfl, hB, hK, hA, hX⟩ := hv
  have hts := atoms_spec (ws := (Cond.code y b nL rt) :: lwG) B.pre
  have hsz := hB.1
  have hsl := hB.2.1
  have hlk := B.notSynchronized
  rw [lg_entry_eq]
  have hC : gC E D A p (gR E F L σ) s m (av.toArray) meth c b nL y.cls y.name F L := ⟨B.exec, B.bytes, hml, findClass_of_methodNamed B.named, fun w hw => hts w (List.mem_cons_of_mem _ hw), hK, hA, hX, (name_of_methodNamed B.named B.method).1, Nat.le_refl _, Nat.le_refl _, by show gK E ≤ gK E - σ.2.1 + s.heap.size; omega, by show gM E ≤ gM E - σ.2.2 + gsum s.heap; omega⟩
  refine body p e _ s m _ below meth c _ _ hC ⟨hB, va_S.rf, Nat.le_of_eq hsl⟩ ?_ (fun k σ1 he => gTN_of hst hC rfl hF6 hL9 hsz hsl hout hlk he) (lv_entry av hav)
  intro σ1 he pc ls H locs cells slots hd hw
  subst he
  have h1 := hw.1.1
  have h2 := hw.1.2.1
  have h3 := hw.1.2.2.1
  have h4 := hw.1.2.2.2.1
  have h5 := hw.2.2
  have hs1 : gsum s.heap ≤ σ1.2.2 := h5
  have hk1 : σ1.2.1 ≤ gK E := h3
  have hm1 : σ1.2.2 ≤ gM E := h4
  have hz1 : H.size = σ1.2.1 := h1
  have hy1 : gsum H = σ1.2.2 := h2
  refine vx_ret ?_
  refine gg_tight hw.2.1.1 ?_
  refine W.widen (k := gK E - σ.2.1) (n := gM E - σ.2.2) (by omega) (by omega) ?_
  exact W.vret B.exec B.bytes (by rw [← hr]; exact B.returns) (fun t ht hW => ⟨⟨σ1, rfl, ⟨rfl, rfl, by show σ.2.2 ≤ σ1.2.2; omega⟩, by show gB E D A _ t.heap; rw [ht]; exact hw.1⟩, hw.2.1.F ht⟩) hw.2.1.2.2 hd hlk
section GZ
variable {p : Program} {l : Launch} {e : Env} {R : Room} {s : State} {m : MethodId} {args : Array Value} {below : List Frame} {meth : Method} {c : Code} {H : Heap} {locs : List Loc} {cells slots : Nat} {Q : State → Prop}
  {E : gE} {D : va_G} {A : Nat → Prop} {cc : ByteArray} {nL F L : Nat} {own nm : String} {pc : Nat} {ls : Array Slot} {rest : List Value} {σ σ' : gS}
theorem gg_yVI {y : MethodName} {b : ByteArray} {nLy F1 L1 idx : Nat} {rt : Option FieldType} {As st : List Value} {res : (Nat ⊕ Int32) × gS} {a ci N : Nat} {u : Unit} {C : String} {T : u_T} (hC : gC E D A p R s m args meth c cc nL own nm F L) (hw : gW E D A s σ H locs) (hM : gYI l E D A y (Cond.code y b nLy rt) F1 L1 (.ref a :: As) σ res) (hcl : gcl σ a ci = some u) (hc : vwCl[ci]? = some (C, T, N)) (hG : GoodIn lwG (wsV own idx C y ((Cond.code y b nLy rt) :: lwG)))
    (hd : y.cls = C ∧ y.cls ≠ "java/lang/invoke/MethodHandle" ∧ y.cls ≠ "java/lang/invoke/VarHandle" ∧ (parseMethodDescriptor y.desc).map (fun d => d.parameters.length) = some As.length) (hF : F1 + 1 ≤ F) (hL : 8 + (nLy + 11) + L1 ≤ L) (hsz : ls.size = nL) (hst : st = As.reverse ++ .ref a :: rest) (h8 : (rest.map fun v => v.category).sum ≤ 8) (hdg : decode cc pc = .ok (.invokevirtual idx, 3))
    (kx : ∀ (k : Nat) (σ1 : gS), res = (.inl k, σ1) → gQX E D A p l e R s m args below meth c Q pc ls rest k σ1)
    (kk : ∀ (r : Int32) (σ1 : gS), res = (.inr r, σ1) → ∀ (H : Heap) (locs : List Loc) (cells slots : Nat), gW E D A s σ1 H locs → W p l e R s m args below meth c H locs cells slots Q (F0 m (pc + 3) ls (.int r :: rest))) : W p l e R s m args below meth c H locs cells slots Q (F0 m pc ls st) := by
  have hC0 := hC
  obtain ⟨hx, hb, hml, hown, hts, hK, hA, hX, hnm, hF0, hL0, hRc, hRs⟩ := hC0
  obtain ⟨fs, ha⟩ := gcl_some hcl
  have hP := hw.1.one ha (gDead_inr hc)
  subst hst
  have h1 := hw.1.1
  have h2 := hw.1.2.1
  have h3 := hw.1.2.2.1
  have h4 := hw.1.2.2.2.1
  have h5 := hw.2.2
  have h6 := hw.2.1.1
  refine gg_tight h6 ?_
  refine vx_calli (A1 := A) (AX := A) (vx_runV (As := As) (rest := rest) ⟨hx, hb, hml, hown, hts⟩ hM (cwV As.length hts hG rfl rfl rfl hd ⟨Nat.le_trans hF hF0, Nat.le_trans hL hL0⟩) ⟨fun a U g mk q => ⟨q.1, q.2.call⟩, va_recv hK hP hc (q0 := 0) rfl, fun U hU hW => ⟨rfl, gP_of hC hw hU hW⟩⟩ rfl rfl hsz rfl (lv_room h8) hdg ⟨by omega, by omega⟩) hw.2.1 (fun q _ h => h) (fun q h => h) (fun q _ h => h) (fun En ce q9 u t H1 locs1 ht hvm hp hB hz hk hS hce hv hcl => ?_) (fun r u t H1 locs1 ht hvm hp hB hz hk hS => ?_)
  · obtain ⟨hu, hle⟩ := hp
    obtain ⟨⟨k, hk1, hk2⟩, hB2⟩ := hB
    subst hu
    subst hk2
    exact kx k res.2 (Prod.ext hk1 rfl) H1 locs1 _ _ q9 ce ⟨by rw [← ht]; exact hB2, hS, Nat.le_trans h5 hle⟩ hce hv hcl
  · obtain ⟨hr, hu, hle⟩ := hp
    subst hu
    exact kk r res.2 (Prod.ext hr rfl) H1 locs1 _ _ ⟨by rw [← ht]; exact hB, hS, Nat.le_trans h5 hle⟩
theorem gg_yVJ {y : MethodName} {b : ByteArray} {nLy F1 L1 idx : Nat} {rt : Option FieldType} {As st : List Value} {res : (Nat ⊕ Int64) × gS} {a ci N : Nat} {u : Unit} {C : String} {T : u_T} (hC : gC E D A p R s m args meth c cc nL own nm F L) (hw : gW E D A s σ H locs) (hM : gYJ l E D A y (Cond.code y b nLy rt) F1 L1 (.ref a :: As) σ res) (hcl : gcl σ a ci = some u) (hc : vwCl[ci]? = some (C, T, N)) (hG : GoodIn lwG (wsV own idx C y ((Cond.code y b nLy rt) :: lwG)))
    (hd : y.cls = C ∧ y.cls ≠ "java/lang/invoke/MethodHandle" ∧ y.cls ≠ "java/lang/invoke/VarHandle" ∧ (parseMethodDescriptor y.desc).map (fun d => d.parameters.length) = some As.length) (hF : F1 + 1 ≤ F) (hL : 8 + (nLy + 11) + L1 ≤ L) (hsz : ls.size = nL) (hst : st = As.reverse ++ .ref a :: rest) (h8 : (rest.map fun v => v.category).sum ≤ 8) (hdg : decode cc pc = .ok (.invokevirtual idx, 3))
    (kx : ∀ (k : Nat) (σ1 : gS), res = (.inl k, σ1) → gQX E D A p l e R s m args below meth c Q pc ls rest k σ1)
    (kk : ∀ (r : Int64) (σ1 : gS), res = (.inr r, σ1) → ∀ (H : Heap) (locs : List Loc) (cells slots : Nat), gW E D A s σ1 H locs → W p l e R s m args below meth c H locs cells slots Q (F0 m (pc + 3) ls (.long r :: rest))) : W p l e R s m args below meth c H locs cells slots Q (F0 m pc ls st) := by
  have hC0 := hC
  obtain ⟨hx, hb, hml, hown, hts, hK, hA, hX, hnm, hF0, hL0, hRc, hRs⟩ := hC0
  obtain ⟨fs, ha⟩ := gcl_some hcl
  have hP := hw.1.one ha (gDead_inr hc)
  subst hst
  have h1 := hw.1.1
  have h2 := hw.1.2.1
  have h3 := hw.1.2.2.1
  have h4 := hw.1.2.2.2.1
  have h5 := hw.2.2
  have h6 := hw.2.1.1
  refine gg_tight h6 ?_
  refine vx_calll (A1 := A) (AX := A) (vx_runV (As := As) (rest := rest) ⟨hx, hb, hml, hown, hts⟩ hM (cwV As.length hts hG rfl rfl rfl hd ⟨Nat.le_trans hF hF0, Nat.le_trans hL hL0⟩) ⟨fun a U g mk q => ⟨q.1, q.2.call⟩, va_recv hK hP hc (q0 := 0) rfl, fun U hU hW => ⟨rfl, gP_of hC hw hU hW⟩⟩ rfl rfl hsz rfl (lv_room h8) hdg ⟨by omega, by omega⟩) hw.2.1 (fun q _ h => h) (fun q h => h) (fun q _ h => h) (fun En ce q9 u t H1 locs1 ht hvm hp hB hz hk hS hce hv hcl => ?_) (fun r u t H1 locs1 ht hvm hp hB hz hk hS => ?_)
  · obtain ⟨hu, hle⟩ := hp
    obtain ⟨⟨k, hk1, hk2⟩, hB2⟩ := hB
    subst hu
    subst hk2
    exact kx k res.2 (Prod.ext hk1 rfl) H1 locs1 _ _ q9 ce ⟨by rw [← ht]; exact hB2, hS, Nat.le_trans h5 hle⟩ hce hv hcl
  · obtain ⟨hr, hu, hle⟩ := hp
    subst hu
    exact kk r res.2 (Prod.ext hr rfl) H1 locs1 _ _ ⟨by rw [← ht]; exact hB, hS, Nat.le_trans h5 hle⟩
theorem gg_yVD {y : MethodName} {b : ByteArray} {nLy F1 L1 idx : Nat} {rt : Option FieldType} {As st : List Value} {res : (Nat ⊕ UInt64) × gS} {a ci N : Nat} {u : Unit} {C : String} {T : u_T} (hC : gC E D A p R s m args meth c cc nL own nm F L) (hw : gW E D A s σ H locs) (hM : gYD l E D A y (Cond.code y b nLy rt) F1 L1 (.ref a :: As) σ res) (hcl : gcl σ a ci = some u) (hc : vwCl[ci]? = some (C, T, N)) (hG : GoodIn lwG (wsV own idx C y ((Cond.code y b nLy rt) :: lwG)))
    (hd : y.cls = C ∧ y.cls ≠ "java/lang/invoke/MethodHandle" ∧ y.cls ≠ "java/lang/invoke/VarHandle" ∧ (parseMethodDescriptor y.desc).map (fun d => d.parameters.length) = some As.length) (hF : F1 + 1 ≤ F) (hL : 8 + (nLy + 11) + L1 ≤ L) (hsz : ls.size = nL) (hst : st = As.reverse ++ .ref a :: rest) (h8 : (rest.map fun v => v.category).sum ≤ 8) (hdg : decode cc pc = .ok (.invokevirtual idx, 3))
    (kx : ∀ (k : Nat) (σ1 : gS), res = (.inl k, σ1) → gQX E D A p l e R s m args below meth c Q pc ls rest k σ1)
    (kk : ∀ (r : UInt64) (σ1 : gS), res = (.inr r, σ1) → ∀ (H : Heap) (locs : List Loc) (cells slots : Nat), gW E D A s σ1 H locs → W p l e R s m args below meth c H locs cells slots Q (F0 m (pc + 3) ls (.double r :: rest))) : W p l e R s m args below meth c H locs cells slots Q (F0 m pc ls st) := by
  have hC0 := hC
  obtain ⟨hx, hb, hml, hown, hts, hK, hA, hX, hnm, hF0, hL0, hRc, hRs⟩ := hC0
  obtain ⟨fs, ha⟩ := gcl_some hcl
  have hP := hw.1.one ha (gDead_inr hc)
  subst hst
  have h1 := hw.1.1
  have h2 := hw.1.2.1
  have h3 := hw.1.2.2.1
  have h4 := hw.1.2.2.2.1
  have h5 := hw.2.2
  have h6 := hw.2.1.1
  refine gg_tight h6 ?_
  refine vx_calld (A1 := A) (AX := A) (vx_runV (As := As) (rest := rest) ⟨hx, hb, hml, hown, hts⟩ hM (cwV As.length hts hG rfl rfl rfl hd ⟨Nat.le_trans hF hF0, Nat.le_trans hL hL0⟩) ⟨fun a U g mk q => ⟨q.1, q.2.call⟩, va_recv hK hP hc (q0 := 0) rfl, fun U hU hW => ⟨rfl, gP_of hC hw hU hW⟩⟩ rfl rfl hsz rfl (lv_room h8) hdg ⟨by omega, by omega⟩) hw.2.1 (fun q _ h => h) (fun q h => h) (fun q _ h => h) (fun En ce q9 u t H1 locs1 ht hvm hp hB hz hk hS hce hv hcl => ?_) (fun r u t H1 locs1 ht hvm hp hB hz hk hS => ?_)
  · obtain ⟨hu, hle⟩ := hp
    obtain ⟨⟨k, hk1, hk2⟩, hB2⟩ := hB
    subst hu
    subst hk2
    exact kx k res.2 (Prod.ext hk1 rfl) H1 locs1 _ _ q9 ce ⟨by rw [← ht]; exact hB2, hS, Nat.le_trans h5 hle⟩ hce hv hcl
  · obtain ⟨hr, hu, hle⟩ := hp
    subst hu
    exact kk r res.2 (Prod.ext hr rfl) H1 locs1 _ _ ⟨by rw [← ht]; exact hB, hS, Nat.le_trans h5 hle⟩
theorem gg_yVV {y : MethodName} {b : ByteArray} {nLy F1 L1 idx : Nat} {rt : Option FieldType} {As st : List Value} {res : (Nat ⊕ Unit) × gS} {a ci N : Nat} {u : Unit} {C : String} {T : u_T} (hC : gC E D A p R s m args meth c cc nL own nm F L) (hw : gW E D A s σ H locs) (hM : gYV l E D A y (Cond.code y b nLy rt) F1 L1 (.ref a :: As) σ res) (hcl : gcl σ a ci = some u) (hc : vwCl[ci]? = some (C, T, N)) (hG : GoodIn lwG (wsV own idx C y ((Cond.code y b nLy rt) :: lwG)))
    (hd : y.cls = C ∧ y.cls ≠ "java/lang/invoke/MethodHandle" ∧ y.cls ≠ "java/lang/invoke/VarHandle" ∧ (parseMethodDescriptor y.desc).map (fun d => d.parameters.length) = some As.length) (hF : F1 + 1 ≤ F) (hL : 8 + (nLy + 11) + L1 ≤ L) (hsz : ls.size = nL) (hst : st = As.reverse ++ .ref a :: rest) (h8 : (rest.map fun v => v.category).sum ≤ 8) (hdg : decode cc pc = .ok (.invokevirtual idx, 3))
    (kx : ∀ (k : Nat) (σ1 : gS), res = (.inl k, σ1) → gQX E D A p l e R s m args below meth c Q pc ls rest k σ1)
    (kk : ∀ (σ1 : gS), res = (.inr (), σ1) → ∀ (H : Heap) (locs : List Loc) (cells slots : Nat), gW E D A s σ1 H locs → W p l e R s m args below meth c H locs cells slots Q (F0 m (pc + 3) ls rest)) : W p l e R s m args below meth c H locs cells slots Q (F0 m pc ls st) := by
  have hC0 := hC
  obtain ⟨hx, hb, hml, hown, hts, hK, hA, hX, hnm, hF0, hL0, hRc, hRs⟩ := hC0
  obtain ⟨fs, ha⟩ := gcl_some hcl
  have hP := hw.1.one ha (gDead_inr hc)
  subst hst
  have h1 := hw.1.1
  have h2 := hw.1.2.1
  have h3 := hw.1.2.2.1
  have h4 := hw.1.2.2.2.1
  have h5 := hw.2.2
  have h6 := hw.2.1.1
  refine gg_tight h6 ?_
  refine vx_callv (A1 := A) (AX := A) (vx_runV (As := As) (rest := rest) ⟨hx, hb, hml, hown, hts⟩ hM (cwV As.length hts hG rfl rfl rfl hd ⟨Nat.le_trans hF hF0, Nat.le_trans hL hL0⟩) ⟨fun a U g mk q => ⟨q.1, q.2.call⟩, va_recv hK hP hc (q0 := 0) rfl, fun U hU hW => ⟨rfl, gP_of hC hw hU hW⟩⟩ rfl rfl hsz rfl (lv_room h8) hdg ⟨by omega, by omega⟩) hw.2.1 (fun q _ h => h) (fun q h => h) (fun q _ h => h) (fun En ce q9 u t H1 locs1 ht hvm hp hB hz hk hS hce hv hcl => ?_) (fun u t H1 locs1 ht hvm hp hB hz hk hS => ?_)
  · obtain ⟨hu, hle⟩ := hp
    obtain ⟨⟨k, hk1, hk2⟩, hB2⟩ := hB
    subst hu
    subst hk2
    exact kx k res.2 (Prod.ext hk1 rfl) H1 locs1 _ _ q9 ce ⟨by rw [← ht]; exact hB2, hS, Nat.le_trans h5 hle⟩ hce hv hcl
  · obtain ⟨hr, hu, hle⟩ := hp
    subst hu
    exact kk res.2 (Prod.ext hr rfl) H1 locs1 _ _ ⟨by rw [← ht]; exact hB, hS, Nat.le_trans h5 hle⟩
theorem gg_yHI {y : MethodName} {b : ByteArray} {nLy F1 L1 idx : Nat} {rt : Option FieldType} {hh : List (Nat × Nat × Nat × Nat)} {As st : List Value} {res : (Nat ⊕ Int32) × gS} (hC : gC E D A p R s m args meth c cc nL own nm F L) (hw : gW E D A s σ H locs) (hM : gYI l E D A y (Cond.codeWith y b nLy rt hh) F1 L1 (As) σ res) (hG : GoodIn lwG (va_wsS own idx y ((Cond.codeWith y b nLy rt hh) :: lwG)))
    (hd : y.cls ≠ "java/lang/invoke/MethodHandle" ∧ y.cls ≠ "java/lang/invoke/VarHandle" ∧ (parseMethodDescriptor y.desc).map (fun d => d.parameters.length) = some As.length) (hF : F1 + 1 ≤ F) (hL : 8 + (nLy + 11) + L1 ≤ L) (hsz : ls.size = nL) (hst : st = As.reverse ++ rest) (h8 : (rest.map fun v => v.category).sum ≤ 8) (hdg : decode cc pc = .ok (.invokestatic idx, 3))
    (kx : ∀ (k : Nat) (σ1 : gS), res = (.inl k, σ1) → gQX E D A p l e R s m args below meth c Q pc ls rest k σ1)
    (kk : ∀ (r : Int32) (σ1 : gS), res = (.inr r, σ1) → ∀ (H : Heap) (locs : List Loc) (cells slots : Nat), gW E D A s σ1 H locs → W p l e R s m args below meth c H locs cells slots Q (F0 m (pc + 3) ls (.int r :: rest))) : W p l e R s m args below meth c H locs cells slots Q (F0 m pc ls st) := by
  have hC0 := hC
  obtain ⟨hx, hb, hml, hown, hts, hK, hA, hX, hnm, hF0, hL0, hRc, hRs⟩ := hC0
  subst hst
  have h1 := hw.1.1
  have h2 := hw.1.2.1
  have h3 := hw.1.2.2.1
  have h4 := hw.1.2.2.2.1
  have h5 := hw.2.2
  have h6 := hw.2.1.1
  refine gg_tight h6 ?_
  refine vx_calli (A1 := A) (AX := A) (vx_runSX (As := As) (rest := rest) ⟨hx, hb, hml, hown, hts⟩ hM (vx_cwSW As.length hts hG rfl rfl rfl hd ⟨Nat.le_trans hF hF0, Nat.le_trans hL hL0⟩) ⟨fun a U g mk q => ⟨q.1, q.2.call⟩, fun U hU hW => ⟨rfl, gP_of hC hw hU hW⟩⟩ rfl rfl hsz rfl (lv_room h8) hdg ⟨by omega, by omega⟩) hw.2.1 (fun q _ h => h) (fun q h => h) (fun q _ h => h) (fun En ce q9 u t H1 locs1 ht hvm hp hB hz hk hS hce hv hcl => ?_) (fun r u t H1 locs1 ht hvm hp hB hz hk hS => ?_)
  · obtain ⟨hu, hle⟩ := hp
    obtain ⟨⟨k, hk1, hk2⟩, hB2⟩ := hB
    subst hu
    subst hk2
    exact kx k res.2 (Prod.ext hk1 rfl) H1 locs1 _ _ q9 ce ⟨by rw [← ht]; exact hB2, hS, Nat.le_trans h5 hle⟩ hce hv hcl
  · obtain ⟨hr, hu, hle⟩ := hp
    subst hu
    exact kk r res.2 (Prod.ext hr rfl) H1 locs1 _ _ ⟨by rw [← ht]; exact hB, hS, Nat.le_trans h5 hle⟩
/-- caught by a row of this method's table -/
theorem gg_catch {ce : Cell} {q k : Nat} {hh : List (Nat × Nat × Nat × Nat)} (hC : gC E D A p R s m args meth c cc nL own nm F L) (hTab : c.exceptionTable.toList = tableOf hh) (pre : List ExceptionTableEntry) (x : ExceptionTableEntry) (suf : List ExceptionTableEntry) (hsplit : tableOf hh = pre ++ x :: suf)
    (hpass : ∀ z ∈ pre, covers z pc = false ∨ (z.catchType ≠ 0 ∧ ∃ n1 : String, Cond.classLink own z.catchType n1 ∈ lwG ∧ (gEx k, n1) ∈ gNc)) (hx : covers x pc = true) (h0 : x.catchType ≠ 0)
    (hlink : Cond.classLink own x.catchType (gEx k) ∈ lwG) (hcast : Cond.castable (gEx k) (gEx k) ∈ lwC) (hcell : H[q]? = some ce) (hv : ce.vm = .none) (hcl : s.vm.findClass (gEx k) = some ce.cls)
    (kk : W p l e R s m args below meth c H locs cells slots Q (F0 m x.handlerPc ls [.ref q])) : vx_W p l e R s m args below meth c H locs cells slots Q (F0 m pc ls rest) q := by
  obtain ⟨hx0, hb, hml, hown, hts, hK, hA, hX, -⟩ := hC
  refine vx_catch hown pre x suf (hTab.trans hsplit) (fun z hz => ?_) hx h0 (hts _ hlink) (va_Nw.use (lwC_ot _ hcast) (hX.2.2.2.2.2.2.2.2 _ hcast)) hcell hv hcl kk
  rcases hpass z hz with h | ⟨h1, n1, h2, h3⟩
  · exact Or.inl h
  · exact Or.inr ⟨h1, n1, hts _ h2, hX.2.2.2.2.2.2.2.1 _ h3⟩
end GZ
