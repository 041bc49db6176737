/-! a method whose answer may be null; what a chain of cases needs -/
abbrev gCN (l : Launch) (E : gE) (D : va_G) (A : Nat → Prop) (y : MethodName) (b : ByteArray) (nL F L : Nat) (rt : Option FieldType) (av : List Value) (σ : gS) (res : Option Nat × gS) : Prop :=
  Met l y (Cond.code y b nL rt :: lwG) (gR E F L σ) (va_Pc av (gP E D A σ)) (va_Qq (fun (r : Option Nat) (u : gS) => r = res.1 ∧ u = res.2 ∧ σ.2.2 ≤ u.2.2) (fun u t => gB E D A u t.heap) A) (gK E - σ.2.1) (gM E - σ.2.2) A
abbrev gQN (E : gE) (D : va_G) (A : Nat → Prop) (p : Program) (l : Launch) (e : Env) (R : Room) (s : State) (m : MethodId) (args : Array Value) (below : List Frame) (meth : Method) (c : Code) (Q : State → Prop) (b : ByteArray) (res : Option Nat × gS) : Prop :=
  ∀ (pc : Nat) (ls : Array Slot) (H : Heap) (locs : List Loc) (cells slots : Nat), decode b pc = .ok (.areturn, 1) → gW E D A s res.2 H locs → W p l e R s m args below meth c H locs cells slots Q (F0 m pc ls [va_rf res.1])
theorem gg_entN {l : Launch} {E : gE} {D : va_G} {A : Nat → Prop} {y : MethodName} {b : ByteArray} {nL F L : Nat} {rt : Option FieldType} {av : List Value} {σ : gS} {res : Option Nat × gS} {own nm : String} (hy : plainName y.cls = true) (ho : y.cls = own) (hn : y.name = nm) (hav : (lg_sl av).length ≤ nL) {ty : FieldType} (hr : rt = some ty) (hrt : (∃ n, ty = .object n) ∨ ∃ t, ty = .array t)
    (body : ∀ (p : Program) (e : Env) (R : Room) (s : State) (m : MethodId) (args : Array Value) (below : List Frame) (meth : Method) (c : Code) (Q : State → Prop) (ls : Array Slot), gC E D A p R s m args meth c b nL own nm F L → gW E D A s σ s.heap [] →
      (∀ (pc : Nat) (ls : Array Slot) (H : Heap) (locs : List Loc) (cells slots : Nat), decode b pc = .ok (.areturn, 1) → gW E D A s res.2 H locs → W p l e R s m args below meth c H locs cells slots Q (F0 m pc ls [va_rf res.1])) →
      lv_has ls nL (lv_args 0 av) → W p l e R s m args below meth c s.heap [] 0 0 Q (F0 m 0 ls [])) : gCN l E D A y b nL F L rt av σ res := by
  subst ho
  subst hn
  refine Met.ofW (cc := b) (maxL := nL) (ret := rt) hy rfl ?_
  intro p e s m args below meth c s₁ B hml hv
  obtain ⟨rfl, hB, hK, hA, hX⟩ := hv
  have hts := atoms_spec (ws := Cond.code y b nL rt :: lwG) B.pre
  have hsz := hB.1
  have hsl := hB.2.1
  have hlk := B.notSynchronized
  rw [lg_entry_eq]
  refine body p e _ s m _ below meth c _ _ ⟨B.exec, B.bytes, hml, findClass_of_methodNamed B.named, fun w hw => hts w (List.mem_cons_of_mem _ hw), hK, hA, hX, (name_of_methodNamed B.named B.method).1, Nat.le_refl _, Nat.le_refl _, by show gK E ≤ gK E - σ.2.1 + s.heap.size; omega, by show gM E ≤ gM E - σ.2.2 + gsum s.heap; omega⟩ ⟨hB, va_S.rf, Nat.le_of_eq hsl⟩ ?_ (lv_entry av hav)
  intro pc ls H locs cells slots hd hw
  have h1 := hw.1.1
  have h2 := hw.1.2.1
  have h3 := hw.1.2.2.1
  have h4 := hw.1.2.2.2.1
  have h5 := hw.2.2
  refine gg_tight hw.2.1.1 ?_
  refine W.widen (k := gK E - σ.2.1) (n := gM E - σ.2.2) (by omega) (by omega) ?_
  exact W.aret (rt := ty) B.exec B.bytes (by rw [← hr]; exact B.returns) hrt (by cases res.1 with | none => exact Or.inl rfl | some z => exact Or.inr ⟨z, rfl⟩) (fun t ht hW => ⟨⟨res.1, res.2, rfl, ⟨rfl, rfl, by omega⟩, by show gB E D A _ t.heap; rw [ht]; exact hw.1⟩, hw.2.1.F ht⟩) hw.2.1.2.2 hd hlk
section GN
variable {p : Program} {l : Launch} {e : Env} {R : Room} {s : State} {m : MethodId} {args : Array Value} {below : List Frame} {meth : Method} {c : Code} {H : Heap} {locs : List Loc} {cells slots : Nat} {Q : State → Prop}
  {E : gE} {D : va_G} {A : Nat → Prop} {cc : ByteArray} {nL F L : Nat} {own nm : String} {pc : Nat} {ls : Array Slot} {rest : List Value} {σ σ' : gS}
theorem gg_cVN {y : MethodName} {b : ByteArray} {nLy F1 L1 idx : Nat} {rt : Option FieldType} {As st : List Value} {res : Option Nat × gS} {a ci N : Nat} {u : Unit} {C : String} {T : u_T} (hC : gC E D A p R s m args meth c cc nL own nm F L) (hw : gW E D A s σ H locs) (hM : gCN l E D A y b nLy F1 L1 rt (.ref a :: As) σ res) (hcl : gcl σ a ci = some u) (hc : vwCl[ci]? = some (C, T, N)) (hG : GoodIn lwG (wsV own idx C y (Cond.code y b nLy rt :: lwG)))
    (hd : y.cls = C ∧ y.cls ≠ "java/lang/invoke/MethodHandle" ∧ y.cls ≠ "java/lang/invoke/VarHandle" ∧ (parseMethodDescriptor y.desc).map (fun d => d.parameters.length) = some As.length) (hF : F1 + 1 ≤ F) (hL : 8 + (nLy + 11) + L1 ≤ L) (hsz : ls.size = nL) (hst : st = As.reverse ++ .ref a :: rest) (h8 : (rest.map fun v => v.category).sum ≤ 8) (hdg : decode cc pc = .ok (.invokevirtual idx, 3))
    (kk : ∀ (H : Heap) (locs : List Loc) (cells slots : Nat), gW E D A s res.2 H locs → W p l e R s m args below meth c H locs cells slots Q (F0 m (pc + 3) ls (va_rf res.1 :: rest))) : W p l e R s m args below meth c H locs cells slots Q (F0 m pc ls st) := by
  have hC0 := hC
  obtain ⟨hx, hb, hml, hown, hts, hK, hA, hX, hnm, hF0, hL0, hRc, hRs⟩ := hC0
  obtain ⟨fs, ha⟩ := gcl_some hcl
  have hP := hw.1.one ha (gDead_inr hc)
  subst hst
  have h1 := hw.1.1
  have h2 := hw.1.2.1
  have h3 := hw.1.2.2.1
  have h4 := hw.1.2.2.2.1
  have h5 := hw.2.2
  have h6 := hw.2.1.1
  refine gg_tight h6 ?_
  refine va_callq (A1 := A) (va_runV (As := As) (rest := rest) ⟨hx, hb, hml, hown, hts⟩ hM (cwV As.length hts hG rfl rfl rfl hd ⟨Nat.le_trans hF hF0, Nat.le_trans hL hL0⟩) ⟨fun a U g mk q => ⟨q.1, q.2.call⟩, va_recv hK hP hc (q0 := 0) rfl, fun U hU hW => ⟨rfl, gP_of hC hw hU hW⟩⟩ rfl rfl hsz rfl (lv_room h8) hdg ⟨by omega, by omega⟩) hw.2.1 (fun q _ h => h) (fun q h => h) (fun r u t H1 locs1 ht hvm hp hB hz hk hS => ?_)
  obtain ⟨h7, h6, hle⟩ := hp
  subst h7
  subst h6
  exact kk H1 locs1 _ _ ⟨by rw [← ht]; exact hB, hS, Nat.le_trans h5 hle⟩
end GN
def gopt {β : Type} (o : Option Nat) (k0 : Option β) (k1 : Nat → Option β) : Option β := match o with
  | none => k0
  | some x => k1 x
theorem gz1 : narrow .boolean (.int 1) = .int 1 := rfl
theorem gz0 : narrow .boolean (.int 0) = .int 0 := rfl
def gch (x : Int32) : Option Unit := if (x.toUInt32 % 65536).toInt32 = x then some () else none
theorem gch_some {x : Int32} {u : Unit} (h : gch x = some u) : narrow .char (.int x) = .int x := by
  unfold gch at h
  split at h
  · rename_i h1
    show Value.int (x.toUInt32 % 65536).toInt32 = _
    rw [h1]
  · cases h
def gby (x : Int32) : Option Unit := if x.toInt8.toInt32 = x then some () else none
theorem gby_some {x : Int32} {u : Unit} (h : gby x = some u) : narrow .byte (.int x) = .int x := by
  unfold gby at h
  split at h
  · rename_i h1
    show Value.int x.toInt8.toInt32 = _
    rw [h1]
  · cases h
abbrev gi2c (x : Int32) : Int32 := (x.toUInt32 % 65536).toInt32
theorem gtry_inl {α β : Type} {k : Nat} {σ : gS} {fk : Nat → gS → Option β} {fx : α → gS → Option β} : gtry ((Sum.inl k, σ) : (Nat ⊕ α) × gS) fk fx = fk k σ := rfl
theorem gtry_inr {α β : Type} {x : α} {σ : gS} {fk : Nat → gS → Option β} {fx : α → gS → Option β} : gtry ((Sum.inr x, σ) : (Nat ⊕ α) × gS) fk fx = fx x σ := rfl
theorem gopt_none {β : Type} {k0 : Option β} {k1 : Nat → Option β} : gopt none k0 k1 = k0 := rfl
theorem gopt_some {β : Type} {k0 : Option β} {k1 : Nat → Option β} {x : Nat} : gopt (some x) k0 k1 = k1 x := rfl
theorem gi_U {own C owner : String} {idx n : Nat} {x y : MethodName} {b : ByteArray} {ret : Option FieldType} (h1 : Cond.methodLink own idx x ∈ lwG) (h2 : Cond.sameMethod x.cls owner x.name x.desc ∈ lwG) (h3 : Cond.selects C x y ∈ lwG) (h4 : Cond.instanceMethod y ∈ lwG) (h5 : Cond.initialized y.cls ∈ lwG) (h6 : Cond.code y b n ret ∈ lwG) : GoodIn lwG (va_wsU own idx C owner x y (Cond.code y b n ret :: lwG)) := by
  intro w hw
  unfold va_wsU at hw
  rcases List.mem_append.mp hw with hw | hw
  · simp only [List.mem_cons, List.not_mem_nil, or_false] at hw
    rcases hw with rfl | rfl | rfl | rfl | rfl
    · exact gg_ok h1
    · exact gg_ok h2
    · exact gg_ok h3
    · exact gg_ok h4
    · exact gg_ok h5
  · rcases List.mem_cons.mp hw with rfl | hw
    · exact gg_ok h6
    · exact gg_ok hw
abbrev gmax (x y : Int32) : Int32 := if x < y then y else x
abbrev gmin (x y : Int32) : Int32 := if y < x then y else x
section GMM
variable {p : Program} {l : Launch} {e : Env} {R : Room} {s : State} {m : MethodId} {args : Array Value} {below : List Frame} {meth : Method} {c : Code} {H : Heap} {locs : List Loc} {cells slots : Nat} {Q : State → Prop}
  {E : gE} {D : va_G} {A : Nat → Prop} {cc : ByteArray} {nL F L : Nat} {own nm : String} {pc : Nat} {ls : Array Slot} {rest : List Value} {σ σ' : gS}
theorem gg_mmax {idx : Nat} {x y : Int32} {ck : List Value} (hC : gC E D A p R s m args meth c cc nL own nm F L) (hw : gW E D A s σ H locs) (hlk : Cond.methodLink own idx Lib.Math.max.name ∈ lwG) (hstk : ck = .int y :: .int x :: rest) (hsz : ls.size = nL) (h8 : (rest.map fun v => v.category).sum ≤ 8) (hF : 1 ≤ F) (hL : 30 ≤ L) (hdg : decode cc pc = .ok (.invokestatic idx, 3))
    (kk : ∀ cells slots : Nat, W p l e R s m args below meth c H locs cells slots Q (F0 m (pc + 3) ls (.int (gmax x y) :: rest))) : W p l e R s m args below meth c H locs cells slots Q (F0 m pc ls ck) := by
  subst hstk
  obtain ⟨hx, hb, hml, hown, hts, hK, hA, hX, hnm, hF0, hL0, hRc, hRs⟩ := hC
  have h1 := hw.1.1
  have h2 := hw.1.2.1
  have h3 := hw.1.2.2.1
  have h4 := hw.1.2.2.2.1
  have h6 := hw.2.1.1
  refine gg_tight h6 ?_
  exact va_mmax hx hb (by rw [hml, hsz]) hown (hts _ hlk) (hts _ st_J9_max_7cf53) (hts _ in_J9) (hts _ co_J9_max_7cf53) (Nat.le_trans hF hF0) (by omega) (by omega) (by omega) hdg (kk _ _)
theorem gg_mmin {idx : Nat} {x y : Int32} {ck : List Value} (hC : gC E D A p R s m args meth c cc nL own nm F L) (hw : gW E D A s σ H locs) (hlk : Cond.methodLink own idx Lib.Math.min.name ∈ lwG) (hstk : ck = .int y :: .int x :: rest) (hsz : ls.size = nL) (h8 : (rest.map fun v => v.category).sum ≤ 8) (hF : 1 ≤ F) (hL : 30 ≤ L) (hdg : decode cc pc = .ok (.invokestatic idx, 3))
    (kk : ∀ cells slots : Nat, W p l e R s m args below meth c H locs cells slots Q (F0 m (pc + 3) ls (.int (gmin x y) :: rest))) : W p l e R s m args below meth c H locs cells slots Q (F0 m pc ls ck) := by
  subst hstk
  obtain ⟨hx, hb, hml, hown, hts, hK, hA, hX, hnm, hF0, hL0, hRc, hRs⟩ := hC
  have h1 := hw.1.1
  have h2 := hw.1.2.1
  have h3 := hw.1.2.2.1
  have h4 := hw.1.2.2.2.1
  have h6 := hw.2.1.1
  refine gg_tight h6 ?_
  exact va_mmin hx hb (by rw [hml, hsz]) hown (hts _ hlk) (hts _ st_J9_min_7cf53) (hts _ in_J9) (hts _ co_J9_min_7cf53) (Nat.le_trans hF hF0) (by omega) (by omega) (by omega) hdg (kk _ _)
end GMM
