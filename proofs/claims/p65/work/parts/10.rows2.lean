/-! rows: nest mates, receivers that are only read, exceptions -/
/-- the exceptions that are thrown -/
def gEx : Nat → String
  | 0 => "java/lang/IndexOutOfBoundsException"
  | 1 => "java/lang/IllegalArgumentException"
  | _ => "java/lang/IllegalStateException"
def gExN : List String := ["java/lang/RuntimeException", "java/lang/Exception"]
/-- an exception is made: one cell of six slots that nobody knows -/
def gthr (E : gE) (σ : gS) : Option gS := if σ.2.1 + 1 ≤ gK E ∧ σ.2.2 + 6 ≤ gM E then some (σ.1, σ.2.1 + 1, σ.2.2 + 6) else none
theorem gthr_some {E : gE} {σ σ' : gS} (h : gthr E σ = some σ') : σ.2.1 + 1 ≤ gK E ∧ σ.2.2 + 6 ≤ gM E ∧ σ' = (σ.1, σ.2.1 + 1, σ.2.2 + 6) := by
  unfold gthr at h
  split at h
  · rename_i he
    cases h
    exact ⟨he.1, he.2, rfl⟩
  · cases h
section GR
variable {p : Program} {l : Launch} {e : Env} {R : Room} {s : State} {m : MethodId} {args : Array Value} {below : List Frame} {meth : Method} {c : Code} {H : Heap} {locs : List Loc} {cells slots : Nat} {Q : State → Prop}
  {E : gE} {D : va_G} {A : Nat → Prop} {cc : ByteArray} {nL F L : Nat} {own nm : String} {pc : Nat} {ls : Array Slot} {rest : List Value} {σ σ' : gS}
theorem gg_getNI {a ci k idx N : Nat} {x : Int32} {C ref host : String} {T : u_T} (hC : gC E D A p R s m args meth c cc nL own nm F L) (hw : gW E D A s σ H locs) (hf : gfI σ a ci k = some x) (hc : vwCl[ci]? = some (C, T, N)) (hin : ∀ w ∈ u_ws C T N, w ∈ lwG) (hk : k < N) (hl : Cond.fieldLinkNest own idx ref (T k).2.1 (T k).2.2.1 host ∈ lwN) (hs : ref = (T k).1) (hdg : decode cc pc = .ok (.getfield idx, 3))
    (kk : W p l e R s m args below meth c H locs cells slots Q (F0 m (pc + 3) ls (.int x :: rest))) : W p l e R s m args below meth c H locs cells slots Q (F0 m pc ls (.ref a :: rest)) := by
  obtain ⟨hx, hb, hml, hown, hts, hK, hA, hX, -⟩ := hC
  obtain ⟨fs, ha, hv⟩ := gfI_some hf
  subst hs
  exact va_getN (D := D) (cl := vwCl) (ws := [(a, .inr (ci, fs))]) (ci := ci) (v := .int x) hx hb hts hin hown hK (hw.1.one ha (gDead_inr hc)) 0 rfl hc k hk (va_Nw.use rfl (hX.1 _ hl)) (fun _ h9 => h9) hv hdg kk
theorem gg_getNR {a ci k idx N : Nat} {x : Nat} {C ref host : String} {T : u_T} (hC : gC E D A p R s m args meth c cc nL own nm F L) (hw : gW E D A s σ H locs) (hf : gfR σ a ci k = some x) (hc : vwCl[ci]? = some (C, T, N)) (hin : ∀ w ∈ u_ws C T N, w ∈ lwG) (hk : k < N) (hl : Cond.fieldLinkNest own idx ref (T k).2.1 (T k).2.2.1 host ∈ lwN) (hs : ref = (T k).1) (hdg : decode cc pc = .ok (.getfield idx, 3))
    (kk : W p l e R s m args below meth c H locs cells slots Q (F0 m (pc + 3) ls (.ref x :: rest))) : W p l e R s m args below meth c H locs cells slots Q (F0 m pc ls (.ref a :: rest)) := by
  obtain ⟨hx, hb, hml, hown, hts, hK, hA, hX, -⟩ := hC
  obtain ⟨fs, ha, hv⟩ := gfR_some hf
  subst hs
  exact va_getN (D := D) (cl := vwCl) (ws := [(a, .inr (ci, fs))]) (ci := ci) (v := .ref x) hx hb hts hin hown hK (hw.1.one ha (gDead_inr hc)) 0 rfl hc k hk (va_Nw.use rfl (hX.1 _ hl)) (fun _ h9 => h9) hv hdg kk
theorem gg_putN {a ci k idx N : Nat} {v : Value} {C ref host : String} {T : u_T} {ty0 : Nat → FieldType} (hC : gC E D A p R s m args meth c cc nL own nm F L) (hw : gW E D A s σ H locs) (hf : gpf E σ a ci k v = some σ') (hc : vwCl[ci]? = some (C, T, N)) (hin : ∀ w ∈ u_ws C T N, w ∈ lwG) (hty : ∀ k, k < N → parseFieldDescriptor (T k).2.2.1 = some (ty0 k)) (hnm : ∀ a, a < N → ∀ b, b < N → a ≠ b → (T a).2.1 ≠ (T b).2.1) (hk : k < N) (hl : Cond.fieldLinkNest own idx ref (T k).2.1 (T k).2.2.1 host ∈ lwN) (hs : ref = (T k).1) (hfin : (T k).2.2.2 = false) (hn : narrow (ty0 k) v = v) (hfit : fits (ty0 k) v = true) (hdg : decode cc pc = .ok (.putfield idx, 3))
    (kk : ∀ (H : Heap) (locs : List Loc), gW E D A s σ' H locs → W p l e R s m args below meth c H locs cells slots Q (F0 m (pc + 3) ls rest)) : W p l e R s m args below meth c H locs cells slots Q (F0 m pc ls (v :: .ref a :: rest)) := by
  obtain ⟨hx, hb, hml, hown, hts, hK, hA, hX, -⟩ := hC
  obtain ⟨fs, ha, hl9, rfl⟩ := gpf_some hf
  subst hs
  have hd := gDead_inr (fs := fs) hc
  have hap := va_apart (own := own) hts hin ty0 hty hnm hK hc
  obtain ⟨r, h1, cell, q1, q2, q3, q4⟩ := hw.1.one ha hd 0 _ rfl
  have hr : r = (C, T, N) := Option.some.inj (h1.symm.trans hc)
  subst hr
  obtain ⟨hS, hfc, kC, hkC, hkind⟩ := hK.1 ci _ hc
  obtain ⟨cf, kf, fi, f, hi, hsl⟩ := hS k hk
  have hlay := hts _ (hin _ (u_in_lay hk))
  unfold u_lay at hlay
  rw [if_neg (by rw [hfin]; decide)] at hlay
  have hst := (u_facts hfc hkC (u_lays hts hin hk) hi).1
  have h6 := u_store hfc hkC hkind hlay hi (hty k hk) hn hfit
  refine va_WputK hx hb (f := f) hown (va_Nw.use rfl (hX.1 _ hl)) hi hst (by rw [q2]; exact h6) q1 q3 (by rw [hsl]; exact k2_hasslot (q4 k hk)) rfl rfl hdg fun H' e1 e2 e3 => ?_
  rw [hsl] at e1 ⊢
  exact kk H' _ ⟨hw.1.store ha hd ⟨_, hc, t_OB.to (V := updV (vp_V fs) k v) ⟨_, e1, q2, q3, t_set q4 hap hk v⟩ (fun j _ => vp_updV_set hl9 v j)⟩ e2 e3 (fun c0 hc0 => ⟨_, e1, by rw [show c0 = cell from Option.some.inj (hc0.symm.trans q1)]; exact k2_slotsz _ _ _⟩), hw.2.1.put e2 e3 ((hw.1.2.2.2.2 a (by rw [ha]; exact hd)).2), hw.2.2⟩
/-- a nest mate's constructor -/
theorem gg_cNV {y : MethodName} {b : ByteArray} {nLy F1 L1 idx : Nat} {As st : List Value} {σ2 : gS} {a : Nat} {host : String} (hC : gC E D A p R s m args meth c cc nL own nm F L) (hw : gW E D A s σ H locs) (hM : gCV l E D A y b nLy F1 L1 none (.ref a :: As) σ σ2) (hG : Cond.code y b nLy none ∈ lwG) (hini : Cond.initialized y.cls ∈ lwG) (hlk : Cond.methodLinkNest own idx y host ∈ lwN) (him : Cond.instanceMethod y ∈ lwG) (hy1 : y.name = "<init>")
    (hd : y.cls ≠ "java/lang/invoke/MethodHandle" ∧ y.cls ≠ "java/lang/invoke/VarHandle" ∧ (parseMethodDescriptor y.desc).map (fun d => d.parameters.length) = some As.length) (hF : F1 + 1 ≤ F) (hL : 8 + (nLy + 11) + L1 ≤ L) (hsz : ls.size = nL) (hst : st = As.reverse ++ .ref a :: rest) (h8 : (rest.map fun v => v.category).sum ≤ 8) (hdg : decode cc pc = .ok (.invokespecial idx, 3))
    (kk : ∀ (H : Heap) (locs : List Loc) (cells slots : Nat), gW E D A s σ2 H locs → W p l e R s m args below meth c H locs cells slots Q (F0 m (pc + 3) ls rest)) : W p l e R s m args below meth c H locs cells slots Q (F0 m pc ls st) := by
  have hC0 := hC
  obtain ⟨hx, hb, hml, hown, hts, hK, hA, hX, hnm, hF0, hL0, hRc, hRs⟩ := hC0
  subst hst
  have h1 := hw.1.1
  have h2 := hw.1.2.1
  have h3 := hw.1.2.2.1
  have h4 := hw.1.2.2.2.1
  have h5 := hw.2.2
  have h6 := hw.2.1.1
  refine gg_tight h6 ?_
  refine va_callv (A1 := A) (va_runIN (As := As) (rest := rest) ⟨hx, hb, hml, hown, hts⟩ hM ⟨va_cnB As.length hts (gi_I hG) rfl rfl rfl (hX.1 _ hlk) (hts _ hini) hd ⟨Nat.le_trans hF hF0, Nat.le_trans hL hL0⟩, hy1, hts _ him⟩ ⟨fun a U g mk q => ⟨q.1, q.2.call⟩, fun U hU hW => ⟨rfl, gP_of hC hw hU hW⟩⟩ rfl rfl hsz rfl (lv_room h8) hdg ⟨by omega, by omega⟩) hw.2.1 (fun q _ h => h) (fun q h => h) (fun u t H1 locs1 ht hvm hp hB hz hk hS => ?_)
  obtain ⟨rfl, hle⟩ := hp
  exact kk H1 locs1 _ _ ⟨by rw [← ht]; exact hB, hS, Nat.le_trans h5 hle⟩
/-- a method of a String -/
theorem gg_cXI {y : MethodName} {b : ByteArray} {nLy F1 L1 idx : Nat} {rt : Option FieldType} {As st : List Value} {res : Int32 × gS} {a ci : Nat} {u : Unit} {C : String} (hC : gC E D A p R s m args meth c cc nL own nm F L) (hw : gW E D A s σ H locs) (hM : gCI l E D A y b nLy F1 L1 rt (.ref a :: As) σ res) (hcl : gxc E a ci = some u) (hci : gfc ci = C) (hG : GoodIn lwG (wsV own idx C y (Cond.code y b nLy rt :: lwG)))
    (hd : y.cls = C ∧ y.cls ≠ "java/lang/invoke/MethodHandle" ∧ y.cls ≠ "java/lang/invoke/VarHandle" ∧ (parseMethodDescriptor y.desc).map (fun d => d.parameters.length) = some As.length) (hF : F1 + 1 ≤ F) (hL : 8 + (nLy + 11) + L1 ≤ L) (hsz : ls.size = nL) (hst : st = As.reverse ++ .ref a :: rest) (h8 : (rest.map fun v => v.category).sum ≤ 8) (hdg : decode cc pc = .ok (.invokevirtual idx, 3))
    (kk : ∀ (H : Heap) (locs : List Loc) (cells slots : Nat), gW E D A s res.2 H locs → W p l e R s m args below meth c H locs cells slots Q (F0 m (pc + 3) ls (.int res.1 :: rest))) : W p l e R s m args below meth c H locs cells slots Q (F0 m pc ls st) := by
  have hC0 := hC
  obtain ⟨hx, hb, hml, hown, hts, hK, hA, hX, hnm, hF0, hL0, hRc, hRs⟩ := hC0
  obtain ⟨hro, fs, hcs⟩ := gxc_some hcl
  have hX5 := hX.2.2.2.2.1 a hro
  unfold gWk at hX5
  rw [hcs] at hX5
  obtain ⟨cellV, g1, g3, g2, -⟩ := hX5.1.kept hw.2.1.2.1
  rw [hci] at g2
  subst hst
  have h1 := hw.1.1
  have h2 := hw.1.2.1
  have h3 := hw.1.2.2.1
  have h4 := hw.1.2.2.2.1
  have h5 := hw.2.2
  have h6 := hw.2.1.1
  refine gg_tight h6 ?_
  refine va_calli (A1 := A) (va_runV (As := As) (rest := rest) ⟨hx, hb, hml, hown, hts⟩ hM (cwV As.length hts hG rfl rfl rfl hd ⟨Nat.le_trans hF hF0, Nat.le_trans hL hL0⟩) ⟨fun a U g mk q => ⟨q.1, q.2.call⟩, ⟨cellV, g1, g3, g2⟩, fun U hU hW => ⟨rfl, gP_of hC hw hU hW⟩⟩ rfl rfl hsz rfl (lv_room h8) hdg ⟨by omega, by omega⟩) hw.2.1 (fun q _ h => h) (fun q h => h) (fun r u t H1 locs1 ht hvm hp hB hz hk hS => ?_)
  obtain ⟨h7, h6, hle⟩ := hp
  subst h7
  subst h6
  exact kk H1 locs1 _ _ ⟨by rw [← ht]; exact hB, hS, Nat.le_trans h5 hle⟩
/-- an inherited method of a constant object -/
theorem gg_cUI {x y : MethodName} {b : ByteArray} {nLy F1 L1 idx : Nat} {rt : Option FieldType} {As st : List Value} {res : Int32 × gS} {a ci : Nat} {u : Unit} {C owner : String} (hC : gC E D A p R s m args meth c cc nL own nm F L) (hw : gW E D A s σ H locs) (hM : gCI l E D A y b nLy F1 L1 rt (.ref a :: As) σ res) (hcl : gxc E a ci = some u) (hci : gfc ci = C) (hG : GoodIn lwG (va_wsU own idx C owner x y (Cond.code y b nLy rt :: lwG))) (hyx : y = ⟨owner, x.name, x.desc⟩)
    (hd : owner ≠ "java/lang/invoke/MethodHandle" ∧ owner ≠ "java/lang/invoke/VarHandle" ∧ (parseMethodDescriptor x.desc).map (fun d => d.parameters.length) = some As.length) (hF : F1 + 1 ≤ F) (hL : 8 + (nLy + 11) + L1 ≤ L) (hsz : ls.size = nL) (hst : st = As.reverse ++ .ref a :: rest) (h8 : (rest.map fun v => v.category).sum ≤ 8) (hdg : decode cc pc = .ok (.invokevirtual idx, 3))
    (kk : ∀ (H : Heap) (locs : List Loc) (cells slots : Nat), gW E D A s res.2 H locs → W p l e R s m args below meth c H locs cells slots Q (F0 m (pc + 3) ls (.int res.1 :: rest))) : W p l e R s m args below meth c H locs cells slots Q (F0 m pc ls st) := by
  have hC0 := hC
  obtain ⟨hx, hb, hml, hown, hts, hK, hA, hX, hnm, hF0, hL0, hRc, hRs⟩ := hC0
  obtain ⟨hro, fs, hcs⟩ := gxc_some hcl
  have hX5 := hX.2.2.2.2.1 a hro
  unfold gWk at hX5
  rw [hcs] at hX5
  obtain ⟨cellV, g1, g3, g2, -⟩ := hX5.1.kept hw.2.1.2.1
  rw [hci] at g2
  subst hst
  have h1 := hw.1.1
  have h2 := hw.1.2.1
  have h3 := hw.1.2.2.1
  have h4 := hw.1.2.2.2.1
  have h5 := hw.2.2
  have h6 := hw.2.1.1
  refine gg_tight h6 ?_
  refine va_calli (A1 := A) (va_runU (As := As) (rest := rest) ⟨hx, hb, hml, hown, hts⟩ hM (va_cwU As.length hts hG rfl rfl rfl hyx hd ⟨Nat.le_trans hF hF0, Nat.le_trans hL hL0⟩) ⟨fun a U g mk q => ⟨q.1, q.2.call⟩, ⟨cellV, g1, g3, g2⟩, fun U hU hW => ⟨rfl, gP_of hC hw hU hW⟩⟩ rfl rfl hsz rfl (lv_room h8) hdg ⟨by omega, by omega⟩) hw.2.1 (fun q _ h => h) (fun q h => h) (fun r u t H1 locs1 ht hvm hp hB hz hk hS => ?_)
  obtain ⟨h7, h6, hle⟩ := hp
  subst h7
  subst h6
  exact kk H1 locs1 _ _ ⟨by rw [← ht]; exact hB, hS, Nat.le_trans h5 hle⟩
/-! methods that may throw: the answer is .inl the exception's number, or .inr what is returned -/
abbrev gXC (E : gE) (D : va_G) (A : Nat → Prop) {α : Type} (σ : gS) (res : (Nat ⊕ α) × gS) : String → State → State → Prop := vx_X (fun u : gS => u = res.2 ∧ σ.2.2 ≤ u.2.2) (fun En u t => (∃ k, res.1 = .inl k ∧ gEx k = En) ∧ gB E D A u t.heap) A
abbrev gYI (l : Launch) (E : gE) (D : va_G) (A : Nat → Prop) (y : MethodName) (w : Cond) (F L : Nat) (av : List Value) (σ : gS) (res : (Nat ⊕ Int32) × gS) : Prop :=
  vx_Met l y (w :: lwG) (gR E F L σ) (va_Pc av (gP E D A σ)) (va_Qi (fun (r : Int32) (u : gS) => res.1 = .inr r ∧ u = res.2 ∧ σ.2.2 ≤ u.2.2) (fun u t => gB E D A u t.heap) A) (gXC E D A σ res) (gK E - σ.2.1) (gM E - σ.2.2) A
abbrev gYJ (l : Launch) (E : gE) (D : va_G) (A : Nat → Prop) (y : MethodName) (w : Cond) (F L : Nat) (av : List Value) (σ : gS) (res : (Nat ⊕ Int64) × gS) : Prop :=
  vx_Met l y (w :: lwG) (gR E F L σ) (va_Pc av (gP E D A σ)) (va_Ql (fun (r : Int64) (u : gS) => res.1 = .inr r ∧ u = res.2 ∧ σ.2.2 ≤ u.2.2) (fun u t => gB E D A u t.heap) A) (gXC E D A σ res) (gK E - σ.2.1) (gM E - σ.2.2) A
abbrev gYF (l : Launch) (E : gE) (D : va_G) (A : Nat → Prop) (y : MethodName) (w : Cond) (F L : Nat) (av : List Value) (σ : gS) (res : (Nat ⊕ UInt32) × gS) : Prop :=
  vx_Met l y (w :: lwG) (gR E F L σ) (va_Pc av (gP E D A σ)) (va_Qf (fun (r : UInt32) (u : gS) => res.1 = .inr r ∧ u = res.2 ∧ σ.2.2 ≤ u.2.2) (fun u t => gB E D A u t.heap) A) (gXC E D A σ res) (gK E - σ.2.1) (gM E - σ.2.2) A
abbrev gYD (l : Launch) (E : gE) (D : va_G) (A : Nat → Prop) (y : MethodName) (w : Cond) (F L : Nat) (av : List Value) (σ : gS) (res : (Nat ⊕ UInt64) × gS) : Prop :=
  vx_Met l y (w :: lwG) (gR E F L σ) (va_Pc av (gP E D A σ)) (va_Qd (fun (r : UInt64) (u : gS) => res.1 = .inr r ∧ u = res.2 ∧ σ.2.2 ≤ u.2.2) (fun u t => gB E D A u t.heap) A) (gXC E D A σ res) (gK E - σ.2.1) (gM E - σ.2.2) A
abbrev gYV (l : Launch) (E : gE) (D : va_G) (A : Nat → Prop) (y : MethodName) (w : Cond) (F L : Nat) (av : List Value) (σ : gS) (res : (Nat ⊕ Unit) × gS) : Prop :=
  vx_Met l y (w :: lwG) (gR E F L σ) (va_Pc av (gP E D A σ)) (va_Qv (fun (u : gS) => res.1 = .inr () ∧ u = res.2 ∧ σ.2.2 ≤ u.2.2) (fun u t => gB E D A u t.heap) A) (gXC E D A σ res) (gK E - σ.2.1) (gM E - σ.2.2) A
/-- what a frame owes that is left by an exception -/
abbrev gQX (E : gE) (D : va_G) (A : Nat → Prop) (p : Program) (l : Launch) (e : Env) (R : Room) (s : State) (m : MethodId) (args : Array Value) (below : List Frame) (meth : Method) (c : Code) (Q : State → Prop) (pc : Nat) (ls : Array Slot) (rest : List Value) (k : Nat) (σ1 : gS) : Prop :=
  ∀ (H : Heap) (locs : List Loc) (cells slots : Nat) (q : Nat) (ce : Cell), gW E D A s σ1 H locs → H[q]? = some ce → ce.vm = .none → s.vm.findClass (gEx k) = some ce.cls → vx_W p l e R s m args below meth c H locs cells slots Q (F0 m pc ls rest) q
end GR
