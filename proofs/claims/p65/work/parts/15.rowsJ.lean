/-! rows: the JDK's own methods of builders and Strings that are made -/
def gclB (E : gE) (σ : gS) (a : Nat) : Option (Nat × gS) := match σ.1 a with
  | .inl (c, n, .inl g) => if c = gcy E 1 ∧ (∀ i, i < n → (g i).toInt8.toInt32 = g i) ∧ σ.2.1 + 1 ≤ gK E ∧ σ.2.2 + n ≤ gM E then some (σ.2.1, (va_up σ.1 σ.2.1 (.inl (gcy E 1, n, .inl g)), σ.2.1 + 1, σ.2.2 + n)) else none
  | _ => none
theorem gclB_some {E : gE} {σ : gS} {a : Nat} {r : Nat × gS} (h : gclB E σ a = some r) : ∃ (n : Nat) (g : Nat → Int32), σ.1 a = .inl (gcy E 1, n, .inl g) ∧ (∀ i, i < n → (g i).toInt8.toInt32 = g i) ∧ σ.2.1 + 1 ≤ gK E ∧ σ.2.2 + n ≤ gM E ∧ r = (σ.2.1, (va_up σ.1 σ.2.1 (.inl (gcy E 1, n, .inl g)), σ.2.1 + 1, σ.2.2 + n)) := by
  unfold gclB at h
  split at h
  · rename_i c n g hc
    split at h
    · rename_i he
      obtain ⟨rfl, h1, h2, h3⟩ := he
      cases h
      exact ⟨n, g, hc, h1, h2, h3, rfl⟩
    · cases h
  · cases h
def gcaB (E : gE) (σ : gS) (a : Nat) : Option Unit := match σ.1 a with
  | .inl (c, _) => if c = gcy E 1 then some () else none
  | _ => none
theorem gcaB_some {E : gE} {σ : gS} {a : Nat} {u : Unit} (h : gcaB E σ a = some u) : ∃ y : vp_A, σ.1 a = .inl (gcy E 1, y) := by
  unfold gcaB at h
  split at h
  · rename_i c y hc
    split at h
    · rename_i he
      subst he
      exact ⟨y, hc⟩
    · cases h
  · cases h
def gcopyB (E : gE) (σ : gS) (a0 : Nat) (sp : Int32) (a : Nat) (dp n : Int32) : Option gS := match gat E σ a0, σ.1 a with
  | .inl (c0, n0, .inl f), .inl (c1, n1, .inl g) => if c0 = gac E 1 a0 ∧ c1 = gcy E 1 ∧ ¬ sp < 0 ∧ ¬ dp < 0 ∧ ¬ n < 0 ∧ sp.toNatClampNeg + n.toNatClampNeg ≤ n0 ∧ dp.toNatClampNeg + n.toNatClampNeg ≤ n1 ∧ (∀ i, i < n.toNatClampNeg → (f (sp.toNatClampNeg + i)).toInt8.toInt32 = f (sp.toNatClampNeg + i)) then some (va_up σ.1 a (.inl (c1, n1, .inl (va_cpy f g sp.toNatClampNeg dp.toNatClampNeg n.toNatClampNeg))), σ.2) else none
  | _, _ => none
theorem gcopyB_some {E : gE} {σ σ' : gS} {a0 a : Nat} {sp dp n : Int32} (h : gcopyB E σ a0 sp a dp n = some σ') : ∃ (n0 n1 : Nat) (f g : Nat → Int32), gat E σ a0 = .inl (gac E 1 a0, n0, .inl f) ∧ σ.1 a = .inl (gcy E 1, n1, .inl g) ∧ ¬ sp < 0 ∧ ¬ dp < 0 ∧ ¬ n < 0 ∧ sp.toNatClampNeg + n.toNatClampNeg ≤ n0 ∧ dp.toNatClampNeg + n.toNatClampNeg ≤ n1 ∧ (∀ i, i < n.toNatClampNeg → (f (sp.toNatClampNeg + i)).toInt8.toInt32 = f (sp.toNatClampNeg + i)) ∧ σ' = (va_up σ.1 a (.inl (gcy E 1, n1, .inl (va_cpy f g sp.toNatClampNeg dp.toNatClampNeg n.toNatClampNeg))), σ.2) := by
  unfold gcopyB at h
  split at h
  · rename_i c0 n0 f c1 n1 g hc hv
    split at h
    · rename_i he
      obtain ⟨rfl, rfl, h1, h2, h3, h4, h5, h6⟩ := he
      cases h
      exact ⟨n0, n1, f, g, hc, hv, h1, h2, h3, h4, h5, h6, rfl⟩
    · cases h
  · cases h
theorem gby_fits {x : Int32} {u : Unit} (h : gby x = some u) : fits .byte (.int x) = true := by
  unfold gby at h
  split at h
  · rename_i he
    rw [← he]
    exact pk_fb x
  · cases h
theorem fit_byte {x : Int32} (h : x.toInt8.toInt32 = x) : fits .byte (.int x) = true := by
  rw [← h]
  exact pk_fb x
theorem gi_O {own C owner : String} {idx n : Nat} {x y : MethodName} {b : ByteArray} {ret : Option FieldType} (h1 : Cond.methodLink own idx x ∈ lwG) (h2 : Cond.sameMethod x.cls owner x.name x.desc ∈ lwG) (h3 : Cond.instanceMethod ⟨owner, x.name, x.desc⟩ ∈ lwG) (h4 : Cond.selects C x y ∈ lwG) (h5 : Cond.instanceMethod y ∈ lwG) (h6 : Cond.initialized y.cls ∈ lwG) (h7 : Cond.code y b n ret ∈ lwG) : GoodIn lwG (va_wsO own idx C owner x y (Cond.code y b n ret :: lwG)) := by
  intro w hw
  unfold va_wsO at hw
  rcases List.mem_append.mp hw with hw | hw
  · simp only [List.mem_cons, List.not_mem_nil, or_false] at hw
    rcases hw with rfl | rfl | rfl | rfl | rfl | rfl
    · exact gg_ok h1
    · exact gg_ok h2
    · exact gg_ok h3
    · exact gg_ok h4
    · exact gg_ok h5
    · exact gg_ok h6
  · rcases List.mem_cons.mp hw with rfl | hw
    · exact gg_ok h7
    · exact gg_ok hw
theorem gi_SU {own : String} {idx n : Nat} {y : MethodName} {b : ByteArray} {ret : Option FieldType} (h1 : Cond.methodLink own idx y ∈ lwG) (h2 : Cond.sameMethod y.cls y.cls y.name y.desc ∈ lwG) (h3 : Cond.superclass own y.cls ∈ lwG) (h5 : Cond.instanceMethod y ∈ lwG) (h6 : Cond.initialized y.cls ∈ lwG) (h7 : Cond.code y b n ret ∈ lwG) : GoodIn lwG (va_wsSU own idx y (Cond.code y b n ret :: lwG)) := by
  intro w hw
  unfold va_wsSU at hw
  rcases List.mem_append.mp hw with hw | hw
  · simp only [List.mem_cons, List.not_mem_nil, or_false] at hw
    rcases hw with rfl | rfl | rfl | rfl | rfl
    · exact gg_ok h1
    · exact gg_ok h2
    · exact gg_ok h3
    · exact gg_ok h5
    · exact gg_ok h6
  · rcases List.mem_cons.mp hw with rfl | hw
    · exact gg_ok h7
    · exact gg_ok hw
section GJ
variable {p : Program} {l : Launch} {e : Env} {R : Room} {s : State} {m : MethodId} {args : Array Value} {below : List Frame} {meth : Method} {c : Code} {H : Heap} {locs : List Loc} {cells slots : Nat} {Q : State → Prop}
  {E : gE} {D : va_G} {A : Nat → Prop} {cc : ByteArray} {nL F L : Nat} {own nm : String} {pc : Nat} {ls : Array Slot} {rest : List Value} {σ σ' : gS}
theorem gg_jUI {x y : MethodName} {owner : String} {b : ByteArray} {nLy F1 L1 idx : Nat} {rt : Option FieldType} {As st : List Value} {res : Int32 × gS} {a ci N : Nat} {u : Unit} {C : String} {T : u_T} (hC : gC E D A p R s m args meth c cc nL own nm F L) (hw : gW E D A s σ H locs) (hM : gCI l E D A y b nLy F1 L1 rt (.ref a :: As) σ res) (hcl : gcl σ a ci = some u) (hc : vwCl[ci]? = some (C, T, N)) (hG : GoodIn lwG (va_wsU own idx C owner x y (Cond.code y b nLy rt :: lwG))) (hyx : y = ⟨owner, x.name, x.desc⟩)
    (hd : owner ≠ "java/lang/invoke/MethodHandle" ∧ owner ≠ "java/lang/invoke/VarHandle" ∧ (parseMethodDescriptor x.desc).map (fun d => d.parameters.length) = some As.length) (hF : F1 + 1 ≤ F) (hL : 8 + (nLy + 11) + L1 ≤ L) (hsz : ls.size = nL) (hst : st = As.reverse ++ .ref a :: rest) (h8 : (rest.map fun v => v.category).sum ≤ 8) (hdg : decode cc pc = .ok (.invokevirtual idx, 3))
    (kk : ∀ (H : Heap) (locs : List Loc) (cells slots : Nat), gW E D A s res.2 H locs → W p l e R s m args below meth c H locs cells slots Q (F0 m (pc + 3) ls (.int res.1 :: rest))) : W p l e R s m args below meth c H locs cells slots Q (F0 m pc ls st) := by
  have hC0 := hC
  obtain ⟨hx, hb, hml, hown, hts, hK, hA, hX, hnm, hF0, hL0, hRc, hRs⟩ := hC0
  obtain ⟨fs, ha⟩ := gcl_some hcl
  have hP := hw.1.one ha (gDead_inr hc)
  subst hst
  have h1 := hw.1.1
  have h2 := hw.1.2.1
  have h3 := hw.1.2.2.1
  have h4 := hw.1.2.2.2.1
  have h5 := hw.2.2
  have h6 := hw.2.1.1
  refine gg_tight h6 ?_
  refine va_calli (A1 := A) (va_runU (As := As) (rest := rest) ⟨hx, hb, hml, hown, hts⟩ hM (va_cwU As.length hts hG rfl rfl rfl hyx hd ⟨Nat.le_trans hF hF0, Nat.le_trans hL hL0⟩) ⟨fun a U g mk q => ⟨q.1, q.2.call⟩, va_recv hK hP hc (q0 := 0) rfl, fun U hU hW => ⟨rfl, gP_of hC hw hU hW⟩⟩ rfl rfl hsz rfl (lv_room h8) hdg ⟨by omega, by omega⟩) hw.2.1 (fun q _ h => h) (fun q h => h) (fun r u t H1 locs1 ht hvm hp hB hz hk hS => ?_)
  obtain ⟨h7, h6, hle⟩ := hp
  subst h7
  subst h6
  exact kk H1 locs1 _ _ ⟨by rw [← ht]; exact hB, hS, Nat.le_trans h5 hle⟩
theorem gg_jOI {x y : MethodName} {owner : String} {b : ByteArray} {nLy F1 L1 idx : Nat} {rt : Option FieldType} {As st : List Value} {res : Int32 × gS} {a ci N : Nat} {u : Unit} {C : String} {T : u_T} (hC : gC E D A p R s m args meth c cc nL own nm F L) (hw : gW E D A s σ H locs) (hM : gCI l E D A y b nLy F1 L1 rt (.ref a :: As) σ res) (hcl : gcl σ a ci = some u) (hc : vwCl[ci]? = some (C, T, N)) (hG : GoodIn lwG (va_wsO own idx C owner x y (Cond.code y b nLy rt :: lwG))) {b0 : ByteArray} {m0 : Nat} {r0 : Option FieldType} (h0 : Cond.code ⟨owner, x.name, x.desc⟩ b0 m0 r0 ∈ lwG)
    (hd : owner ≠ "java/lang/invoke/MethodHandle" ∧ owner ≠ "java/lang/invoke/VarHandle" ∧ (parseMethodDescriptor x.desc).map (fun d => d.parameters.length) = some As.length) (hF : F1 + 1 ≤ F) (hL : 8 + (nLy + 11) + L1 ≤ L) (hsz : ls.size = nL) (hst : st = As.reverse ++ .ref a :: rest) (h8 : (rest.map fun v => v.category).sum ≤ 8) (hdg : decode cc pc = .ok (.invokevirtual idx, 3))
    (kk : ∀ (H : Heap) (locs : List Loc) (cells slots : Nat), gW E D A s res.2 H locs → W p l e R s m args below meth c H locs cells slots Q (F0 m (pc + 3) ls (.int res.1 :: rest))) : W p l e R s m args below meth c H locs cells slots Q (F0 m pc ls st) := by
  have hC0 := hC
  obtain ⟨hx, hb, hml, hown, hts, hK, hA, hX, hnm, hF0, hL0, hRc, hRs⟩ := hC0
  obtain ⟨fs, ha⟩ := gcl_some hcl
  have hP := hw.1.one ha (gDead_inr hc)
  subst hst
  have h1 := hw.1.1
  have h2 := hw.1.2.1
  have h3 := hw.1.2.2.1
  have h4 := hw.1.2.2.2.1
  have h5 := hw.2.2
  have h6 := hw.2.1.1
  refine gg_tight h6 ?_
  refine va_calli (A1 := A) (va_runU (As := As) (rest := rest) ⟨hx, hb, hml, hown, hts⟩ hM (va_cwO As.length hts hG rfl rfl rfl h0 hd ⟨Nat.le_trans hF hF0, Nat.le_trans hL hL0⟩) ⟨fun a U g mk q => ⟨q.1, q.2.call⟩, va_recv hK hP hc (q0 := 0) rfl, fun U hU hW => ⟨rfl, gP_of hC hw hU hW⟩⟩ rfl rfl hsz rfl (lv_room h8) hdg ⟨by omega, by omega⟩) hw.2.1 (fun q _ h => h) (fun q h => h) (fun r u t H1 locs1 ht hvm hp hB hz hk hS => ?_)
  obtain ⟨h7, h6, hle⟩ := hp
  subst h7
  subst h6
  exact kk H1 locs1 _ _ ⟨by rw [← ht]; exact hB, hS, Nat.le_trans h5 hle⟩
theorem gg_jSI {y : MethodName} {b : ByteArray} {nLy F1 L1 idx : Nat} {rt : Option FieldType} {As st : List Value} {res : Int32 × gS} {a ci N : Nat} {u : Unit} {C : String} {T : u_T} (hC : gC E D A p R s m args meth c cc nL own nm F L) (hw : gW E D A s σ H locs) (hM : gCI l E D A y b nLy F1 L1 rt (.ref a :: As) σ res) (hcl : gcl σ a ci = some u) (hc : vwCl[ci]? = some (C, T, N)) (hG : GoodIn lwG (va_wsSU own idx y (Cond.code y b nLy rt :: lwG)))
    (hd : y.name ≠ "<init>" ∧ (parseMethodDescriptor y.desc).map (fun d => d.parameters.length) = some As.length) (hF : F1 + 1 ≤ F) (hL : 8 + (nLy + 11) + L1 ≤ L) (hsz : ls.size = nL) (hst : st = As.reverse ++ .ref a :: rest) (h8 : (rest.map fun v => v.category).sum ≤ 8) (hdg : decode cc pc = .ok (.invokespecial idx, 3))
    (kk : ∀ (H : Heap) (locs : List Loc) (cells slots : Nat), gW E D A s res.2 H locs → W p l e R s m args below meth c H locs cells slots Q (F0 m (pc + 3) ls (.int res.1 :: rest))) : W p l e R s m args below meth c H locs cells slots Q (F0 m pc ls st) := by
  have hC0 := hC
  obtain ⟨hx, hb, hml, hown, hts, hK, hA, hX, hnm, hF0, hL0, hRc, hRs⟩ := hC0
  obtain ⟨fs, ha⟩ := gcl_some hcl
  have hP := hw.1.one ha (gDead_inr hc)
  subst hst
  have h1 := hw.1.1
  have h2 := hw.1.2.1
  have h3 := hw.1.2.2.1
  have h4 := hw.1.2.2.2.1
  have h5 := hw.2.2
  have h6 := hw.2.1.1
  refine gg_tight h6 ?_
  refine va_calli (A1 := A) (va_runSU (As := As) (rest := rest) (show ClassAt s C _ from by obtain ⟨hS, hfc, kC, hkC, hkind⟩ := hK.1 ci _ hc; exact ⟨hfc, kC, hkC, hkind⟩) ⟨hx, hb, hml, hown, hts⟩ hM (va_cwSU As.length hts hG rfl rfl rfl hd ⟨Nat.le_trans hF hF0, Nat.le_trans hL hL0⟩) ⟨fun a U g mk q => ⟨q.1, q.2.call⟩, va_recv hK hP hc (q0 := 0) rfl, fun U hU hW => ⟨rfl, gP_of hC hw hU hW⟩⟩ rfl rfl hsz rfl (lv_room h8) hdg ⟨by omega, by omega⟩) hw.2.1 (fun q _ h => h) (fun q h => h) (fun r u t H1 locs1 ht hvm hp hB hz hk hS => ?_)
  obtain ⟨h7, h6, hle⟩ := hp
  subst h7
  subst h6
  exact kk H1 locs1 _ _ ⟨by rw [← ht]; exact hB, hS, Nat.le_trans h5 hle⟩
theorem gg_jUV {x y : MethodName} {owner : String} {b : ByteArray} {nLy F1 L1 idx : Nat} {rt : Option FieldType} {As st : List Value} {σ2 : gS} {a ci N : Nat} {u : Unit} {C : String} {T : u_T} (hC : gC E D A p R s m args meth c cc nL own nm F L) (hw : gW E D A s σ H locs) (hM : gCV l E D A y b nLy F1 L1 rt (.ref a :: As) σ σ2) (hcl : gcl σ a ci = some u) (hc : vwCl[ci]? = some (C, T, N)) (hG : GoodIn lwG (va_wsU own idx C owner x y (Cond.code y b nLy rt :: lwG))) (hyx : y = ⟨owner, x.name, x.desc⟩)
    (hd : owner ≠ "java/lang/invoke/MethodHandle" ∧ owner ≠ "java/lang/invoke/VarHandle" ∧ (parseMethodDescriptor x.desc).map (fun d => d.parameters.length) = some As.length) (hF : F1 + 1 ≤ F) (hL : 8 + (nLy + 11) + L1 ≤ L) (hsz : ls.size = nL) (hst : st = As.reverse ++ .ref a :: rest) (h8 : (rest.map fun v => v.category).sum ≤ 8) (hdg : decode cc pc = .ok (.invokevirtual idx, 3))
    (kk : ∀ (H : Heap) (locs : List Loc) (cells slots : Nat), gW E D A s σ2 H locs → W p l e R s m args below meth c H locs cells slots Q (F0 m (pc + 3) ls rest)) : W p l e R s m args below meth c H locs cells slots Q (F0 m pc ls st) := by
  have hC0 := hC
  obtain ⟨hx, hb, hml, hown, hts, hK, hA, hX, hnm, hF0, hL0, hRc, hRs⟩ := hC0
  obtain ⟨fs, ha⟩ := gcl_some hcl
  have hP := hw.1.one ha (gDead_inr hc)
  subst hst
  have h1 := hw.1.1
  have h2 := hw.1.2.1
  have h3 := hw.1.2.2.1
  have h4 := hw.1.2.2.2.1
  have h5 := hw.2.2
  have h6 := hw.2.1.1
  refine gg_tight h6 ?_
  refine va_callv (A1 := A) (va_runU (As := As) (rest := rest) ⟨hx, hb, hml, hown, hts⟩ hM (va_cwU As.length hts hG rfl rfl rfl hyx hd ⟨Nat.le_trans hF hF0, Nat.le_trans hL hL0⟩) ⟨fun a U g mk q => ⟨q.1, q.2.call⟩, va_recv hK hP hc (q0 := 0) rfl, fun U hU hW => ⟨rfl, gP_of hC hw hU hW⟩⟩ rfl rfl hsz rfl (lv_room h8) hdg ⟨by omega, by omega⟩) hw.2.1 (fun q _ h => h) (fun q h => h) (fun u t H1 locs1 ht hvm hp hB hz hk hS => ?_)
  obtain ⟨rfl, hle⟩ := hp
  exact kk H1 locs1 _ _ ⟨by rw [← ht]; exact hB, hS, Nat.le_trans h5 hle⟩
theorem gg_jUR {x y : MethodName} {owner : String} {b : ByteArray} {nLy F1 L1 idx : Nat} {rt : Option FieldType} {As st : List Value} {res : Nat × gS} {a ci N : Nat} {u : Unit} {C : String} {T : u_T} (hC : gC E D A p R s m args meth c cc nL own nm F L) (hw : gW E D A s σ H locs) (hM : gCR l E D A y b nLy F1 L1 rt (.ref a :: As) σ res) (hcl : gcl σ a ci = some u) (hc : vwCl[ci]? = some (C, T, N)) (hG : GoodIn lwG (va_wsU own idx C owner x y (Cond.code y b nLy rt :: lwG))) (hyx : y = ⟨owner, x.name, x.desc⟩)
    (hd : owner ≠ "java/lang/invoke/MethodHandle" ∧ owner ≠ "java/lang/invoke/VarHandle" ∧ (parseMethodDescriptor x.desc).map (fun d => d.parameters.length) = some As.length) (hF : F1 + 1 ≤ F) (hL : 8 + (nLy + 11) + L1 ≤ L) (hsz : ls.size = nL) (hst : st = As.reverse ++ .ref a :: rest) (h8 : (rest.map fun v => v.category).sum ≤ 8) (hdg : decode cc pc = .ok (.invokevirtual idx, 3))
    (kk : ∀ (H : Heap) (locs : List Loc) (cells slots : Nat), gW E D A s res.2 H locs → W p l e R s m args below meth c H locs cells slots Q (F0 m (pc + 3) ls (.ref res.1 :: rest))) : W p l e R s m args below meth c H locs cells slots Q (F0 m pc ls st) := by
  have hC0 := hC
  obtain ⟨hx, hb, hml, hown, hts, hK, hA, hX, hnm, hF0, hL0, hRc, hRs⟩ := hC0
  obtain ⟨fs, ha⟩ := gcl_some hcl
  have hP := hw.1.one ha (gDead_inr hc)
  subst hst
  have h1 := hw.1.1
  have h2 := hw.1.2.1
  have h3 := hw.1.2.2.1
  have h4 := hw.1.2.2.2.1
  have h5 := hw.2.2
  have h6 := hw.2.1.1
  refine gg_tight h6 ?_
  refine va_callr (A1 := A) (va_runU (As := As) (rest := rest) ⟨hx, hb, hml, hown, hts⟩ hM (va_cwU As.length hts hG rfl rfl rfl hyx hd ⟨Nat.le_trans hF hF0, Nat.le_trans hL hL0⟩) ⟨fun a U g mk q => ⟨q.1, q.2.call⟩, va_recv hK hP hc (q0 := 0) rfl, fun U hU hW => ⟨rfl, gP_of hC hw hU hW⟩⟩ rfl rfl hsz rfl (lv_room h8) hdg ⟨by omega, by omega⟩) hw.2.1 (fun q _ h => h) (fun q h => h) (fun u a1 t H1 locs1 ht hvm hp hB hz hk hS => ?_)
  obtain ⟨h6, hle⟩ := hp
  obtain ⟨h7, hB⟩ := hB
  subst h7
  subst h6
  exact kk H1 locs1 _ _ ⟨by rw [← ht]; exact hB, hS, Nat.le_trans h5 hle⟩
theorem gg_jOR {x y : MethodName} {owner : String} {b : ByteArray} {nLy F1 L1 idx : Nat} {rt : Option FieldType} {As st : List Value} {res : Nat × gS} {a ci N : Nat} {u : Unit} {C : String} {T : u_T} (hC : gC E D A p R s m args meth c cc nL own nm F L) (hw : gW E D A s σ H locs) (hM : gCR l E D A y b nLy F1 L1 rt (.ref a :: As) σ res) (hcl : gcl σ a ci = some u) (hc : vwCl[ci]? = some (C, T, N)) (hG : GoodIn lwG (va_wsO own idx C owner x y (Cond.code y b nLy rt :: lwG))) {b0 : ByteArray} {m0 : Nat} {r0 : Option FieldType} (h0 : Cond.code ⟨owner, x.name, x.desc⟩ b0 m0 r0 ∈ lwG)
    (hd : owner ≠ "java/lang/invoke/MethodHandle" ∧ owner ≠ "java/lang/invoke/VarHandle" ∧ (parseMethodDescriptor x.desc).map (fun d => d.parameters.length) = some As.length) (hF : F1 + 1 ≤ F) (hL : 8 + (nLy + 11) + L1 ≤ L) (hsz : ls.size = nL) (hst : st = As.reverse ++ .ref a :: rest) (h8 : (rest.map fun v => v.category).sum ≤ 8) (hdg : decode cc pc = .ok (.invokevirtual idx, 3))
    (kk : ∀ (H : Heap) (locs : List Loc) (cells slots : Nat), gW E D A s res.2 H locs → W p l e R s m args below meth c H locs cells slots Q (F0 m (pc + 3) ls (.ref res.1 :: rest))) : W p l e R s m args below meth c H locs cells slots Q (F0 m pc ls st) := by
  have hC0 := hC
  obtain ⟨hx, hb, hml, hown, hts, hK, hA, hX, hnm, hF0, hL0, hRc, hRs⟩ := hC0
  obtain ⟨fs, ha⟩ := gcl_some hcl
  have hP := hw.1.one ha (gDead_inr hc)
  subst hst
  have h1 := hw.1.1
  have h2 := hw.1.2.1
  have h3 := hw.1.2.2.1
  have h4 := hw.1.2.2.2.1
  have h5 := hw.2.2
  have h6 := hw.2.1.1
  refine gg_tight h6 ?_
  refine va_callr (A1 := A) (va_runU (As := As) (rest := rest) ⟨hx, hb, hml, hown, hts⟩ hM (va_cwO As.length hts hG rfl rfl rfl h0 hd ⟨Nat.le_trans hF hF0, Nat.le_trans hL hL0⟩) ⟨fun a U g mk q => ⟨q.1, q.2.call⟩, va_recv hK hP hc (q0 := 0) rfl, fun U hU hW => ⟨rfl, gP_of hC hw hU hW⟩⟩ rfl rfl hsz rfl (lv_room h8) hdg ⟨by omega, by omega⟩) hw.2.1 (fun q _ h => h) (fun q h => h) (fun u a1 t H1 locs1 ht hvm hp hB hz hk hS => ?_)
  obtain ⟨h6, hle⟩ := hp
  obtain ⟨h7, hB⟩ := hB
  subst h7
  subst h6
  exact kk H1 locs1 _ _ ⟨by rw [← ht]; exact hB, hS, Nat.le_trans h5 hle⟩
theorem gg_jSR {y : MethodName} {b : ByteArray} {nLy F1 L1 idx : Nat} {rt : Option FieldType} {As st : List Value} {res : Nat × gS} {a ci N : Nat} {u : Unit} {C : String} {T : u_T} (hC : gC E D A p R s m args meth c cc nL own nm F L) (hw : gW E D A s σ H locs) (hM : gCR l E D A y b nLy F1 L1 rt (.ref a :: As) σ res) (hcl : gcl σ a ci = some u) (hc : vwCl[ci]? = some (C, T, N)) (hG : GoodIn lwG (va_wsSU own idx y (Cond.code y b nLy rt :: lwG)))
    (hd : y.name ≠ "<init>" ∧ (parseMethodDescriptor y.desc).map (fun d => d.parameters.length) = some As.length) (hF : F1 + 1 ≤ F) (hL : 8 + (nLy + 11) + L1 ≤ L) (hsz : ls.size = nL) (hst : st = As.reverse ++ .ref a :: rest) (h8 : (rest.map fun v => v.category).sum ≤ 8) (hdg : decode cc pc = .ok (.invokespecial idx, 3))
    (kk : ∀ (H : Heap) (locs : List Loc) (cells slots : Nat), gW E D A s res.2 H locs → W p l e R s m args below meth c H locs cells slots Q (F0 m (pc + 3) ls (.ref res.1 :: rest))) : W p l e R s m args below meth c H locs cells slots Q (F0 m pc ls st) := by
  have hC0 := hC
  obtain ⟨hx, hb, hml, hown, hts, hK, hA, hX, hnm, hF0, hL0, hRc, hRs⟩ := hC0
  obtain ⟨fs, ha⟩ := gcl_some hcl
  have hP := hw.1.one ha (gDead_inr hc)
  subst hst
  have h1 := hw.1.1
  have h2 := hw.1.2.1
  have h3 := hw.1.2.2.1
  have h4 := hw.1.2.2.2.1
  have h5 := hw.2.2
  have h6 := hw.2.1.1
  refine gg_tight h6 ?_
  refine va_callr (A1 := A) (va_runSU (As := As) (rest := rest) (show ClassAt s C _ from by obtain ⟨hS, hfc, kC, hkC, hkind⟩ := hK.1 ci _ hc; exact ⟨hfc, kC, hkC, hkind⟩) ⟨hx, hb, hml, hown, hts⟩ hM (va_cwSU As.length hts hG rfl rfl rfl hd ⟨Nat.le_trans hF hF0, Nat.le_trans hL hL0⟩) ⟨fun a U g mk q => ⟨q.1, q.2.call⟩, va_recv hK hP hc (q0 := 0) rfl, fun U hU hW => ⟨rfl, gP_of hC hw hU hW⟩⟩ rfl rfl hsz rfl (lv_room h8) hdg ⟨by omega, by omega⟩) hw.2.1 (fun q _ h => h) (fun q h => h) (fun u a1 t H1 locs1 ht hvm hp hB hz hk hS => ?_)
  obtain ⟨h6, hle⟩ := hp
  obtain ⟨h7, hB⟩ := hB
  subst h7
  subst h6
  exact kk H1 locs1 _ _ ⟨by rw [← ht]; exact hB, hS, Nat.le_trans h5 hle⟩
theorem gg_cXV {y : MethodName} {b : ByteArray} {nLy F1 L1 idx : Nat} {rt : Option FieldType} {As st : List Value} {σ2 : gS} {a ci : Nat} {u : Unit} {C : String} (hC : gC E D A p R s m args meth c cc nL own nm F L) (hw : gW E D A s σ H locs) (hM : gCV l E D A y b nLy F1 L1 rt (.ref a :: As) σ σ2) (hcl : gxc E a ci = some u) (hci : gfc ci = C) (hG : GoodIn lwG (wsV own idx C y (Cond.code y b nLy rt :: lwG)))
    (hd : y.cls = C ∧ y.cls ≠ "java/lang/invoke/MethodHandle" ∧ y.cls ≠ "java/lang/invoke/VarHandle" ∧ (parseMethodDescriptor y.desc).map (fun d => d.parameters.length) = some As.length) (hF : F1 + 1 ≤ F) (hL : 8 + (nLy + 11) + L1 ≤ L) (hsz : ls.size = nL) (hst : st = As.reverse ++ .ref a :: rest) (h8 : (rest.map fun v => v.category).sum ≤ 8) (hdg : decode cc pc = .ok (.invokevirtual idx, 3))
    (kk : ∀ (H : Heap) (locs : List Loc) (cells slots : Nat), gW E D A s σ2 H locs → W p l e R s m args below meth c H locs cells slots Q (F0 m (pc + 3) ls rest)) : W p l e R s m args below meth c H locs cells slots Q (F0 m pc ls st) := by
  have hC0 := hC
  obtain ⟨hx, hb, hml, hown, hts, hK, hA, hX, hnm, hF0, hL0, hRc, hRs⟩ := hC0
  obtain ⟨hro, fs, hcs⟩ := gxc_some hcl
  have hX5 := hX.2.2.2.2.1 a hro
  unfold gWk at hX5
  rw [hcs] at hX5
  obtain ⟨cellV, g1, g3, g2, -⟩ := hX5.1.kept hw.2.1.2.1
  rw [hci] at g2
  subst hst
  have h1 := hw.1.1
  have h2 := hw.1.2.1
  have h3 := hw.1.2.2.1
  have h4 := hw.1.2.2.2.1
  have h5 := hw.2.2
  have h6 := hw.2.1.1
  refine gg_tight h6 ?_
  refine va_callv (A1 := A) (va_runV (As := As) (rest := rest) ⟨hx, hb, hml, hown, hts⟩ hM (cwV As.length hts hG rfl rfl rfl hd ⟨Nat.le_trans hF hF0, Nat.le_trans hL hL0⟩) ⟨fun a U g mk q => ⟨q.1, q.2.call⟩, ⟨cellV, g1, g3, g2⟩, fun U hU hW => ⟨rfl, gP_of hC hw hU hW⟩⟩ rfl rfl hsz rfl (lv_room h8) hdg ⟨by omega, by omega⟩) hw.2.1 (fun q _ h => h) (fun q h => h) (fun u t H1 locs1 ht hvm hp hB hz hk hS => ?_)
  obtain ⟨rfl, hle⟩ := hp
  exact kk H1 locs1 _ _ ⟨by rw [← ht]; exact hB, hS, Nat.le_trans h5 hle⟩
theorem gg_copyB {a0 a idx : Nat} {sp dp n : Int32} {ck : List Value} (hC : gC E D A p R s m args meth c cc nL own nm F L) (hw : gW E D A s σ H locs) (hf : gcopyB E σ a0 sp a dp n = some σ') (hlink : Cond.methodLink own idx arraycopyName ∈ lwG) (hsz : ls.size = nL) (hst : ck = .int n :: .int dp :: .ref a :: .int sp :: .ref a0 :: rest) (h8 : (rest.map fun v => v.category).sum ≤ 8) (hF : 1 ≤ F) (hL : 40 ≤ L) (hdg : decode cc pc = .ok (.invokestatic idx, 3))
    (kk : ∀ (H : Heap) (locs : List Loc), gW E D A s σ' H locs → W p l e R s m args below meth c H locs cells slots Q (F0 m (pc + 3) ls rest)) : W p l e R s m args below meth c H locs cells slots Q (F0 m pc ls ck) := by
  subst hst
  have hC2 := hC
  obtain ⟨hexec, hb, hml0, hown, hts, hK, hA, hX, hnm, hF0, hL0, -⟩ := hC
  have hml : c.maxLocals = ls.size := by rw [hml0, hsz]
  obtain ⟨n0, n1, f, g, ha0, ha1, h1, h2, h3, h4, h5, hfit, rfl⟩ := gcopyB_some hf
  have hsrc : ∃ scr : Cell, H[a0]? = some scr ∧ s.isArrayOf scr .byte ∧ scr.vm ≠ .unknown ∧ n0 ≤ scr.slots.size ∧ ∀ j : Nat, j < n0 → scr.slots[j]? = some (.int (f j)) := by
    by_cases hro : gro E a0 = true
    · rw [gat_ro hro, gac_ro hro] at ha0
      obtain ⟨scr, q1, q2, q3, q4, -, q6, -⟩ := (hC2.weak hro ha0).kept hw.2.1.2.1
      exact ⟨scr, q1, q2, q3, q4, q6⟩
    · rw [gat_no hro, gac_no hro] at ha0
      have hP0 := hw.1.one ha0 gDead_inl
      refine ⟨vp_cell (gcy E 1) (n0, .inl f), hP0 0 _ rfl, (hK.2 1 _ rfl).1 n0 (fun j => .int (f j)), (fun h => by cases h), ?_, fun j hj => ?_⟩
      · show n0 ≤ (arrV (gcy E 1) n0 (fun j => .int (f j))).slots.size
        rw [arrV_size]
        exact Nat.le_refl _
      · show (arrV (gcy E 1) n0 (fun j => .int (f j))).slots[j]? = _
        rw [arrV_read _ _ hj]
  obtain ⟨scr, hc0, ⟨hs6, k0, hk0, cm0, hkk0⟩, hs3, hs4, hs5⟩ := hsrc
  have hP1 := hw.1.one ha1 gDead_inl
  have nn : ∀ z : Int32, ¬ z < 0 → z.toInt = (z.toNatClampNeg : Int) := by
    intro z hz
    have hz0 : (0 : Int) ≤ z.toInt := by
      have := Int32.not_lt.mp hz
      simpa using Int32.le_iff_toInt_le.mp this
    show z.toInt = ((z.toInt.toNat : Nat) : Int)
    omega
  have hlocals : (rest.map fun v => v.category).sum + (nativeFrameWords "java/lang/System" "arraycopy" 5 + 11) ≤ R.locals := by
    have hq : nativeFrameWords "java/lang/System" "arraycopy" 5 + 11 ≤ 32 := by decide
    omega
  intro T hT X
  have hc1 : H[a]? = some (vp_cell (gcy E 1) (n1, .inl g)) := hP1 0 _ rfl
  obtain ⟨-, k1, hk1, cm1, hkk1⟩ := (hK.2 1 _ rfl).1 n1 (fun j => .int (g j))
  obtain ⟨vm', X', step⟩ := X.arraycopy hexec hown (hts _ hlink) (hts _ na_J10_arraycopy__Ljava_lang_Object_ILjava_lang_Object_II_V) (hts _ st_J10_arraycopy__Ljava_lang_Object_ILjava_lang_Object_II_V) (hts _ in_J10) (src := a0) (dst := a) (cs := scr) (cd := vp_cell (gcy E 1) (n1, .inl g)) (srcPos := sp) (destPos := dp) (n := n) (by rw [hT]; exact hc0) (by rw [hT]; exact hc1)
    hs6 (fun _ h => by cases h) hs3 (fun h => by cases h) hk0 hk1 hkk0 hkk1 (by simp [refKind]) h1 h2 h3
    (by rw [nn sp h1, nn n h3]; omega)
    (by rw [nn dp h2, nn n h3]; show ¬ _ > ((arrV (gcy E 1) n1 (fun j => .int (g j))).slots.size : Int); rw [arrV_size]; omega)
    (fun vm₁ _ i hi => by
      have e : scr.slots.getD (sp.toNatClampNeg + i) .null = .int (f (sp.toNatClampNeg + i)) := by
        rw [Array.getD_eq_getD_getElem?, hs5 _ (by omega)]
        rfl
      refine ⟨?_, ?_⟩
      · rw [e]
        exact fit_byte (hfit i hi)
      · rw [e]
        exact trivial)
    (g := F0 m pc ls (.int n :: .int dp :: .ref a :: .int sp :: .ref a0 :: rest)) rfl (by rw [hml]) (rest := rest) rfl (by rw [hb]; exact hdg) (Nat.le_trans hF hF0) (by show 2 * 0 + _ + _ ≤ _; omega)
  have e1 : copied scr (vp_cell (gcy E 1) (n1, .inl g)) sp dp n = vp_cell (gcy E 1) (n1, .inl (va_cpy f g sp.toNatClampNeg dp.toNatClampNeg n.toNatClampNeg)) := va_copiedX (fun z => .int z) scr (gcy E 1) f g hs5 h4
  rw [e1] at X' step
  have hl : a < H.size := (Array.getElem?_eq_some_iff.mp hc1).1
  have hheap : ((T.setVm vm').setCell a (vp_cell (gcy E 1) (n1, .inl (va_cpy f g sp.toNatClampNeg dp.toNatClampNeg n.toNatClampNeg)))).heap = H.setIfInBounds a (vp_cell (gcy E 1) (n1, .inl (va_cpy f g sp.toNatClampNeg dp.toNatClampNeg n.toNatClampNeg))) := by rw [← hT]; rfl
  have oq : ∀ q : Nat, q ≠ a → (H.setIfInBounds a (vp_cell (gcy E 1) (n1, .inl (va_cpy f g sp.toNatClampNeg dp.toNatClampNeg n.toNatClampNeg))))[q]? = H[q]? := fun q hq => by simp [Array.getElem?_setIfInBounds, Ne.symm hq]
  have hself : (H.setIfInBounds a (vp_cell (gcy E 1) (n1, .inl (va_cpy f g sp.toNatClampNeg dp.toNatClampNeg n.toNatClampNeg))))[a]? = some (vp_cell (gcy E 1) (n1, .inl (va_cpy f g sp.toNatClampNeg dp.toNatClampNeg n.toNatClampNeg))) := by simp [Array.getElem?_setIfInBounds, hl]
  have hAa := (hw.1.2.2.2.2 a (by rw [ha1]; exact gDead_inl)).2
  obtain ⟨t, a1, b1⟩ := kk _ _ ⟨hw.1.store ha1 gDead_inl hself (by simp) oq (fun c0 hc0 => ⟨_, hself, by
      rw [show c0 = _ from Option.some.inj (hc0.symm.trans hc1)]
      show (arrV _ _ _).slots.size = (arrV _ _ _).slots.size
      rw [arrV_size, arrV_size]⟩), ⟨by simp; exact hw.2.1.1, fun q g1 g2 => by
      rw [oq q (fun e => g2 (by rw [e]; exact hAa))]
      exact hw.2.1.2.1 q g1 g2, fun q hq => by
      rcases List.mem_append.mp hq with h | h
      · exact hw.2.1.2.2 q h
      · obtain ⟨z, -, hz⟩ := List.mem_map.mp h
        rw [← hz]
        exact hAa⟩, hw.2.2⟩ _ hheap X'
  exact ⟨t, step t a1, b1⟩
theorem gg_clB {a q idx : Nat} (hC : gC E D A p R s m args meth c cc nL own nm F L) (hw : gW E D A s σ H locs) (hf : gclB E σ a = some (q, σ')) (hlink : Cond.methodLink own idx ⟨"[B", "clone", "()Ljava/lang/Object;"⟩ ∈ lwG) (hsz : ls.size = nL) (h8 : (rest.map fun v => v.category).sum ≤ 8) (hF : 1 ≤ F) (hL : 40 ≤ L) (hdg : decode cc pc = .ok (.invokevirtual idx, 3))
    (kk : ∀ (H : Heap) (locs : List Loc) (cells slots : Nat), gW E D A s σ' H locs → W p l e R s m args below meth c H locs cells slots Q (F0 m (pc + 3) ls (.ref q :: rest))) : W p l e R s m args below meth c H locs cells slots Q (F0 m pc ls (.ref a :: rest)) := by
  obtain ⟨hexec, hb, hml0, hown, hts, hK, hA, hX, hnm, hF0, hL0, hRc, hRs⟩ := hC
  have hml : c.maxLocals = ls.size := by rw [hml0, hsz]
  obtain ⟨n, g, ha, hfit, h1, h2, he⟩ := gclB_some hf
  have e1 : q = σ.2.1 := congrArg Prod.fst he
  have e2 : σ' = (va_up σ.1 σ.2.1 (.inl (gcy E 1, n, .inl g)), σ.2.1 + 1, σ.2.2 + n) := congrArg Prod.snd he
  subst e1
  subst e2
  have hP := hw.1.one ha gDead_inl
  have g1 := hw.1.1
  have g2 := hw.1.2.1
  have g5 := hw.2.2
  have g6 := hw.2.1.1
  refine gg_tight g6 ?_
  have hnmB : s.vm.findClass "[B" = some (gcy E 1) := by
    exact (hK.2 1 _ rfl).2
  have hcell0 : H[a]? = some (vp_cell (gcy E 1) (n, .inl g)) := hP 0 _ rfl
  have hsz0 : (vp_cell (gcy E 1) (n, .inl g)).slots.size = n := arrV_size _ _ _
  obtain ⟨c0, t0', f1, f2, f3⟩ := Cond.castable_spec (va_Nw.use (A := args) rfl (hX.2.2.2.2.2.2.2.2 (.castable "[B" "java/lang/Cloneable") (by simp [lwC])))
  cases hnmB.symm.trans f1
  intro T hT X
  have hcellT : T.heap[a]? = some (vp_cell (gcy E 1) (n, .inl g)) := by rw [hT]; exact hcell0
  obtain ⟨-, kA, hkA, comp, hkind⟩ := State.isArrayOf_alike X.warmed.alike ((hK.2 1 _ rfl).1 0 (fun _ => .null))
  obtain ⟨-, kS, hkS, compS, hkindS⟩ := (hK.2 1 _ rfl).1 0 (fun _ => .null)
  have hlocals : (rest.map fun v => v.category).sum + 14 ≤ R.locals := by omega
  obtain ⟨vm', X', st⟩ := X.cloneArray hexec hown (hts _ hlink) (hts _ sm__B_clone) (hts _ na_java_lang_Object_clone___Ljava_lang_Object_) (hts _ im_java_lang_Object_clone___Ljava_lang_Object_) (hts _ se__B_clone___Ljava_lang_Object_) (a := a) (cell := vp_cell (gcy E 1) (n, .inl g)) hcellT (fun k h => by cases h) (fun h => by cases h) hnmB f2 f3
    (fun i v hv => by
      have hk' : T.vm.classes[gcy E 1]? = some kA := hkA
      have hv2 : fits .byte v = true := by
        by_cases hi : i < n
        · have hv3 : (arrV (gcy E 1) n (fun j => .int (g j))).slots[i]? = some v := hv
          rw [arrV_read _ _ hi] at hv3
          cases hv3
          exact fit_byte (hfit i hi)
        · have hv3 : (arrV (gcy E 1) n (fun j => .int (g j))).slots[i]? = some v := hv
          rw [Array.getElem?_eq_none (by rw [arrV_size]; omega)] at hv3
          cases hv3
      rw [show (vp_cell (gcy E 1) (n, .inl g)).cls = gcy E 1 from rfl]
      simpa [State.fitsSlot, State.slotType?, hk', hkind] using hv2)
    (g := F0 m pc ls (.ref a :: rest)) rfl (by rw [hml]) rfl (by rw [hb]; exact hdg) (Nat.le_trans hF hF0) (by show 2 * 0 + _ + 14 ≤ _; omega) (by omega) (by rw [hsz0]; omega) (hloader := Vm.clonesLoader_of_array hkS hkindS)
  have hcellE : ({ cls := (vp_cell (gcy E 1) (n, .inl g)).cls, slots := (vp_cell (gcy E 1) (n, .inl g)).slots } : Cell) = vp_cell (gcy E 1) (n, .inl g) := rfl
  rw [hcellE, hsz0] at X'
  generalize hH1 : H.push (vp_cell (gcy E 1) (n, .inl g)) = H1
  have z1 : H1.size = H.size + 1 := by rw [← hH1, Array.size_push]
  have e1 : H1[H.size]? = some (vp_cell (gcy E 1) (n, .inl g)) := by rw [← hH1, Array.getElem?_push_size]
  have o1 : ∀ q : Nat, q < H.size → H1[q]? = H[q]? := fun q hq => by rw [← hH1, Array.getElem?_push, if_neg (Nat.ne_of_lt hq)]
  have hsum : gsum H1 = gsum H + n := by rw [gsum_push z1 o1 e1, hsz0]
  obtain ⟨t, b1, b2⟩ := kk H1 locs _ _ ⟨hw.1.push (by rw [← g1]; exact hA _ g6) h1 h2 (by show H1[σ.2.1]? = some (vp_cell _ _); rw [← g1]; exact e1) z1 o1 hsum, ⟨Nat.le_trans g6 (by omega), fun y k1 k2 => (o1 y (Nat.lt_of_lt_of_le k1 g6)).trans (hw.2.1.2.1 y k1 k2), hw.2.1.2.2⟩, by show gsum s.heap ≤ σ.2.2 + _; omega⟩
    ((T.setVm vm').pushCell (vp_cell (gcy E 1) (n, .inl g))) (by rw [← hH1, ← hT]; rfl) X'
  refine ⟨t, st t ?_, b2⟩
  rw [hcellE, hT, g1]
  exact b1
/-- checkcast of an array of bytes -/
theorem gg_castB {a idx : Nat} {u : Unit} (hC : gC E D A p R s m args meth c cc nL own nm F L) (hw : gW E D A s σ H locs) (hf : gcaB E σ a = some u) (hlink : Cond.classLink own idx "[B" ∈ lwG) (hdg : decode cc pc = .ok (.checkcast idx, 3))
    (kk : W p l e R s m args below meth c H locs cells slots Q (F0 m (pc + 3) ls (.ref a :: rest))) : W p l e R s m args below meth c H locs cells slots Q (F0 m pc ls (.ref a :: rest)) := by
  obtain ⟨hexec, hb, hml0, hown, hts, hK, hA, hX, hnm, hF0, hL0, hRc, hRs⟩ := hC
  obtain ⟨y, ha⟩ := gcaB_some hf
  exact va_castA hexec hb hown (hts _ hlink) (hw.1.one ha gDead_inl) 0 rfl (hK.2 1 _ rfl).2 hdg kk
end GJ
