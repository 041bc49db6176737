/-! the rows of the machine over the abstract heap -/
section GG
variable {p : Program} {l : Launch} {e : Env} {R : Room} {s : State} {m : MethodId} {args : Array Value} {below : List Frame} {meth : Method} {c : Code} {H : Heap} {locs : List Loc} {cells slots : Nat} {Q : State → Prop}
  {E : gE} {D : va_G} {A : Nat → Prop} {cc : ByteArray} {nL F L : Nat} {own nm : String} {pc : Nat} {ls : Array Slot} {rest : List Value} {σ σ' : gS}
theorem gg_tight {g : JFrame} (hS : s.heap.size ≤ H.size) (kk : W p l e R s m args below meth c H locs (H.size - s.heap.size) (gsum H - gsum s.heap) Q g) : W p l e R s m args below meth c H locs cells slots Q g := by
  intro T hT X
  refine kk T hT ?_
  obtain ⟨h1, h2, h3, h4, h5, h6⟩ := X.same
  have hh : (T.setVm s.vm).heap = H := hT
  have ht := gsum_take (H := H) (H0 := s.heap) hS (fun q c0 hq => by
    obtain ⟨c', g1, -, g3, -⟩ := h6 q c0 hq
    exact ⟨c', by rw [← hh]; exact g1, g3⟩)
  refine { X with same := ⟨h1, h2, ?_, h4, ?_, h6⟩ }
  · rw [hh]; omega
  · rw [hh]
    have : gsum H - gsum s.heap = ((H.toList.drop s.heap.size).map (fun c => c.slots.size)).sum := by omega
    rw [this]
    exact Nat.le_refl _
theorem gW.size (hw : gW E D A s σ H locs) : H.size = σ.2.1 := hw.1.1
/-- an int field -/
theorem gg_getI {a ci k idx N : Nat} {x : Int32} {C ref : String} {T : u_T} (hC : gC E D A p R s m args meth c cc nL own nm F L) (hw : gW E D A s σ H locs) (hf : gfI σ a ci k = some x) (hc : vwCl[ci]? = some (C, T, N)) (hin : ∀ w ∈ u_ws C T N, w ∈ lwG) (hk : k < N) (hl : Cond.fieldLink own idx ref (T k).2.1 (T k).2.2.1 ∈ lwG) (hs : ref = (T k).1) (hdg : decode cc pc = .ok (.getfield idx, 3))
    (kk : W p l e R s m args below meth c H locs cells slots Q (F0 m (pc + 3) ls (.int x :: rest))) : W p l e R s m args below meth c H locs cells slots Q (F0 m pc ls (.ref a :: rest)) := by
  obtain ⟨hx, hb, hml, hown, hts, hK, hA, hX, -⟩ := hC
  obtain ⟨fs, ha, hv⟩ := gfI_some hf
  subst hs
  exact va_get (D := D) (cl := vwCl) (ws := [(a, .inr (ci, fs))]) (ci := ci) (v := .int x) hx hb hts hin hown hK (hw.1.one ha (gDead_inr hc)) 0 rfl hc k hk (hts _ hl) (fun _ h9 => h9) hv hdg kk
theorem gg_getR {a ci k idx N : Nat} {x : Nat} {C ref : String} {T : u_T} (hC : gC E D A p R s m args meth c cc nL own nm F L) (hw : gW E D A s σ H locs) (hf : gfR σ a ci k = some x) (hc : vwCl[ci]? = some (C, T, N)) (hin : ∀ w ∈ u_ws C T N, w ∈ lwG) (hk : k < N) (hl : Cond.fieldLink own idx ref (T k).2.1 (T k).2.2.1 ∈ lwG) (hs : ref = (T k).1) (hdg : decode cc pc = .ok (.getfield idx, 3))
    (kk : W p l e R s m args below meth c H locs cells slots Q (F0 m (pc + 3) ls (.ref x :: rest))) : W p l e R s m args below meth c H locs cells slots Q (F0 m pc ls (.ref a :: rest)) := by
  obtain ⟨hx, hb, hml, hown, hts, hK, hA, hX, -⟩ := hC
  obtain ⟨fs, ha, hv⟩ := gfR_some hf
  subst hs
  exact va_get (D := D) (cl := vwCl) (ws := [(a, .inr (ci, fs))]) (ci := ci) (v := .ref x) hx hb hts hin hown hK (hw.1.one ha (gDead_inr hc)) 0 rfl hc k hk (hts _ hl) (fun _ h9 => h9) hv hdg kk
/-- a store into a field that isn't final -/
theorem gg_put {a ci k idx N : Nat} {v : Value} {C ref : String} {T : u_T} {ty0 : Nat → FieldType} (hC : gC E D A p R s m args meth c cc nL own nm F L) (hw : gW E D A s σ H locs) (hf : gpf E σ a ci k v = some σ') (hc : vwCl[ci]? = some (C, T, N)) (hin : ∀ w ∈ u_ws C T N, w ∈ lwG) (hty : ∀ k, k < N → parseFieldDescriptor (T k).2.2.1 = some (ty0 k)) (hnm : ∀ a, a < N → ∀ b, b < N → a ≠ b → (T a).2.1 ≠ (T b).2.1) (hk : k < N) (hl : Cond.fieldLink own idx ref (T k).2.1 (T k).2.2.1 ∈ lwG) (hs : ref = (T k).1) (hfin : (T k).2.2.2 = false) (hn : narrow (ty0 k) v = v) (hfit : fits (ty0 k) v = true) (hdg : decode cc pc = .ok (.putfield idx, 3))
    (kk : ∀ (H : Heap) (locs : List Loc), gW E D A s σ' H locs → W p l e R s m args below meth c H locs cells slots Q (F0 m (pc + 3) ls rest)) : W p l e R s m args below meth c H locs cells slots Q (F0 m pc ls (v :: .ref a :: rest)) := by
  obtain ⟨hx, hb, hml, hown, hts, hK, hA, hX, -⟩ := hC
  obtain ⟨fs, ha, hl9, rfl⟩ := gpf_some hf
  subst hs
  have hd := gDead_inr (fs := fs) hc
  have hap := va_apart (own := own) hts hin ty0 hty hnm hK hc
  obtain ⟨r, h1, cell, q1, q2, q3, q4⟩ := hw.1.one ha hd 0 _ rfl
  have hr : r = (C, T, N) := Option.some.inj (h1.symm.trans hc)
  subst hr
  obtain ⟨hS, hfc, kC, hkC, hkind⟩ := hK.1 ci _ hc
  obtain ⟨cf, kf, fi, f, hi, hsl⟩ := hS k hk
  have hlay := hts _ (hin _ (u_in_lay hk))
  unfold u_lay at hlay
  rw [if_neg (by rw [hfin]; decide)] at hlay
  have hst := (u_facts hfc hkC (u_lays hts hin hk) hi).1
  have h6 := u_store hfc hkC hkind hlay hi (hty k hk) hn hfit
  refine W.putK hx hb (f := f) ⟨hown, hts _ hl, ⟨_, _, _, hi⟩, hst⟩ (by rw [q2]; exact h6) q1 q3 (by rw [hsl]; exact k2_hasslot (q4 k hk)) rfl rfl hdg fun H' e1 e2 e3 => ?_
  rw [hsl] at e1 ⊢
  exact kk H' _ ⟨hw.1.store ha hd ⟨_, hc, t_OB.to (V := updV (vp_V fs) k v) ⟨_, e1, q2, q3, t_set q4 hap hk v⟩ (fun j _ => vp_updV_set hl9 v j)⟩ e2 e3 (fun c0 hc0 => ⟨_, e1, by rw [show c0 = cell from Option.some.inj (hc0.symm.trans q1)]; exact k2_slotsz _ _ _⟩), hw.2.1.put e2 e3 ((hw.1.2.2.2.2 a (by rw [ha]; exact hd)).2), hw.2.2⟩
theorem gg_putF {a ci k idx N : Nat} {v : Value} {C : String} {T : u_T} {ty0 : Nat → FieldType} (hC : gC E D A p R s m args meth c cc nL own "<init>" F L) (hw : gW E D A s σ H locs) (hf : gpf E σ a ci k v = some σ') (hc : vwCl[ci]? = some (C, T, N)) (hin : ∀ w ∈ u_ws C T N, w ∈ lwG) (hty : ∀ k, k < N → parseFieldDescriptor (T k).2.2.1 = some (ty0 k)) (hnm : ∀ a, a < N → ∀ b, b < N → a ≠ b → (T a).2.1 ≠ (T b).2.1) (hk : k < N) (hl : Cond.fieldLink own idx own (T k).2.1 (T k).2.2.1 ∈ lwG) (hs : (T k).1 = own) (hfin : (T k).2.2.2 = true) (hn : narrow (ty0 k) v = v) (hfit : fits (ty0 k) v = true) (hdg : decode cc pc = .ok (.putfield idx, 3))
    (kk : ∀ (H : Heap) (locs : List Loc), gW E D A s σ' H locs → W p l e R s m args below meth c H locs cells slots Q (F0 m (pc + 3) ls rest)) : W p l e R s m args below meth c H locs cells slots Q (F0 m pc ls (v :: .ref a :: rest)) := by
  obtain ⟨hx, hb, hml, hown, hts, hK, hA, hX, hin2, -⟩ := hC
  obtain ⟨fs, ha, hl9, rfl⟩ := gpf_some hf
  have hd := gDead_inr (fs := fs) hc
  have hap := va_apart (own := own) hts hin ty0 hty hnm hK hc
  obtain ⟨r, h1, cell, q1, q2, q3, q4⟩ := hw.1.one ha hd 0 _ rfl
  have hr : r = (C, T, N) := Option.some.inj (h1.symm.trans hc)
  subst hr
  obtain ⟨hS, hfc, kC, hkC, hkind⟩ := hK.1 ci _ hc
  obtain ⟨cf, kf, fi, f, hi, hsl⟩ := hS k hk
  have hlay := hts _ (hin _ (u_in_lay hk))
  unfold u_lay at hlay
  rw [if_pos hfin] at hlay
  have hst := (u_facts hfc hkC (u_lays hts hin hk) hi).1
  have hcf : m.cls = cf := by
    obtain ⟨_, _, c', _, _, _, -, -, hf', -, -, -, hown2, -⟩ := Cond.laysFinal_spec hlay
    have e1 : c' = cf := by have := hi.symm.trans hf'; simp at this; exact this.1.symm
    rw [hs] at hown2
    rw [← e1]; exact Option.some.inj (hown.symm.trans hown2)
  have h6 := u_fits hfc hkC hkind (Or.inr hlay) hi (hty k hk) hn hfit
  refine W.putFinK hx hb hown (hts _ hl) (by rw [← hs]; exact hi) hst hcf hin2 (by rw [q2]; exact h6) q1 q3 (by rw [hsl]; exact k2_hasslot (q4 k hk)) rfl rfl hdg fun H' e1 e2 e3 => ?_
  rw [hsl] at e1 ⊢
  exact kk H' _ ⟨hw.1.store ha hd ⟨_, hc, t_OB.to (V := updV (vp_V fs) k v) ⟨_, e1, q2, q3, t_set q4 hap hk v⟩ (fun j _ => vp_updV_set hl9 v j)⟩ e2 e3 (fun c0 hc0 => ⟨_, e1, by rw [show c0 = cell from Option.some.inj (hc0.symm.trans q1)]; exact k2_slotsz _ _ _⟩), hw.2.1.put e2 e3 ((hw.1.2.2.2.2 a (by rw [ha]; exact hd)).2), hw.2.2⟩
/-! arrays -/
theorem gat_no {E : gE} {σ : gS} {a : Nat} (h : ¬ gro E a = true) : gat E σ a = σ.1 a := if_neg h
theorem gat_ro {E : gE} {σ : gS} {a : Nat} (h : gro E a = true) : gat E σ a = gcs E a := if_pos h
theorem gac_no {E : gE} {t a : Nat} (h : ¬ gro E a = true) : gac E t a = gcy E t := if_neg h
theorem gac_ro {E : gE} {t a : Nat} (h : gro E a = true) : gac E t a = t := if_pos h
theorem gC.weak (hC : gC E D A p R s m args meth c cc nL own nm F L) {a t n : Nat} {y : (Nat → Int32) ⊕ (Nat → Int64) ⊕ (Nat → UInt32) ⊕ (Nat → UInt64) ⊕ (Nat → Option Nat)} (h : gro E a = true) (he : gcs E a = .inl (t, n, y)) : va_T (gty t) a n (gvals y) A s s.heap := by
  have hX := hC.2.2.2.2.2.2.2.1.2.2.2.2.1 a h
  unfold gWk at hX
  rw [he] at hX
  exact hX
theorem gg_aldI {a : Nat} {i x : Int32} (hC : gC E D A p R s m args meth c cc nL own nm F L) (hw : gW E D A s σ H locs) (hf : graI E 0 σ a i = some x) (hdg : decode cc pc = .ok (.iaload, 1))
    (kk : W p l e R s m args below meth c H locs cells slots Q (F0 m (pc + 1) ls (.int x :: rest))) : W p l e R s m args below meth c H locs cells slots Q (F0 m pc ls (.int i :: .ref a :: rest)) := by
  obtain ⟨n, g, ha, hin, rfl⟩ := graI_some hf
  by_cases hro : gro E a = true
  · rw [gat_ro hro, gac_ro hro] at ha
    have hT := hC.weak hro ha
    obtain ⟨hx, hb, hml, hown, hts, hK, -⟩ := hC
    exact va_ti hx hb hT hw.2.1 hin rfl hdg kk
  · rw [gat_no hro, gac_no hro] at ha
    obtain ⟨hx, hb, hml, hown, hts, hK, -⟩ := hC
    exact va_iald hx hb hK (hw.1.one ha gDead_inl) 0 0 rfl rfl hin hdg kk
theorem gg_aldB {a : Nat} {i x : Int32} (hC : gC E D A p R s m args meth c cc nL own nm F L) (hw : gW E D A s σ H locs) (hf : graI E 1 σ a i = some x) (hdg : decode cc pc = .ok (.baload, 1))
    (kk : W p l e R s m args below meth c H locs cells slots Q (F0 m (pc + 1) ls (.int x :: rest))) : W p l e R s m args below meth c H locs cells slots Q (F0 m pc ls (.int i :: .ref a :: rest)) := by
  obtain ⟨n, g, ha, hin, rfl⟩ := graI_some hf
  by_cases hro : gro E a = true
  · rw [gat_ro hro, gac_ro hro] at ha
    have hT := hC.weak hro ha
    obtain ⟨hx, hb, hml, hown, hts, hK, -⟩ := hC
    exact va_tb hx hb hT hw.2.1 hin rfl hdg kk
  · rw [gat_no hro, gac_no hro] at ha
    obtain ⟨hx, hb, hml, hown, hts, hK, -⟩ := hC
    exact va_bald hx hb hK (hw.1.one ha gDead_inl) 0 1 rfl rfl hin hdg kk
theorem gg_aldJ {a : Nat} {i : Int32} {x : Int64} (hC : gC E D A p R s m args meth c cc nL own nm F L) (hw : gW E D A s σ H locs) (hf : graJ E σ a i = some x) (hdg : decode cc pc = .ok (.laload, 1))
    (kk : W p l e R s m args below meth c H locs cells slots Q (F0 m (pc + 1) ls (.long x :: rest))) : W p l e R s m args below meth c H locs cells slots Q (F0 m pc ls (.int i :: .ref a :: rest)) := by
  obtain ⟨hx, hb, hml, hown, hts, hK, -⟩ := hC
  obtain ⟨n, g, ha, hin, rfl⟩ := graJ_some hf
  exact va_lald hx hb hK (hw.1.one ha gDead_inl) 0 2 rfl rfl hin hdg kk
theorem gg_aldR {a x t : Nat} {C : String} {i : Int32} (hC : gC E D A p R s m args meth c cc nL own nm F L) (hw : gW E D A s σ H locs) (hf : graR E t σ a i = some x) (ht : (gTy E)[t]? = some (gcy E t, .object C)) (hg : gty t = .object "PackedTable$Kind") (hdg : decode cc pc = .ok (.aaload, 1))
    (kk : W p l e R s m args below meth c H locs cells slots Q (F0 m (pc + 1) ls (.ref x :: rest))) : W p l e R s m args below meth c H locs cells slots Q (F0 m pc ls (.int i :: .ref a :: rest)) := by
  obtain ⟨n, g, ha, hin, hg2⟩ := graR_some hf
  by_cases hro : gro E a = true
  · rw [gat_ro hro, gac_ro hro] at ha
    have hT := hC.weak hro ha
    rw [hg] at hT
    obtain ⟨hx, hb, hml, hown, hts, hK, -⟩ := hC
    exact vb_tq hx hb hT hw.2.1 hin (show va_rf (g i.toNatClampNeg) = _ by rw [hg2]; rfl) hdg kk
  · rw [gat_no hro, gac_no hro] at ha
    obtain ⟨hx, hb, hml, hown, hts, hK, -⟩ := hC
    refine va_aldq hx hb hK (hw.1.one ha gDead_inl) 0 t rfl ht hin hdg ?_
    rw [hg2]
    exact kk
/-- .. of an array that is only read -/
theorem gg_aldK {a x : Nat} {i : Int32} (hC : gC E D A p R s m args meth c cc nL own nm F L) (hw : gW E D A s σ H locs) (hf : graK E a i = some x) (hdg : decode cc pc = .ok (.aaload, 1))
    (kk : W p l e R s m args below meth c H locs cells slots Q (F0 m (pc + 1) ls (.ref x :: rest))) : W p l e R s m args below meth c H locs cells slots Q (F0 m pc ls (.int i :: .ref a :: rest)) := by
  obtain ⟨hro, n, g, ha, hin, hg2⟩ := graK_some hf
  have hT := hC.weak hro ha
  obtain ⟨hx, hb, hml, hown, hts, hK, -⟩ := hC
  exact vb_tq (C := "PackedTable$Kind") hx hb hT hw.2.1 hin (show va_rf (g i.toNatClampNeg) = _ by rw [hg2]; rfl) hdg kk
theorem gg_alen {a t : Nat} {x : Int32} {ty : FieldType} (hC : gC E D A p R s m args meth c cc nL own nm F L) (hw : gW E D A s σ H locs) (hf : gal E t σ a = some x) (ht : gro E a = true ∨ (gTy E)[t]? = some (gcy E t, ty)) (hdg : decode cc pc = .ok (.arraylength, 1))
    (kk : W p l e R s m args below meth c H locs cells slots Q (F0 m (pc + 1) ls (.int x :: rest))) : W p l e R s m args below meth c H locs cells slots Q (F0 m pc ls (.ref a :: rest)) := by
  obtain ⟨y, ha, hy⟩ := gal_some hf
  by_cases hro : gro E a = true
  · rw [gat_ro hro, gac_ro hro] at ha
    have hT := hC.weak (n := y.1) (y := y.2) hro ha
    obtain ⟨hx, hb, hml, hown, hts, hK, -⟩ := hC
    exact va_tlen hx hb hT hw.2.1 hy hdg kk
  · rw [gat_no hro, gac_no hro] at ha
    obtain ⟨hx, hb, hml, hown, hts, hK, -⟩ := hC
    exact va_alen hx hb hK (hw.1.one ha gDead_inl) 0 t rfl (ht.resolve_left hro) hy hdg kk
theorem gg_alenK {a : Nat} {x : Int32} (hC : gC E D A p R s m args meth c cc nL own nm F L) (hw : gW E D A s σ H locs) (hf : galK E a = some x) (hdg : decode cc pc = .ok (.arraylength, 1))
    (kk : W p l e R s m args below meth c H locs cells slots Q (F0 m (pc + 1) ls (.int x :: rest))) : W p l e R s m args below meth c H locs cells slots Q (F0 m pc ls (.ref a :: rest)) := by
  obtain ⟨hro, y, ha, hy⟩ := galK_some hf
  have hT := hC.weak (n := y.1) (y := y.2) hro ha
  obtain ⟨hx, hb, hml, hown, hts, hK, -⟩ := hC
  exact va_tlen hx hb hT hw.2.1 hy hdg kk
/-- a field of an object that is only read -/
theorem gg_xget {a ci k idx : Nat} {v : Value} {fs : List Value} {ref n d : String} (hC : gC E D A p R s m args meth c cc nL own nm F L) (hw : gW E D A s σ H locs) (hro : gro E a = true) (he : gcs E a = .inr (ci, fs)) (hv : fs[k]? = some v) (hg : gff ci k = (ref, n, d)) (hl : Cond.fieldLink own idx ref n d ∈ lwG) (hdg : decode cc pc = .ok (.getfield idx, 3))
    (kk : W p l e R s m args below meth c H locs cells slots Q (F0 m (pc + 3) ls (v :: rest))) : W p l e R s m args below meth c H locs cells slots Q (F0 m pc ls (.ref a :: rest)) := by
  have hX := hC.2.2.2.2.2.2.2.1.2.2.2.2.1 a hro
  unfold gWk at hX
  rw [he] at hX
  have h2 := hX.2 k v hv
  rw [hg] at h2
  obtain ⟨hx, hb, hml, hown, hts, hK, -⟩ := hC
  exact vk_getf hx hb h2 hw.2.1 hown (hts _ hl) (fun _ h9 => h9) hdg kk
theorem gg_xgetN {a ci k idx : Nat} {v : Value} {fs : List Value} {ref n d host : String} (hC : gC E D A p R s m args meth c cc nL own nm F L) (hw : gW E D A s σ H locs) (hro : gro E a = true) (he : gcs E a = .inr (ci, fs)) (hv : fs[k]? = some v) (hg : gff ci k = (ref, n, d)) (hl : Cond.fieldLinkNest own idx ref n d host ∈ lwN) (hdg : decode cc pc = .ok (.getfield idx, 3))
    (kk : W p l e R s m args below meth c H locs cells slots Q (F0 m (pc + 3) ls (v :: rest))) : W p l e R s m args below meth c H locs cells slots Q (F0 m pc ls (.ref a :: rest)) := by
  have hX := hC.2.2.2.2.2.2.2.1.2.2.2.2.1 a hro
  have hNl := va_Nw.use (A := args) rfl (hC.2.2.2.2.2.2.2.1.1 _ hl)
  unfold gWk at hX
  rw [he] at hX
  have h2 := hX.2 k v hv
  rw [hg] at h2
  obtain ⟨hx, hb, hml, hown, hts, hK, -⟩ := hC
  obtain ⟨cf, k9, fi, f, cell, h1, h2, h3, h4, h5, h6⟩ := h2.kept hw.2.1.2.1
  exact va_Wgetf hx hb hown hNl h1 h2 h3 h4 (v := v) h5 rfl rfl hdg kk
/-- getstatic -/
theorem gg_gets {idx k : Nat} {q : String × String × String × (gE → Value)} (hC : gC E D A p R s m args meth c cc nL own nm F L) (hw : gW E D A s σ H locs) (hq : gSta[k]? = some q) (hl : Cond.fieldLink own idx q.1 q.2.1 q.2.2.1 ∈ lwG) (hdg : decode cc pc = .ok (.getstatic idx, 3))
    (kk : W p l e R s m args below meth c H locs cells slots Q (F0 m (pc + 3) ls (q.2.2.2 E :: rest))) : W p l e R s m args below meth c H locs cells slots Q (F0 m pc ls rest) := by
  obtain ⟨hx, hb, hml, hown, hts, hK, hA, hX, -⟩ := hC
  exact va_gets hx hb (hX.2.2.2.1 q (List.mem_of_getElem? hq)) hw.2.1 hown (hts _ hl) (fun _ h9 => h9) hdg kk
/-- a String constant -/
theorem gg_ldcS {idx k : Nat} {q : String × Nat × String × Nat} (hC : gC E D A p R s m args meth c cc nL own nm F L) (hq : gStr[k]? = some q) (h1 : q.1 = own) (h2 : q.2.1 = idx) (hdg : decode cc pc = .ok (.ldc idx, 2))
    (kk : W p l e R s m args below meth c H locs cells slots Q (F0 m (pc + 2) ls (.ref (gst E q.2.2.2) :: rest))) : W p l e R s m args below meth c H locs cells slots Q (F0 m pc ls rest) := by
  obtain ⟨hx, hb, hml, hown, hts, hK, hA, hX, -⟩ := hC
  subst h1
  subst h2
  exact va_ldcS hx hb hown (hX.2.2.1 q (List.mem_of_getElem? hq)) hdg kk
theorem gg_ldcSw {idx k : Nat} {q : String × Nat × String × Nat} (hC : gC E D A p R s m args meth c cc nL own nm F L) (hq : gStr[k]? = some q) (h1 : q.1 = own) (h2 : q.2.1 = idx) (hdg : decode cc pc = .ok (.ldc_w idx, 3))
    (kk : W p l e R s m args below meth c H locs cells slots Q (F0 m (pc + 3) ls (.ref (gst E q.2.2.2) :: rest))) : W p l e R s m args below meth c H locs cells slots Q (F0 m pc ls rest) := by
  obtain ⟨hx, hb, hml, hown, hts, hK, hA, hX, -⟩ := hC
  subst h1
  subst h2
  have hZ := hX.2.2.1 q (List.mem_of_getElem? hq)
  intro T hT X
  obtain ⟨t, a1, b1⟩ := kk T hT X
  exact ⟨t, X.ldcStringW hx hown (text := q.2.2.1) (a := gst E q.2.2.2) hZ.1 hZ.2 (g := F0 m pc ls rest) rfl (by rw [hb]; exact hdg) t a1, b1⟩
theorem gg_astI {a : Nat} {i x : Int32} (hC : gC E D A p R s m args meth c cc nL own nm F L) (hw : gW E D A s σ H locs) (hf : gwaI E σ a i x = some σ') (hdg : decode cc pc = .ok (.iastore, 1))
    (kk : ∀ (H : Heap) (locs : List Loc), gW E D A s σ' H locs → W p l e R s m args below meth c H locs cells slots Q (F0 m (pc + 1) ls rest)) : W p l e R s m args below meth c H locs cells slots Q (F0 m pc ls (.int x :: .int i :: .ref a :: rest)) := by
  obtain ⟨hx, hb, hml, hown, hts, hK, -⟩ := hC
  obtain ⟨n, f, ha, hin, rfl⟩ := gwaI_some hf
  have hP := hw.1.one ha gDead_inl
  refine W.iast hx hb (hP 0 _ rfl) ((hK.2 0 _ rfl).1 n (fun j => .int (f j))) (fun q => by cases q) (by show ¬ (i < 0 ∨ (arrV _ _ _).slots.size ≤ _); rw [arrV_size]; exact hin) rfl rfl hdg fun H1 e1 z oq => ?_
  refine kk H1 _ ⟨hw.1.store ha gDead_inl ?_ z oq (fun c0 hc0 => ⟨_, e1, ?_⟩), hw.2.1.put z oq ((hw.1.2.2.2.2 a (by rw [ha]; exact gDead_inl)).2), hw.2.2⟩
  · show H1[a]? = some (vp_cell _ _)
    rw [e1, vp_cell_i, vp_cell_i, arrV_store]
    congr 2
    funext q
    by_cases hq : q = i.toNatClampNeg
    · subst hq
      simp [updV, upd]
    · simp [updV, upd, hq]
  · have h0 : H[a]? = some (vp_cell (gcy E 0) (n, .inl f)) := hP 0 _ rfl
    rw [show c0 = _ from Option.some.inj (hc0.symm.trans h0)]
    exact k2_slotsz _ _ _
/-! new -/
theorem gg_new {ci idx N q : Nat} {fs : List Value} {C : String} {T : u_T} {ty0 : Nat → FieldType} (hC : gC E D A p R s m args meth c cc nL own nm F L) (hw : gW E D A s σ H locs) (hf : gnew E σ ci fs = some (q, σ')) (hc : vwCl[ci]? = some (C, T, N)) (hin : ∀ w ∈ u_ws C T N, w ∈ lwG) (hty : ∀ k, k < N → parseFieldDescriptor (T k).2.2.1 = some (ty0 k)) (hcl : Cond.classLink own idx C ∈ lwG) (hit : Cond.instantiable C N ∈ lwG) (hini : Cond.initialized C ∈ lwG) (hfs : ∀ j, j < N → defaultValue (ty0 j) = vp_V fs j) (hfl : fs.length = N) (hdg : decode cc pc = .ok (.new idx, 3))
    (kk : ∀ (H : Heap) (locs : List Loc) (cells slots : Nat), gW E D A s σ' H locs → W p l e R s m args below meth c H locs cells slots Q (F0 m (pc + 3) ls (.ref q :: rest))) : W p l e R s m args below meth c H locs cells slots Q (F0 m pc ls rest) := by
  obtain ⟨hx, hb, hml, hown, hts, hK, hA, hX, hnm, hF, hL, hRc, hRs⟩ := hC
  obtain ⟨h1, h2, h3⟩ := gnew_some hf
  cases h3
  have hsz := hw.1.1
  have hsl := hw.1.2.1
  have hs0 := hw.2.1.1
  have hs1 := hw.2.2
  rw [hfl] at h2 kk
  refine gg_tight hs0 ?_
  have hKn := hK.1 ci _ hc
  refine W.newc hx hb hown (hts _ hcl) (hts _ hit) (hts _ hini) rfl hdg (by omega) (by omega) fun cC kC g1 hkC g3 g4 => ?_
  obtain rfl : D.1 ci = cC := Option.some.inj (hKn.2.1.symm.trans g1)
  obtain ⟨H1, hH1⟩ : ∃ H1, H1 = H.push (blank (D.1 ci) kC) := ⟨_, rfl⟩
  show W p l e R s m args below meth c (H.push (blank (D.1 ci) kC)) locs _ _ Q _
  rw [← hH1]
  have e1 : H1[H.size]? = some (blank (D.1 ci) kC) := by rw [hH1]; simp
  have z1 : H1.size = H.size + 1 := by rw [hH1]; simp
  have o1 : ∀ q, q < H.size → H1[q]? = H[q]? := fun q hq => by rw [hH1, Array.getElem?_push, if_neg (Nat.ne_of_lt hq)]
  have hb1 := u_born ty0 hts hin hKn hkC e1 hty
  have hsum : gsum H1 = gsum H + N := by
    rw [gsum_push z1 o1 e1]
    congr 1
    simp [blank, g4]
  rw [← hsz] at kk
  refine kk H1 _ _ _ ⟨?_, ⟨Nat.le_trans hs0 (by omega), fun x g1 g2 => (o1 x (Nat.lt_of_lt_of_le g1 hs0)).trans (hw.2.1.2.1 x g1 g2), hw.2.1.2.2⟩, by show gsum s.heap ≤ σ.2.2 + N; omega⟩
  rw [show (va_up σ.1 H.size (.inr (ci, fs)), H.size + 1, σ.2.2 + N) = ((va_up σ.1 σ.2.1 (.inr (ci, fs)), σ.2.1 + 1, σ.2.2 + N) : gS) by rw [hsz]]
  exact hw.1.push (by rw [← hsz]; exact hA _ hs0) h1 h2 (by rw [← hsz]; exact ⟨_, hc, hb1.to hfs⟩) z1 o1 hsum
end GG
