/-! more rows: stores of other arrays, new arrays, copies, nest mates; what a method's end asks -/
def gz (x : Int32) : Option Unit := if x = 0 ∨ x = 1 then some () else none
theorem gz_or {x : Int32} {u : Unit} (h : gz x = some u) : x = 0 ∨ x = 1 := by
  unfold gz at h
  split at h
  · assumption
  · cases h
theorem gz_some {x : Int32} {u : Unit} (h : gz x = some u) : narrow .boolean (.int x) = .int x := by
  rcases gz_or h with rfl | rfl <;> rfl
theorem gz_fits {x : Int32} {u : Unit} (h : gz x = some u) : fits .boolean (.int x) = true := by
  rcases gz_or h with rfl | rfl <;> rfl
def gnz (y : Int32) : Option Unit := if y = 0 then none else some ()
theorem gnz_some {y : Int32} {u : Unit} (h : gnz y = some u) : ¬ y = 0 := by
  unfold gnz at h
  split at h
  · cases h
  · assumption
abbrev gushr (x y : Int32) : Int32 := (x.toUInt32 >>> (y.toUInt32 &&& Int32.toUInt32 31)).toInt32
abbrev glshl (x : Int64) (y : Int32) : Int64 := x <<< (y.toInt64 &&& 63)
abbrev glushr (x : Int64) (y : Int32) : Int64 := (x.toUInt64 >>> (y.toInt64.toUInt64 &&& Int64.toUInt64 63)).toInt64
abbrev gi2b (x : Int32) : Int32 := x.toInt8.toInt32
def gddiv (x y : UInt64) : Option UInt64 := if FP.ddiv x y &&& 0x7fffffffffffffff ≤ 0x7ff0000000000000 then some (FP.ddiv x y) else none
theorem gddiv_some {x y v : UInt64} (h : gddiv x y = some v) : v = FP.ddiv x y ∧ vf_n64 (FP.ddiv x y) := by
  unfold gddiv at h
  split at h
  · rename_i h1
    cases h
    exact ⟨rfl, h1⟩
  · cases h
def gfdiv (x y : UInt32) : Option UInt32 := if FP.fdiv x y &&& 0x7fffffff ≤ 0x7f800000 then some (FP.fdiv x y) else none
theorem gfdiv_some {x y v : UInt32} (h : gfdiv x y = some v) : v = FP.fdiv x y ∧ vf_n32 (FP.fdiv x y) := by
  unfold gfdiv at h
  split at h
  · rename_i h1
    cases h
    exact ⟨rfl, h1⟩
  · cases h
def gf2d (x : UInt32) : Option UInt64 := if FP.f2d x &&& 0x7fffffffffffffff ≤ 0x7ff0000000000000 then some (FP.f2d x) else none
theorem gf2d_some {x : UInt32} {v : UInt64} (h : gf2d x = some v) : v = FP.f2d x ∧ vf_n64 (FP.f2d x) := by
  unfold gf2d at h
  split at h
  · rename_i h1
    cases h
    exact ⟨rfl, h1⟩
  · cases h
theorem gtab {x : Int32} {lo hi : Int} (vs : List Int32) (hvs : vs = (List.range vs.length).map (fun (i : Nat) => Int32.ofInt (lo + (i : Int)))) (hh : hi = lo + (vs.length : Int) - 1) (h : ∀ v ∈ vs, ¬ x = v) : x.toInt < lo ∨ hi < x.toInt := by
  by_cases h1 : x.toInt < lo
  · exact Or.inl h1
  · refine Or.inr ?_
    by_cases h2 : hi < x.toInt
    · exact h2
    · exfalso
      refine h x ?_ rfl
      rw [hvs]
      have h3 : (x.toInt - lo).toNat < vs.length := by omega
      refine List.mem_map.mpr ⟨(x.toInt - lo).toNat, List.mem_range.mpr h3, ?_⟩
      rw [show lo + ((x.toInt - lo).toNat : Int) = x.toInt by omega]
      exact Int32.ofInt_toInt x
theorem gvc {x v : Int32} {l : List Int32} (h : ¬ x = v) (t : ∀ w ∈ l, ¬ x = w) : ∀ w ∈ v :: l, ¬ x = w := List.forall_mem_cons.mpr ⟨h, t⟩
theorem gvn {x : Int32} : ∀ w ∈ ([] : List Int32), ¬ x = w := fun _ h => nomatch h
theorem glk {x v : Int32} {a o d off : Int} {r : List (Int × Int)} (h : ¬ x = v) (hv : v.toInt = a) (t : Op.lookupswitch.offset r d x.toInt = off) : Op.lookupswitch.offset ((a, o) :: r) d x.toInt = off := by
  rw [Op.lookupswitch.offset_cons, if_neg]
  · exact t
  · intro e
    exact h (Int32.toInt_inj.mp (by rw [hv]; exact e.symm))
theorem glkE {x v : Int32} {a o d : Int} {r : List (Int × Int)} (h : x = v) (hv : v.toInt = a) : Op.lookupswitch.offset ((a, o) :: r) d x.toInt = o := by
  rw [Op.lookupswitch.offset_cons, if_pos]
  rw [h, hv]
def graD (E : gE) (σ : gS) (a : Nat) (i : Int32) : Option UInt64 := match σ.1 a with
  | .inl (c, n, .inr (.inr (.inr (.inl g)))) => if c = gcy E 3 ∧ ¬ (i < 0 ∨ n ≤ i.toNatClampNeg) then some (g i.toNatClampNeg) else none
  | _ => none
theorem graD_some {E : gE} {σ : gS} {a : Nat} {i : Int32} {x : UInt64} (h : graD E σ a i = some x) : ∃ (n : Nat) (g : Nat → UInt64), σ.1 a = .inl (gcy E 3, n, .inr (.inr (.inr (.inl g)))) ∧ vp_in i n ∧ x = g i.toNatClampNeg := by
  unfold graD at h
  split at h
  · rename_i c n g hc
    split at h
    · rename_i he
      obtain ⟨rfl, h1⟩ := he
      cases h
      exact ⟨n, g, hc, h1, rfl⟩
    · cases h
  · cases h
def gwaD (E : gE) (σ : gS) (a : Nat) (i : Int32) (x : UInt64) : Option gS := match σ.1 a with
  | .inl (c, n, .inr (.inr (.inr (.inl g)))) => if c = gcy E 3 ∧ ¬ (i < 0 ∨ n ≤ i.toNatClampNeg) then some (va_up σ.1 a (.inl (c, n, .inr (.inr (.inr (.inl (vf_upd g i.toNatClampNeg x)))))), σ.2) else none
  | _ => none
theorem gwaD_some {E : gE} {σ σ' : gS} {a : Nat} {i : Int32} {x : UInt64} (h : gwaD E σ a i x = some σ') : ∃ (n : Nat) (g : Nat → UInt64), σ.1 a = .inl (gcy E 3, n, .inr (.inr (.inr (.inl g)))) ∧ vp_in i n ∧ σ' = (va_up σ.1 a (.inl (gcy E 3, n, .inr (.inr (.inr (.inl (vf_upd g i.toNatClampNeg x)))))), σ.2) := by
  unfold gwaD at h
  split at h
  · rename_i c n g hc
    split at h
    · rename_i he
      obtain ⟨rfl, h1⟩ := he
      cases h
      exact ⟨n, g, hc, h1, rfl⟩
    · cases h
  · cases h
/-- a String put into a row of Strings -/
def gwaS (E : gE) (σ : gS) (a : Nat) (i : Int32) (v : Nat) : Option gS := match σ.1 a with
  | .inl (c, n, .inr (.inr (.inr (.inr g)))) => if c = gcy E 7 ∧ gxc E v 100 = some () ∧ ¬ (i < 0 ∨ n ≤ i.toNatClampNeg) then some (va_up σ.1 a (.inl (c, n, .inr (.inr (.inr (.inr (va_up g i.toNatClampNeg (some v))))))), σ.2) else none
  | _ => none
theorem gwaS_some {E : gE} {σ σ' : gS} {a v : Nat} {i : Int32} (h : gwaS E σ a i v = some σ') : ∃ (n : Nat) (g : Nat → Option Nat), σ.1 a = .inl (gcy E 7, n, .inr (.inr (.inr (.inr g)))) ∧ gxc E v 100 = some () ∧ vp_in i n ∧ σ' = (va_up σ.1 a (.inl (gcy E 7, n, .inr (.inr (.inr (.inr (va_up g i.toNatClampNeg (some v))))))), σ.2) := by
  unfold gwaS at h
  split at h
  · rename_i c n g hc
    split at h
    · rename_i he
      obtain ⟨rfl, h0, h1⟩ := he
      cases h
      exact ⟨n, g, hc, h0, h1, rfl⟩
    · cases h
  · cases h
abbrev gQI (E : gE) (D : va_G) (A : Nat → Prop) (p : Program) (l : Launch) (e : Env) (R : Room) (s : State) (m : MethodId) (args : Array Value) (below : List Frame) (meth : Method) (c : Code) (Q : State → Prop) (b : ByteArray) (ty : FieldType) (res : Int32 × gS) : Prop :=
  ∀ (pc : Nat) (ls : Array Slot) (H : Heap) (locs : List Loc) (cells slots : Nat), decode b pc = .ok (.ireturn, 1) → narrow ty (.int res.1) = .int res.1 → gW E D A s res.2 H locs → W p l e R s m args below meth c H locs cells slots Q (F0 m pc ls [.int res.1])
abbrev gQJ (E : gE) (D : va_G) (A : Nat → Prop) (p : Program) (l : Launch) (e : Env) (R : Room) (s : State) (m : MethodId) (args : Array Value) (below : List Frame) (meth : Method) (c : Code) (Q : State → Prop) (b : ByteArray) (res : Int64 × gS) : Prop :=
  ∀ (pc : Nat) (ls : Array Slot) (H : Heap) (locs : List Loc) (cells slots : Nat), decode b pc = .ok (.lreturn, 1) → gW E D A s res.2 H locs → W p l e R s m args below meth c H locs cells slots Q (F0 m pc ls [.long res.1])
abbrev gQF (E : gE) (D : va_G) (A : Nat → Prop) (p : Program) (l : Launch) (e : Env) (R : Room) (s : State) (m : MethodId) (args : Array Value) (below : List Frame) (meth : Method) (c : Code) (Q : State → Prop) (b : ByteArray) (res : UInt32 × gS) : Prop :=
  ∀ (pc : Nat) (ls : Array Slot) (H : Heap) (locs : List Loc) (cells slots : Nat), decode b pc = .ok (.freturn, 1) → gW E D A s res.2 H locs → W p l e R s m args below meth c H locs cells slots Q (F0 m pc ls [.float res.1])
abbrev gQD (E : gE) (D : va_G) (A : Nat → Prop) (p : Program) (l : Launch) (e : Env) (R : Room) (s : State) (m : MethodId) (args : Array Value) (below : List Frame) (meth : Method) (c : Code) (Q : State → Prop) (b : ByteArray) (res : UInt64 × gS) : Prop :=
  ∀ (pc : Nat) (ls : Array Slot) (H : Heap) (locs : List Loc) (cells slots : Nat), decode b pc = .ok (.dreturn, 1) → gW E D A s res.2 H locs → W p l e R s m args below meth c H locs cells slots Q (F0 m pc ls [.double res.1])
abbrev gQR (E : gE) (D : va_G) (A : Nat → Prop) (p : Program) (l : Launch) (e : Env) (R : Room) (s : State) (m : MethodId) (args : Array Value) (below : List Frame) (meth : Method) (c : Code) (Q : State → Prop) (b : ByteArray) (res : Nat × gS) : Prop :=
  ∀ (pc : Nat) (ls : Array Slot) (H : Heap) (locs : List Loc) (cells slots : Nat), decode b pc = .ok (.areturn, 1) → gW E D A s res.2 H locs → W p l e R s m args below meth c H locs cells slots Q (F0 m pc ls [.ref res.1])
abbrev gQV (E : gE) (D : va_G) (A : Nat → Prop) (p : Program) (l : Launch) (e : Env) (R : Room) (s : State) (m : MethodId) (args : Array Value) (below : List Frame) (meth : Method) (c : Code) (Q : State → Prop) (b : ByteArray) (res : gS) : Prop :=
  ∀ (pc : Nat) (ls : Array Slot) (H : Heap) (locs : List Loc) (cells slots : Nat), decode b pc = .ok (.return_, 1) → gW E D A s res H locs → W p l e R s m args below meth c H locs cells slots Q (F0 m pc ls [])
def gwaB (E : gE) (σ : gS) (a : Nat) (i x : Int32) : Option gS := match σ.1 a with
  | .inl (c, n, .inl g) => if c = gcy E 1 ∧ ¬ (i < 0 ∨ n ≤ i.toNatClampNeg) then some (va_up σ.1 a (.inl (c, n, .inl (upd g i.toNatClampNeg (vp_nar .byte x)))), σ.2) else none
  | _ => none
theorem gwaB_some {E : gE} {σ σ' : gS} {a : Nat} {i x : Int32} (h : gwaB E σ a i x = some σ') : ∃ (n : Nat) (g : Nat → Int32), σ.1 a = .inl (gcy E 1, n, .inl g) ∧ vp_in i n ∧ σ' = (va_up σ.1 a (.inl (gcy E 1, n, .inl (upd g i.toNatClampNeg (vp_nar .byte x)))), σ.2) := by
  unfold gwaB at h
  split at h
  · rename_i c n g hc
    split at h
    · rename_i he
      obtain ⟨rfl, h1⟩ := he
      cases h
      exact ⟨n, g, hc, h1, rfl⟩
    · cases h
  · cases h
def gwaJ (E : gE) (σ : gS) (a : Nat) (i : Int32) (x : Int64) : Option gS := match σ.1 a with
  | .inl (c, n, .inr (.inl g)) => if c = gcy E 2 ∧ ¬ (i < 0 ∨ n ≤ i.toNatClampNeg) then some (va_up σ.1 a (.inl (c, n, .inr (.inl (vp_updL g i.toNatClampNeg x)))), σ.2) else none
  | _ => none
theorem gwaJ_some {E : gE} {σ σ' : gS} {a : Nat} {i : Int32} {x : Int64} (h : gwaJ E σ a i x = some σ') : ∃ (n : Nat) (g : Nat → Int64), σ.1 a = .inl (gcy E 2, n, .inr (.inl g)) ∧ vp_in i n ∧ σ' = (va_up σ.1 a (.inl (gcy E 2, n, .inr (.inl (vp_updL g i.toNatClampNeg x)))), σ.2) := by
  unfold gwaJ at h
  split at h
  · rename_i c n g hc
    split at h
    · rename_i he
      obtain ⟨rfl, h1⟩ := he
      cases h
      exact ⟨n, g, hc, h1, rfl⟩
    · cases h
  · cases h
def gwaR (E : gE) (t ci : Nat) (σ : gS) (a : Nat) (i : Int32) (v : Nat) : Option gS := match σ.1 a, σ.1 v with
  | .inl (c, n, .inr (.inr (.inr (.inr g)))), .inr (c2, _) => if c = gcy E t ∧ c2 = ci ∧ ¬ (i < 0 ∨ n ≤ i.toNatClampNeg) then some (va_up σ.1 a (.inl (c, n, .inr (.inr (.inr (.inr (va_up g i.toNatClampNeg (some v))))))), σ.2) else none
  | _, _ => none
theorem gwaR_some {E : gE} {t ci : Nat} {σ σ' : gS} {a v : Nat} {i : Int32} (h : gwaR E t ci σ a i v = some σ') : ∃ (n : Nat) (g : Nat → Option Nat) (fs : List Value), σ.1 a = .inl (gcy E t, n, .inr (.inr (.inr (.inr g)))) ∧ σ.1 v = .inr (ci, fs) ∧ vp_in i n ∧ σ' = (va_up σ.1 a (.inl (gcy E t, n, .inr (.inr (.inr (.inr (va_up g i.toNatClampNeg (some v))))))), σ.2) := by
  unfold gwaR at h
  split at h
  · rename_i c n g c2 fs hc hv
    split at h
    · rename_i he
      obtain ⟨rfl, rfl, h1⟩ := he
      cases h
      exact ⟨n, g, fs, hc, hv, h1, rfl⟩
    · cases h
  · cases h
/-- a new array of n places of kind t, which holds what x says -/
def gna (E : gE) (t : Nat) (x : Nat → vp_A) (σ : gS) (n : Int32) : Option (Nat × gS) :=
  if ¬ n < 0 ∧ n.toNatClampNeg ≤ 60000000 ∧ σ.2.1 + 1 ≤ gK E ∧ σ.2.2 + n.toNatClampNeg ≤ gM E then some (σ.2.1, (va_up σ.1 σ.2.1 (.inl (gcy E t, x n.toNatClampNeg)), σ.2.1 + 1, σ.2.2 + n.toNatClampNeg)) else none
abbrev gnaI (E : gE) := gna E 0 (fun n => (n, .inl (fun _ => 0)))
abbrev gnaB (E : gE) := gna E 1 (fun n => (n, .inl (fun _ => 0)))
abbrev gnaJ (E : gE) := gna E 2 (fun n => (n, .inr (.inl (fun _ => 0))))
abbrev gnaD (E : gE) := gna E 3 (fun n => (n, .inr (.inr (.inr (.inl (fun _ => 0))))))
abbrev gnaR (E : gE) (t : Nat) := gna E t (fun n => (n, .inr (.inr (.inr (.inr (fun _ => none))))))
theorem gna_some {E : gE} {t : Nat} {x : Nat → vp_A} {σ : gS} {n : Int32} {r : Nat × gS} (h : gna E t x σ n = some r) : ¬ n < 0 ∧ n.toNatClampNeg ≤ 60000000 ∧ σ.2.1 + 1 ≤ gK E ∧ σ.2.2 + n.toNatClampNeg ≤ gM E ∧ r = (σ.2.1, (va_up σ.1 σ.2.1 (.inl (gcy E t, x n.toNatClampNeg)), σ.2.1 + 1, σ.2.2 + n.toNatClampNeg)) := by
  unfold gna at h
  split at h
  · rename_i he
    cases h
    exact ⟨he.1, he.2.1, he.2.2.1, he.2.2.2, rfl⟩
  · cases h
/-- a copy of n places -/
def gcopy (E : gE) (σ : gS) (a0 : Nat) (sp : Int32) (a : Nat) (dp n : Int32) : Option gS := match σ.1 a0, σ.1 a with
  | .inl (c0, n0, .inl f), .inl (c1, n1, .inl g) => if c0 = gcy E 0 ∧ c1 = gcy E 0 ∧ ¬ sp < 0 ∧ ¬ dp < 0 ∧ ¬ n < 0 ∧ sp.toNatClampNeg + n.toNatClampNeg ≤ n0 ∧ dp.toNatClampNeg + n.toNatClampNeg ≤ n1 then some (va_up σ.1 a (.inl (c1, n1, .inl (va_cpy f g sp.toNatClampNeg dp.toNatClampNeg n.toNatClampNeg))), σ.2) else none
  | _, _ => none
theorem gcopy_some {E : gE} {σ σ' : gS} {a0 a : Nat} {sp dp n : Int32} (h : gcopy E σ a0 sp a dp n = some σ') : ∃ (n0 n1 : Nat) (f g : Nat → Int32), σ.1 a0 = .inl (gcy E 0, n0, .inl f) ∧ σ.1 a = .inl (gcy E 0, n1, .inl g) ∧ ¬ sp < 0 ∧ ¬ dp < 0 ∧ ¬ n < 0 ∧ sp.toNatClampNeg + n.toNatClampNeg ≤ n0 ∧ dp.toNatClampNeg + n.toNatClampNeg ≤ n1 ∧ σ' = (va_up σ.1 a (.inl (gcy E 0, n1, .inl (va_cpy f g sp.toNatClampNeg dp.toNatClampNeg n.toNatClampNeg))), σ.2) := by
  unfold gcopy at h
  split at h
  · rename_i c0 n0 f c1 n1 g hc hv
    split at h
    · rename_i he
      obtain ⟨rfl, rfl, h1, h2, h3, h4, h5⟩ := he
      cases h
      exact ⟨n0, n1, f, g, hc, hv, h1, h2, h3, h4, h5, rfl⟩
    · cases h
  · cases h
section GM
variable {p : Program} {l : Launch} {e : Env} {R : Room} {s : State} {m : MethodId} {args : Array Value} {below : List Frame} {meth : Method} {c : Code} {H : Heap} {locs : List Loc} {cells slots : Nat} {Q : State → Prop}
  {E : gE} {D : va_G} {A : Nat → Prop} {cc : ByteArray} {nL F L : Nat} {own nm : String} {pc : Nat} {ls : Array Slot} {rest : List Value} {σ σ' : gS}
theorem gC.nest (hC : gC E D A p R s m args meth c cc nL own nm F L) : ∀ w ∈ lwN, va_Nw w s := hC.2.2.2.2.2.2.2.1.1
theorem gg_obj {a idx : Nat} {y : MethodName} (hC : gC E D A p R s m args meth c cc nL own nm F L) (hy : y = Lib.objectInit) (hlink : (Cond.methodLink own idx y).before args s = true) (hsz : ls.size = nL) (h8 : (rest.map fun v => v.category).sum ≤ 8) (hdg : decode cc pc = .ok (.invokespecial idx, 3)) (hF : 1 ≤ F) (hL : 20 ≤ L)
    (kk : W p l e R s m args below meth c H locs cells slots Q (F0 m (pc + 3) ls rest)) : W p l e R s m args below meth c H locs cells slots Q (F0 m pc ls (.ref a :: rest)) := by
  obtain ⟨hx, hb, hml, hown, hts, hK, hA, hX, hnm, hF0, hL0, -⟩ := hC
  subst hy
  exact W.objInit hx hb hown hlink (hts _ im_java_lang_Object__init____V) (hts _ co_java_lang_Object__init____V) rfl (by rw [hml]; exact hsz) rfl hdg (Nat.le_trans hF hF0) (by show 2 * 0 + _ + 12 ≤ _; omega) kk
theorem gg_astB {a : Nat} {i : Int32} {x : Int32} (hC : gC E D A p R s m args meth c cc nL own nm F L) (hw : gW E D A s σ H locs) (hf : gwaB E σ a i x = some σ') (hdg : decode cc pc = .ok (.bastore, 1))
    (kk : ∀ (H : Heap) (locs : List Loc), gW E D A s σ' H locs → W p l e R s m args below meth c H locs cells slots Q (F0 m (pc + 1) ls rest)) : W p l e R s m args below meth c H locs cells slots Q (F0 m pc ls (.int x :: .int i :: .ref a :: rest)) := by
  obtain ⟨hx, hb, hml, hown, hts, hK, -⟩ := hC
  obtain ⟨n, f, ha, hin, rfl⟩ := gwaB_some hf
  have hP := hw.1.one ha gDead_inl
  refine W.bast hx hb (hP 0 _ rfl) ((hK.2 1 _ rfl).1 n (fun j => .int (f j))) (fun q => by cases q) (by show ¬ (i < 0 ∨ (arrV _ _ _).slots.size ≤ _); rw [arrV_size]; exact hin) rfl rfl hdg fun H1 e1 z oq => ?_
  refine kk H1 _ ⟨hw.1.store ha gDead_inl ?_ z oq (fun c0 hc0 => ⟨_, e1, ?_⟩), hw.2.1.put z oq ((hw.1.2.2.2.2 a (by rw [ha]; exact gDead_inl)).2), hw.2.2⟩
  · show H1[a]? = some (vp_cell _ _)
    rw [e1, vp_cell_i, vp_cell_i, arrV_store]
    congr 2
    funext q
    by_cases hq : q = i.toNatClampNeg
    · subst hq
      simp [updV, upd, vp_nar]
      try rfl
    · simp [updV, upd, vp_nar, hq]
  · have h0 : H[a]? = some (vp_cell (gcy E 1) (n, .inl f)) := hP 0 _ rfl
    rw [show c0 = _ from Option.some.inj (hc0.symm.trans h0)]
    exact k2_slotsz _ _ _
theorem gg_astJ {a : Nat} {i : Int32} {x : Int64} (hC : gC E D A p R s m args meth c cc nL own nm F L) (hw : gW E D A s σ H locs) (hf : gwaJ E σ a i x = some σ') (hdg : decode cc pc = .ok (.lastore, 1))
    (kk : ∀ (H : Heap) (locs : List Loc), gW E D A s σ' H locs → W p l e R s m args below meth c H locs cells slots Q (F0 m (pc + 1) ls rest)) : W p l e R s m args below meth c H locs cells slots Q (F0 m pc ls (.long x :: .int i :: .ref a :: rest)) := by
  obtain ⟨hx, hb, hml, hown, hts, hK, -⟩ := hC
  obtain ⟨n, f, ha, hin, rfl⟩ := gwaJ_some hf
  have hP := hw.1.one ha gDead_inl
  refine W.last hx hb (hP 0 _ rfl) ((hK.2 2 _ rfl).1 n (fun j => .long (f j))) (fun q => by cases q) (by show ¬ (i < 0 ∨ (arrV _ _ _).slots.size ≤ _); rw [arrV_size]; exact hin) rfl rfl hdg fun H1 e1 z oq => ?_
  refine kk H1 _ ⟨hw.1.store ha gDead_inl ?_ z oq (fun c0 hc0 => ⟨_, e1, ?_⟩), hw.2.1.put z oq ((hw.1.2.2.2.2 a (by rw [ha]; exact gDead_inl)).2), hw.2.2⟩
  · show H1[a]? = some (vp_cell _ _)
    rw [e1, vp_cell_l, vp_cell_l, arrV_store]
    congr 2
    funext q
    by_cases hq : q = i.toNatClampNeg
    · subst hq
      simp [updV, vp_updL]
      try rfl
    · simp [updV, vp_updL, hq]
  · have h0 : H[a]? = some (vp_cell (gcy E 2) (n, .inr (.inl f))) := hP 0 _ rfl
    rw [show c0 = _ from Option.some.inj (hc0.symm.trans h0)]
    exact k2_slotsz _ _ _
theorem gg_astR {a v t ci N : Nat} {i : Int32} {C : String} {T : u_T} (hC : gC E D A p R s m args meth c cc nL own nm F L) (hw : gW E D A s σ H locs) (hf : gwaR E t ci σ a i v = some σ') (ht : (gTy E)[t]? = some (gcy E t, .object C)) (hc : vwCl[ci]? = some (C, T, N)) (hdg : decode cc pc = .ok (.aastore, 1))
    (kk : ∀ (H : Heap) (locs : List Loc), gW E D A s σ' H locs → W p l e R s m args below meth c H locs cells slots Q (F0 m (pc + 1) ls rest)) : W p l e R s m args below meth c H locs cells slots Q (F0 m pc ls (.ref v :: .int i :: .ref a :: rest)) := by
  obtain ⟨hx, hb, hml, hown, hts, hK, -⟩ := hC
  obtain ⟨n, f, fs, ha, hv, hin, rfl⟩ := gwaR_some hf
  have hP := hw.1.one ha gDead_inl
  have hPv := hw.1.one hv (gDead_inr hc)
  have hlt : i.toNatClampNeg < n := Nat.not_le.mp fun q => hin (Or.inr q)
  have h0 : ¬ i < 0 := fun q => hin (Or.inl q)
  obtain ⟨r', hr', cellV, g1, g2, g3, -⟩ := hPv 0 _ rfl
  have hcls := (hK.1 ci _ hc).2
  obtain ⟨kA, comp, k1, k2, k3, -⟩ := (hK.2 t _ ht).2
  have hcomp : comp = D.1 ci := Option.some.inj (k3.symm.trans hcls.1)
  subst hcomp
  obtain ⟨kC, hkC, -⟩ := hcls.2
  refine W.aast hx hb (hP 0 _ rfl) (fun q h => by cases h) (fun h => by cases h) k1 k2 rfl hkC ⟨h0, by show _ < (arrV _ _ _).slots.size; rw [arrV_size]; exact hlt⟩ g1 (fun q h => by rw [g3] at h; cases h) (by rw [g2]; exact hkC) (by rw [g2]; exact va_assign hcls) rfl rfl hdg fun H1 e1 z oq => ?_
  refine kk H1 _ ⟨hw.1.store ha gDead_inl ?_ z oq (fun c0 hc0 => ⟨_, e1, ?_⟩), hw.2.1.put z oq ((hw.1.2.2.2.2 a (by rw [ha]; exact gDead_inl)).2), hw.2.2⟩
  · show H1[a]? = some (vp_cell _ _)
    rw [e1, vp_cell_q, vp_cell_q, arrV_store]
    congr 2
    funext q
    by_cases hq : q = i.toNatClampNeg
    · subst hq
      simp [updV, va_up, va_rf]
    · simp [updV, va_up, hq]
  · have h0 : H[a]? = some (vp_cell (gcy E t) (n, .inr (.inr (.inr (.inr f))))) := hP 0 _ rfl
    rw [show c0 = _ from Option.some.inj (hc0.symm.trans h0)]
    exact k2_slotsz _ _ _
theorem gg_na {t q : Nat} {x : Nat → vp_A} {n : Int32} {atype : ArrayType} (hC : gC E D A p R s m args meth c cc nL own nm F L) (hw : gW E D A s σ H locs) (hf : gna E t x σ n = some (q, σ')) (hac : Cond.arrayClass (newarray.typeOf atype) ∈ lwG) (hcl : ∀ cA : ClassId, s.vm.findClass ("[" ++ (newarray.typeOf atype).toString) = some cA → cA = gcy E t)
    (hxc : ∀ (cA : ClassId) (N : Nat), vp_cell cA (x N) = arrV cA N (fun _ => defaultValue (newarray.typeOf atype))) (hby : componentBytes (newarray.typeOf atype) ≤ 8) (hdg : decode cc pc = .ok (.newarray atype, 2))
    (kk : ∀ (H : Heap) (locs : List Loc) (cells slots : Nat), gW E D A s σ' H locs → W p l e R s m args below meth c H locs cells slots Q (F0 m (pc + 2) ls (.ref q :: rest))) : W p l e R s m args below meth c H locs cells slots Q (F0 m pc ls (.int n :: rest)) := by
  obtain ⟨hx, hb, hml, hown, hts, hK, hA, hX, hnm, hF, hL, hRc, hRs⟩ := hC
  obtain ⟨h0, hN, h1, h2, h3⟩ := gna_some hf
  cases h3
  have hsz := hw.1.1
  have hsl := hw.1.2.1
  have hs0 := hw.2.1.1
  have hs1 := hw.2.2
  refine gg_tight hs0 ?_
  have hbytes : n.toNatClampNeg * componentBytes (newarray.typeOf atype) ≤ 536870912 := Nat.le_trans (Nat.mul_le_mul hN hby) (Nat.le_of_ble_eq_true rfl)
  refine va_newaK hx hb (hts _ hac) rfl hdg rfl h0 rfl hbytes (by omega) (by omega) hsz fun H1 cA e1 z1 o1 hAr hNm => ?_
  obtain rfl := hcl cA hNm
  have o2 : ∀ q, q < H.size → H1[q]? = H[q]? := fun q hq => o1 q (by omega)
  have hsum : gsum H1 = gsum H + n.toNatClampNeg := by
    rw [gsum_push (by omega) o2 (by rw [hsz]; exact e1)]
    congr 1
    exact arrV_size _ _ _
  refine kk H1 _ _ _ ⟨hw.1.push (by rw [← hsz]; exact hA _ hs0) h1 h2 (by show H1[σ.2.1]? = some (vp_cell _ _); rw [hxc]; exact e1) (by omega) o2 hsum, ⟨Nat.le_trans hs0 (by omega), fun y g1 g2 => (o2 y (Nat.lt_of_lt_of_le g1 hs0)).trans (hw.2.1.2.1 y g1 g2), hw.2.1.2.2⟩, by show gsum s.heap ≤ σ.2.2 + _; omega⟩
theorem gg_cls {t : Nat} {ty : FieldType} (hK : va_K D vwCl (gTy E) s) (ht : (gTy E)[t]? = some (gcy E t, ty)) (hp : ∀ U : State, ∀ cA : ClassId, va_RA U cA ty = (U.vm.findClass ("[" ++ ty.toString) = some cA)) (cA : ClassId) (h : s.vm.findClass ("[" ++ ty.toString) = some cA) : cA = gcy E t := by
  have h2 := (hK.2 t _ ht).2
  rw [hp] at h2
  exact Option.some.inj (h.symm.trans h2)
theorem gg_naI {q : Nat} {n : Int32} (hC : gC E D A p R s m args meth c cc nL own nm F L) (hw : gW E D A s σ H locs) (hf : gnaI E σ n = some (q, σ')) (hdg : decode cc pc = .ok (.newarray .int, 2))
    (kk : ∀ (H : Heap) (locs : List Loc) (cells slots : Nat), gW E D A s σ' H locs → W p l e R s m args below meth c H locs cells slots Q (F0 m (pc + 2) ls (.ref q :: rest))) : W p l e R s m args below meth c H locs cells slots Q (F0 m pc ls (.int n :: rest)) := by
  have hK := hC.2.2.2.2.2.1
  exact gg_na (atype := .int) hC hw hf ac_FieldType_int (gg_cls (t := 0) (ty := .int) hK rfl (fun _ _ => rfl)) (fun cA N => by rw [vp_cell_i]; rfl) (by decide) hdg kk
theorem gg_naB {q : Nat} {n : Int32} (hC : gC E D A p R s m args meth c cc nL own nm F L) (hw : gW E D A s σ H locs) (hf : gnaB E σ n = some (q, σ')) (hdg : decode cc pc = .ok (.newarray .byte, 2))
    (kk : ∀ (H : Heap) (locs : List Loc) (cells slots : Nat), gW E D A s σ' H locs → W p l e R s m args below meth c H locs cells slots Q (F0 m (pc + 2) ls (.ref q :: rest))) : W p l e R s m args below meth c H locs cells slots Q (F0 m pc ls (.int n :: rest)) := by
  have hK := hC.2.2.2.2.2.1
  exact gg_na (atype := .byte) hC hw hf ac_FieldType_byte (gg_cls (t := 1) (ty := .byte) hK rfl (fun _ _ => rfl)) (fun cA N => by rw [vp_cell_i]; rfl) (by decide) hdg kk
theorem gg_naJ {q : Nat} {n : Int32} (hC : gC E D A p R s m args meth c cc nL own nm F L) (hw : gW E D A s σ H locs) (hf : gnaJ E σ n = some (q, σ')) (hdg : decode cc pc = .ok (.newarray .long, 2))
    (kk : ∀ (H : Heap) (locs : List Loc) (cells slots : Nat), gW E D A s σ' H locs → W p l e R s m args below meth c H locs cells slots Q (F0 m (pc + 2) ls (.ref q :: rest))) : W p l e R s m args below meth c H locs cells slots Q (F0 m pc ls (.int n :: rest)) := by
  have hK := hC.2.2.2.2.2.1
  exact gg_na (atype := .long) hC hw hf ac_FieldType_long (gg_cls (t := 2) (ty := .long) hK rfl (fun _ _ => rfl)) (fun cA N => by rw [vp_cell_l]; rfl) (by decide) hdg kk
/-- a new array of references -/
theorem gg_naR {t q idx : Nat} {n : Int32} {C : String} (hC : gC E D A p R s m args meth c cc nL own nm F L) (hw : gW E D A s σ H locs) (hf : gnaR E t σ n = some (q, σ')) (hcl : Cond.classLink own idx C ∈ lwG) (hao : C ∈ gAO) (ht : (gTy E)[t]? = some (gcy E t, .object C)) (hdg : decode cc pc = .ok (.anewarray idx, 3))
    (kk : ∀ (H : Heap) (locs : List Loc) (cells slots : Nat), gW E D A s σ' H locs → W p l e R s m args below meth c H locs cells slots Q (F0 m (pc + 3) ls (.ref q :: rest))) : W p l e R s m args below meth c H locs cells slots Q (F0 m pc ls (.int n :: rest)) := by
  obtain ⟨hx, hb, hml, hown, hts, hK, hA, hX, hnm, hF, hL, hRc, hRs⟩ := hC
  obtain ⟨h0, hN, h1, h2, h3⟩ := gna_some hf
  cases h3
  have hsz := hw.1.1
  have hsl := hw.1.2.1
  have hs0 := hw.2.1.1
  have hs1 := hw.2.2
  refine gg_tight hs0 ?_
  have hbytes : n.toNatClampNeg * 4 ≤ 536870912 := Nat.le_trans (Nat.mul_le_mul_right 4 hN) (Nat.le_of_ble_eq_true rfl)
  refine W.anew hx hb hown (hts _ hcl) (va_AO.use (hX.2.1 C hao)) rfl hdg rfl h0 hbytes (by omega) (by omega) fun cA kA comp f1 f2 f3 f4 => ?_
  have hcA : cA = gcy E t := by
    obtain ⟨-, -, -, -, -, h9⟩ := (hK.2 t _ ht).2
    exact Option.some.inj (f1.symm.trans h9)
  subst hcA
  generalize hH1 : H.push ({ cls := gcy E t, slots := Array.replicate n.toNatClampNeg .null, vm := .none } : Cell) = H1
  have z1 : H1.size = H.size + 1 := by rw [← hH1, Array.size_push]
  have e1 : H1[H.size]? = some (arrV (gcy E t) n.toNatClampNeg (fun _ => .null)) := by rw [← hH1, Array.getElem?_push_size, ← arrV_new]
  have o1 : ∀ q : Nat, q < H.size → H1[q]? = H[q]? := fun q hq => by rw [← hH1, Array.getElem?_push, if_neg (Nat.ne_of_lt hq)]
  have hsum : gsum H1 = gsum H + n.toNatClampNeg := by
    rw [gsum_push z1 o1 e1]
    congr 1
    exact arrV_size _ _ _
  rw [← hsz] at kk
  refine kk H1 _ _ _ ⟨?_, ⟨Nat.le_trans hs0 (by omega), fun y g1 g2 => (o1 y (Nat.lt_of_lt_of_le g1 hs0)).trans (hw.2.1.2.1 y g1 g2), hw.2.1.2.2⟩, by show gsum s.heap ≤ σ.2.2 + _; omega⟩
  rw [hsz]
  exact hw.1.push (by rw [← hsz]; exact hA _ hs0) h1 h2 (by rw [← hsz]; show H1[H.size]? = some (vp_cell _ _); rw [vp_cell_q]; exact e1) z1 o1 hsum
/-- System.arraycopy of ints -/
theorem gg_copy {a0 a idx : Nat} {sp dp n : Int32} {ck : List Value} (hC : gC E D A p R s m args meth c cc nL own nm F L) (hw : gW E D A s σ H locs) (hf : gcopy E σ a0 sp a dp n = some σ') (hlink : Cond.methodLink own idx arraycopyName ∈ lwG) (hsz : ls.size = nL) (hst : ck = .int n :: .int dp :: .ref a :: .int sp :: .ref a0 :: rest) (h8 : (rest.map fun v => v.category).sum ≤ 8) (hF : 1 ≤ F) (hL : 40 ≤ L) (hdg : decode cc pc = .ok (.invokestatic idx, 3))
    (kk : ∀ (H : Heap) (locs : List Loc), gW E D A s σ' H locs → W p l e R s m args below meth c H locs cells slots Q (F0 m (pc + 3) ls rest)) : W p l e R s m args below meth c H locs cells slots Q (F0 m pc ls ck) := by
  subst hst
  obtain ⟨hexec, hb, hml0, hown, hts, hK, hA, hX, hnm, hF0, hL0, -⟩ := hC
  have hml : c.maxLocals = ls.size := by rw [hml0, hsz]
  obtain ⟨n0, n1, f, g, ha0, ha1, h1, h2, h3, h4, h5, rfl⟩ := gcopy_some hf
  have hP0 := hw.1.one ha0 gDead_inl
  have hP1 := hw.1.one ha1 gDead_inl
  have nn : ∀ z : Int32, ¬ z < 0 → z.toInt = (z.toNatClampNeg : Int) := by
    intro z hz
    have hz0 : (0 : Int) ≤ z.toInt := by
      have := Int32.not_lt.mp hz
      simpa using Int32.le_iff_toInt_le.mp this
    show z.toInt = ((z.toInt.toNat : Nat) : Int)
    omega
  have hlocals : (rest.map fun v => v.category).sum + (nativeFrameWords "java/lang/System" "arraycopy" 5 + 11) ≤ R.locals := by
    have hq : nativeFrameWords "java/lang/System" "arraycopy" 5 + 11 ≤ 32 := by decide
    omega
  intro T hT X
  have hc0 : H[a0]? = some (vp_cell (gcy E 0) (n0, .inl f)) := hP0 0 _ rfl
  have hc1 : H[a]? = some (vp_cell (gcy E 0) (n1, .inl g)) := hP1 0 _ rfl
  obtain ⟨-, k0, hk0, cm0, hkk0⟩ := (hK.2 0 _ rfl).1 n0 (fun j => .int (f j))
  obtain ⟨-, k1, hk1, cm1, hkk1⟩ := (hK.2 0 _ rfl).1 n1 (fun j => .int (g j))
  obtain ⟨vm', X', step⟩ := X.arraycopy hexec hown (hts _ hlink) (hts _ na_J10_arraycopy__Ljava_lang_Object_ILjava_lang_Object_II_V) (hts _ st_J10_arraycopy__Ljava_lang_Object_ILjava_lang_Object_II_V) (hts _ in_J10) (src := a0) (dst := a) (cs := vp_cell (gcy E 0) (n0, .inl f)) (cd := vp_cell (gcy E 0) (n1, .inl g)) (srcPos := sp) (destPos := dp) (n := n) (by rw [hT]; exact hc0) (by rw [hT]; exact hc1)
    (fun _ h => by cases h) (fun _ h => by cases h) (fun h => by cases h) (fun h => by cases h) hk0 hk1 hkk0 hkk1 (by simp [refKind]) h1 h2 h3
    (by rw [nn sp h1, nn n h3]; show ¬ _ > ((arrV (gcy E 0) n0 (fun j => .int (f j))).slots.size : Int); rw [arrV_size]; omega)
    (by rw [nn dp h2, nn n h3]; show ¬ _ > ((arrV (gcy E 0) n1 (fun j => .int (g j))).slots.size : Int); rw [arrV_size]; omega)
    (fun vm₁ _ i hi => by
      have e : (vp_cell (gcy E 0) (n0, .inl f)).slots.getD (sp.toNatClampNeg + i) .null = .int (f (sp.toNatClampNeg + i)) := by
        show (arrV (gcy E 0) n0 (fun j => .int (f j))).slots.getD _ _ = _
        rw [Array.getD_eq_getD_getElem?, arrV_read _ _ (by omega)]
        rfl
      refine ⟨?_, ?_⟩
      · rw [e]
        rfl
      · rw [e]
        exact trivial)
    (g := F0 m pc ls (.int n :: .int dp :: .ref a :: .int sp :: .ref a0 :: rest)) rfl (by rw [hml]) (rest := rest) rfl (by rw [hb]; exact hdg) (Nat.le_trans hF hF0) (by show 2 * 0 + _ + _ ≤ _; omega)
  have e1 : copied (vp_cell (gcy E 0) (n0, .inl f)) (vp_cell (gcy E 0) (n1, .inl g)) sp dp n = vp_cell (gcy E 0) (n1, .inl (va_cpy f g sp.toNatClampNeg dp.toNatClampNeg n.toNatClampNeg)) := va_copied (fun z => .int z) (gcy E 0) (gcy E 0) f g h4
  rw [e1] at X' step
  have hl : a < H.size := (Array.getElem?_eq_some_iff.mp hc1).1
  have hheap : ((T.setVm vm').setCell a (vp_cell (gcy E 0) (n1, .inl (va_cpy f g sp.toNatClampNeg dp.toNatClampNeg n.toNatClampNeg)))).heap = H.setIfInBounds a (vp_cell (gcy E 0) (n1, .inl (va_cpy f g sp.toNatClampNeg dp.toNatClampNeg n.toNatClampNeg))) := by rw [← hT]; rfl
  have oq : ∀ q : Nat, q ≠ a → (H.setIfInBounds a (vp_cell (gcy E 0) (n1, .inl (va_cpy f g sp.toNatClampNeg dp.toNatClampNeg n.toNatClampNeg))))[q]? = H[q]? := fun q hq => by simp [Array.getElem?_setIfInBounds, Ne.symm hq]
  have hself : (H.setIfInBounds a (vp_cell (gcy E 0) (n1, .inl (va_cpy f g sp.toNatClampNeg dp.toNatClampNeg n.toNatClampNeg))))[a]? = some (vp_cell (gcy E 0) (n1, .inl (va_cpy f g sp.toNatClampNeg dp.toNatClampNeg n.toNatClampNeg))) := by simp [Array.getElem?_setIfInBounds, hl]
  have hAa := (hw.1.2.2.2.2 a (by rw [ha1]; exact gDead_inl)).2
  obtain ⟨t, a1, b1⟩ := kk _ _ ⟨hw.1.store ha1 gDead_inl hself (by simp) oq (fun c0 hc0 => ⟨_, hself, by
      rw [show c0 = _ from Option.some.inj (hc0.symm.trans hc1)]
      show (arrV _ _ _).slots.size = (arrV _ _ _).slots.size
      rw [arrV_size, arrV_size]⟩), ⟨by simp; exact hw.2.1.1, fun q g1 g2 => by
      rw [oq q (fun e => g2 (by rw [e]; exact hAa))]
      exact hw.2.1.2.1 q g1 g2, fun q hq => by
      rcases List.mem_append.mp hq with h | h
      · exact hw.2.1.2.2 q h
      · obtain ⟨z, -, hz⟩ := List.mem_map.mp h
        rw [← hz]
        exact hAa⟩, hw.2.2⟩ _ hheap X'
  exact ⟨t, step t a1, b1⟩
end GM
