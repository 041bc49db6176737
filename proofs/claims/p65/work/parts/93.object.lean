/-! pure: the whole object -/
/-- the state: store, snapshot, is there one; history: next, size, ring; input: length, bytes; error: code, offset; output: length, bytes -/
abbrev gQ : Type := gT × gT × Bool × (Nat × Nat × (Nat → gT)) × (Nat × (Nat → Nat)) × (Int32 × Int32) × (Nat × (Nat → Int32))
abbrev qS (Q : gQ) : gT := Q.1
abbrev qU (Q : gQ) : gT := Q.2.1
abbrev qH (Q : gQ) : Bool := Q.2.2.1
abbrev qX (Q : gQ) : Nat := Q.2.2.2.1.1
abbrev qZ (Q : gQ) : Nat := Q.2.2.2.1.2.1
abbrev qR (Q : gQ) : Nat → gT := Q.2.2.2.1.2.2
abbrev qN (Q : gQ) : Nat := Q.2.2.2.2.1.1
abbrev qB (Q : gQ) : Nat → Nat := Q.2.2.2.2.1.2
abbrev qE (Q : gQ) : Int32 := Q.2.2.2.2.2.1.1
abbrev qF (Q : gQ) : Int32 := Q.2.2.2.2.2.1.2
abbrev qL (Q : gQ) : Nat := Q.2.2.2.2.2.2.1
abbrev qO (Q : gQ) : Nat → Int32 := Q.2.2.2.2.2.2.2
def RK (E : gE) (w : gWd) (l : Nat) (ad : Nat → Nat) (Q : gQ) : Prop :=
  Ob w (10, 25, 0) l 10 [.ref (ad 0), .ref (ad 1), .int (if qH Q = true then 1 else 0), .ref (ad 3), .ref (ad 4), .ref (ad 5), .ref (ad 6), .int (nI (qL Q)), .ref (ad 8), .ref (ad 9), .ref (ad 10)] ∧
  RS E w (ad 0) 0 (qS Q) ∧ RS E w (ad 1) 1 (qU Q) ∧ RH E w (ad 3) (qX Q) (qZ Q) (qR Q) ∧ IN E w (ad 4) (qN Q) (qB Q) ∧ PZ E w (ad 5) (ad 4) (qE Q) (qF Q) ∧ (∃ g, ArB E w (11, 25, 0) (ad 6) 36 g ∧ ∀ i, i < qL Q → g i = qO Q i) ∧ (∃ n s, RO E w (ad 8) n s) ∧ (∃ f, RD E w (ad 9) 10 0 f) ∧ ∃ wd W, RP E w (ad 10) wd W
/-- the state is as it should be -/
def GQ (Q : gQ) : Prop := GS (qS Q) ∧ (qH Q = true → GS (qU Q)) ∧ (∀ i, i < qZ Q → GS (qR Q ((qX Q + 8 - qZ Q + i) % 8))) ∧ (qU Q).1 ≤ 6 ∧ (∀ i, i < 8 → (qR Q i).1 ≤ 6) ∧ qX Q < 8 ∧ qZ Q ≤ 8 ∧ qN Q ≤ 700 ∧ qL Q ≤ 36
/-- the same without bounds of room -/
def E0 (E : gE) : gE := ((gN E, 0, 0), E.2)
abbrev JK : Nat × Nat × Nat → Prop := fun t => t.2.1 < 30
def thW (w : gWd) : gWd := ((w.1.1, w.1.2.1 + 1, w.1.2.2 + 6), w.2)
theorem FS.e0 {E : gE} {J : Nat × Nat × Nat → Prop} {w w' : gWd} (h : FS E J w w') (hw : 0 < w.1.2.1) : FS (E0 E) J w w' := by
  refine ⟨h.1, h.2.1, h.2.2.1, fun x hx => ?_⟩
  exfalso
  have h2 := hx.2.1
  have h3 : gK (E0 E) = 0 := rfl
  rw [h3] at h2
  omega
theorem FS.th {E : gE} {J : Nat × Nat × Nat → Prop} {w : gWd} (hw : 0 < w.1.2.1) : FS (E0 E) J w (thW w) := by
  refine ⟨Nat.le_succ _, fun a _ => ⟨rfl, fun _ => rfl⟩, fun _ _ _ => rfl, fun x hx => ?_⟩
  exfalso
  have h2 := hx.2.1
  have h3 : gK (E0 E) = 0 := rfl
  rw [h3] at h2
  omega
theorem RM.th {E : gE} {w : gWd} {y : Nat} (h : RM E w (y + 1)) : RM E (thW w) y := by
  obtain ⟨h1, h2, h3⟩ := h
  refine ⟨?_, ?_, fun a ha => h3 a (by have : w.1.2.1 + 1 ≤ a := ha; omega)⟩
  · show w.1.2.2 + 6 + Phi w.2.2 + 6 * y ≤ gM E
    omega
  · show 32 * (w.1.2.1 + 1) + Phi w.2.2 + 32 * y ≤ 32 * gK E
    omega
theorem RM.thrw {E : gE} {w : gWd} {y : Nat} (h : RM E w (y + 1)) : gthr E w.1 = some (thW w).1 := by
  obtain ⟨h1, h2, h3⟩ := h
  unfold gthr
  rw [if_pos ⟨by omega, by omega⟩]
  rfl
theorem RM.dn {E : gE} {w : gWd} {x y : Nat} (h : RM E w x) (hy : y ≤ x) : RM E w y := ⟨by have := h.1; omega, by have := h.2.1; omega, h.2.2⟩
def KK (E : gE) (J : Nat × Nat × Nat → Prop) (w w' : gWd) : Prop := FS (E0 E) J w w' ∧ ∀ y, RM E w y → RM E w' y
theorem FS.kk {E : gE} {J : Nat × Nat × Nat → Prop} {w w' : gWd} (h : FS E J w w') (hw : 0 < w.1.2.1) : KK E J w w' := ⟨h.e0 hw, fun _ hy => h.2.2.2 _ hy⟩
theorem KK.rf {E : gE} {J : Nat × Nat × Nat → Prop} {w : gWd} (hw : 0 < w.1.2.1) : KK E J w w := FS.kk FS.rf hw
theorem RK.pos {E : gE} {w : gWd} {l : Nat} {ad : Nat → Nat} {Q : gQ} (h : RK E w l ad Q) : 0 < w.1.2.1 := Nat.lt_of_le_of_lt (Nat.zero_le _) h.1.2.1
theorem RK.fr {E : gE} {w w' : gWd} {l : Nat} {ad : Nat → Nat} {Q : gQ} (h : RK E w l ad Q) {J : Nat × Nat × Nat → Prop} (hF : FS E J w w') (hJ : ∀ κ j c, j < 30 → ¬ J (κ, j, c)) : RK E w' l ad Q := by
  obtain ⟨h1, h2, h3, h4, h5, h6, ⟨g, h7, h8⟩, ⟨n, s, h9⟩, ⟨f, h10⟩, wd, W, h11⟩ := h
  exact ⟨h1.fr hF (hJ _ _ _ (by decide)), h2.fr hF (fun κ c => hJ _ _ _ (by decide)), h3.fr hF (fun κ c => hJ _ _ _ (by decide)), h4.fr hF (fun κ j c hj => hJ _ _ _ (by
    rcases hj with hj | hj
    · have hj : j = 24 := hj
      omega
    · have hj : j < 10 := hj.2
      omega)), h5.fr hF (fun κ => hJ _ _ _ (by decide)), h6.fr hF (fun κ i => hJ _ _ _ (by decide)), ⟨g, h7.fr hF (hJ _ _ _ (by decide)), h8⟩, ⟨n, s, h9.fr hF (fun κ => hJ _ _ _ (by decide))⟩, ⟨f, h10.fr hF (hJ _ _ _ (by decide)) (hJ _ _ _ (by decide))⟩, wd, W, h11.fr hF (fun κ => hJ _ _ _ (by decide))⟩
def XA {α : Type} (E : gE) (w : gWd) (l : Nat) (ad : Nat → Nat) (Q' : gQ) (sp : Nat ⊕ α) (res : Option ((Nat ⊕ α) × gS)) : Prop := ∃ w', res = some (sp, w'.1) ∧ KK E JK w w' ∧ RK E w' l ad Q'
theorem gtry_r {α β : Type} {x : α} {σ : gS} {fk : Nat → gS → Option β} {fx : α → gS → Option β} : gtry (Sum.inr x, σ) fk fx = fx x σ := rfl
theorem gtry_l {α β : Type} {k : Nat} {σ : gS} {fk : Nat → gS → Option β} {fx : α → gS → Option β} : gtry (Sum.inl k, σ) fk fx = fk k σ := rfl
abbrev cOK (S : gT) (a : Int32) : Prop := 0 ≤ a.toInt ∧ a.toInt < S.1
abbrev rOK (S : gT) (a : Int32) : Prop := 0 ≤ a.toInt ∧ a.toInt < tR S
abbrev kOK (S : gT) (a : Int32) : Prop := 0 ≤ a.toInt ∧ a.toInt < tK S
abbrev dcOK (S : gT) (c : Nat) (a : Int32) : Prop := 0 ≤ a.toInt ∧ a.toInt < dsz (tD S c)
theorem ixI {a : Int32} {n : Nat} (h : 0 ≤ a.toInt ∧ a.toInt < n) : ∃ c, c < n ∧ a = nI c ∧ c < 2 ^ 31 := by
  have hr := fb_rng a
  refine ⟨a.toInt.toNat, by omega, ?_, by omega⟩
  apply Int32.toInt_inj.mp
  rw [nI_toInt (by omega)]
  omega
theorem toI0 : (0 : Int32).toInt = 0 := rfl
section KS
variable {E : gE} {w : gWd} {l : Nat} {ad : Nat → Nat} {Q : gQ}
theorem RK.cl (h : RK E w l ad Q) : gcl w.1 l 10 = some () := gcl_o h.1.2.2
theorem RK.f0 (h : RK E w l ad Q) : gfR w.1 l 10 0 = some (ad 0) := gfR_o h.1.2.2 rfl
theorem RK.f1 (h : RK E w l ad Q) : gfR w.1 l 10 1 = some (ad 1) := gfR_o h.1.2.2 rfl
theorem RK.f3 (h : RK E w l ad Q) : gfR w.1 l 10 3 = some (ad 3) := gfR_o h.1.2.2 rfl
theorem RK.f4 (h : RK E w l ad Q) : gfR w.1 l 10 4 = some (ad 4) := gfR_o h.1.2.2 rfl
theorem RK.f5 (h : RK E w l ad Q) : gfR w.1 l 10 5 = some (ad 5) := gfR_o h.1.2.2 rfl
theorem RK.f6 (h : RK E w l ad Q) : gfR w.1 l 10 6 = some (ad 6) := gfR_o h.1.2.2 rfl
theorem RK.f8 (h : RK E w l ad Q) : gfR w.1 l 10 8 = some (ad 8) := gfR_o h.1.2.2 rfl
theorem RK.f9 (h : RK E w l ad Q) : gfR w.1 l 10 9 = some (ad 9) := gfR_o h.1.2.2 rfl
theorem RK.f10 (h : RK E w l ad Q) : gfR w.1 l 10 10 = some (ad 10) := gfR_o h.1.2.2 rfl
theorem RK.S (h : RK E w l ad Q) : RS E w (ad 0) 0 (qS Q) := h.2.1
theorem RK.c0 (h : RK E w l ad Q) : gcl w.1 (ad 0) 9 = some () := h.S.cl
theorem RK.same {α : Type} {sp : Nat ⊕ α} (h : RK E w l ad Q) : XA E w l ad Q sp (some (sp, w.1)) := ⟨w, rfl, KK.rf h.pos, h⟩
theorem RK.col (h : RK E w l ad Q) {c : Nat} (hc : c < (qS Q).1) (hC : (qS Q).1 ≤ 6) : X12_checkColumn_f E l (nI c) w.1 = some (Sum.inr (), w.1) := by
  unfold X12_checkColumn_f X12_checkColumn
  rw [if_neg (nI_pos (by omega)), ob_e h.f0, ob_e h.c0, ob_e h.S.columns, if_pos (nI_lt hc (by omega))]
theorem RK.row (h : RK E w l ad Q) {r : Nat} (hr : r < tR (qS Q)) (hC : tR (qS Q) ≤ 60) : X12_checkRow_f E l (nI r) w.1 = some (Sum.inr (), w.1) := by
  unfold X12_checkRow_f X12_checkRow
  rw [ob_e h.f0, ob_e h.c0, ob_e (h.S.has _), if_pos (show 0 ≤ (nI r).toInt ∧ (nI r).toInt < (tR (qS Q) : Int) by rw [nI_toInt (by omega)]; omega), if_neg (by decide)]
theorem RK.rowF (h : RK E w l ad Q) (hR : RM E w 1) {a : Int32} (ha : ¬ rOK (qS Q) a) : X12_checkRow_f E l a w.1 = some (Sum.inl 0, (thW w).1) := by
  have ht : gthr E w.1 = some (thW w).1 := RM.thrw (y := 0) hR
  unfold X12_checkRow_f X12_checkRow
  rw [ob_e h.f0, ob_e h.c0, ob_e (h.S.has _), if_neg ha, if_pos rfl, ob_e ht]
theorem RK.con (h : RK E w l ad Q) {i : Nat} (hi : i < tK (qS Q)) (hK : tK (qS Q) ≤ 8) : X12_checkCondition_f E l (nI i) w.1 = some (Sum.inr (), w.1) := by
  unfold X12_checkCondition_f X12_checkCondition
  rw [ob_e h.f0, ob_e h.c0, ob_e h.S.filter, ob_e h.S.fcl, ob_e (h.S.2.2.1.has _), if_pos (show 0 ≤ (nI i).toInt ∧ (nI i).toInt < (tK (qS Q) : Int) by rw [nI_toInt (by omega)]; omega), if_neg (by decide)]
theorem RK.conF (h : RK E w l ad Q) (hR : RM E w 1) {a : Int32} (ha : ¬ kOK (qS Q) a) : X12_checkCondition_f E l a w.1 = some (Sum.inl 0, (thW w).1) := by
  have ht : gthr E w.1 = some (thW w).1 := RM.thrw (y := 0) hR
  unfold X12_checkCondition_f X12_checkCondition
  rw [ob_e h.f0, ob_e h.c0, ob_e h.S.filter, ob_e h.S.fcl, ob_e (h.S.2.2.1.has _), if_neg ha, if_pos rfl, ob_e ht]
theorem RK.D (h : RK E w l ad Q) {c : Nat} (hc : c < 6) : RD E w (ad 0 + 6 + 4 * c + 2) 0 c (tD (qS Q) c) := (h.S.2.2.2 c hc).2
theorem RK.V (h : RK E w l ad Q) (hG : GS (qS Q)) {c : Nat} (hc : c < (qS Q).1) : RV E w (ad 0 + 6 + 4 * c) 0 c (tR (qS Q)) (tV (qS Q) c) := by
  have h1 := (h.S.2.2.2 c (by have := hG.2.1; omega)).1
  rw [hG.2.2.1 c hc] at h1
  exact h1
theorem RK.C (h : RK E w l ad Q) (hG : GS (qS Q)) {c : Nat} (hc : c < (qS Q).1) : RC E w (ad 0 + 6 + 4 * c) 0 c (tR (qS Q)) (tV (qS Q) c) (tD (qS Q) c) := ⟨h.V hG hc, h.D (by have := hG.2.1; omega)⟩
theorem RK.code (h : RK E w l ad Q) {c i : Nat} (hc : c < 6) (hi : i < dsz (tD (qS Q) c)) : X12_checkCode_f E l (nI c) (nI i) w.1 = some (Sum.inr (), w.1) := by
  have := dsz_le (tD (qS Q) c)
  unfold X12_checkCode_f X12_checkCode
  rw [if_neg (nI_pos (by omega)), ob_e h.f0, ob_e h.c0, ob_e (h.S.dict hc), ob_e (h.S.dcl hc), ob_e (h.D hc).size, if_pos (nI_lt hi (by omega))]
theorem RK.codeF (h : RK E w l ad Q) (hR : RM E w 1) {c : Nat} (hc : c < 6) {a : Int32} (ha : ¬ dcOK (qS Q) c a) : X12_checkCode_f E l (nI c) a w.1 = some (Sum.inl 0, (thW w).1) := by
  have := dsz_le (tD (qS Q) c)
  have ht : gthr E w.1 = some (thW w).1 := RM.thrw (y := 0) hR
  unfold X12_checkCode_f X12_checkCode X12_checkCode_19
  by_cases h0 : a < 0
  · rw [if_pos h0, ob_e ht]
  · rw [if_neg h0, ob_e h.f0, ob_e h.c0, ob_e (h.S.dict hc), ob_e (h.S.dcl hc), ob_e (h.D hc).size, if_neg, ob_e ht]
    intro z
    apply ha
    rw [fa_lt, toI0] at h0
    rw [fa_lt, nI_toInt (by omega)] at z
    exact ⟨by omega, z⟩
theorem RK.valu {E : gE} {w : gWd} {l : Nat} {v : Int32} (hv : vIn v) : X12_checkValue_f E l v w.1 = some (Sum.inr (), w.1) := by
  unfold X12_checkValue_f X12_checkValue
  have e1 : (-9999 : Int32).toInt = -9999 := rfl
  have e2 : (9999 : Int32).toInt = 9999 := rfl
  rw [if_neg (by rw [fa_lt, e1]; have := hv.1; omega), if_pos (by rw [fa_le, e2]; exact hv.2)]
theorem RK.valuF {E : gE} {w : gWd} {l : Nat} {v : Int32} (hR : RM E w 1) (hv : ¬ vIn v) : X12_checkValue_f E l v w.1 = some (Sum.inl 1, (thW w).1) := by
  have ht : gthr E w.1 = some (thW w).1 := RM.thrw (y := 0) hR
  unfold X12_checkValue_f X12_checkValue X12_checkValue_14
  have e1 : (-9999 : Int32).toInt = -9999 := rfl
  have e2 : (9999 : Int32).toInt = 9999 := rfl
  by_cases h0 : v < -9999
  · rw [if_pos h0, ob_e ht]
  · rw [if_neg h0, if_neg, ob_e ht]
    intro z
    apply hv
    rw [fa_lt, e1] at h0
    rw [fa_le, e2] at z
    exact ⟨by omega, z⟩
theorem K_dictionarySize (hN : 100000 ≤ gN E) (h : RK E w l ad Q) (hG : GQ Q) {c : Nat} (hc : c < (qS Q).1) : XA E w l ad Q (Sum.inr (nI (dsz (tD (qS Q) c)))) (X12_dictionarySize_f E l (nI c) w.1) := by
  have hc6 : c < 6 := by have := hG.1.2.1; omega
  refine ⟨w, ?_, KK.rf h.pos, h⟩
  unfold X12_dictionarySize_f X12_dictionarySize
  rw [ob_e h.cl, ob_e (h.col hc hG.1.2.1), gtry_r, ob_e h.f0, ob_e h.c0, ob_e (h.S.dict hc6), ob_e (h.S.dcl hc6), ob_e (h.D hc6).size]
theorem K_findCode (hN : 100000 ≤ gN E) (h : RK E w l ad Q) (hG : GQ Q) {c : Nat} (hc : c < (qS Q).1) (v : Int32) : XA E w l ad Q (Sum.inr (if dmem (tD (qS Q) c) v = true then nI (fb_ct (tD (qS Q) c) (px v)) else -1)) (X12_findCode_f E l (nI c) v w.1) := by
  have hc6 : c < 6 := by have := hG.1.2.1; omega
  refine ⟨w, ?_, KK.rf h.pos, h⟩
  unfold X12_findCode_f X12_findCode
  rw [ob_e h.cl, ob_e (h.col hc hG.1.2.1), gtry_r, ob_e h.f0, ob_e h.c0, ob_e (h.S.dict hc6), ob_e (h.S.dcl hc6), ob_e ((h.D hc6).find hN v)]
theorem K_commonestCode (hN : 100000 ≤ gN E) (h : RK E w l ad Q) (hG : GQ Q) {c : Nat} (hc : c < (qS Q).1) : XA E w l ad Q (Sum.inr (if tR (qS Q) = 0 then -1 else nI (fb_ct (tD (qS Q) c) (px (tV (qS Q) c (gbest (tV (qS Q) c) (tR (qS Q)) (tR (qS Q)))))))) (X12_commonestCode_f E l (nI c) w.1) := by
  have hc6 : c < 6 := by have := hG.1.2.1; omega
  refine ⟨w, ?_, KK.rf h.pos, h⟩
  unfold X12_commonestCode_f X12_commonestCode
  rw [ob_e h.cl, ob_e (h.col hc hG.1.2.1), gtry_r, ob_e h.f0, ob_e h.c0, ob_e (h.S.column hc6), ob_e (h.S.ccl hc6), ob_e ((h.C hG.1 hc).common hN (fun r hr => hG.1.2.2.2.2.1 c r hc hr))]
theorem K_bitWidth (hN : 100000 ≤ gN E) (h : RK E w l ad Q) (hG : GQ Q) {c : Nat} (hc : c < (qS Q).1) : XA E w l ad Q (Sum.inr (nI (gwid (dsz (tD (qS Q) c))))) (X12_bitWidth_f E l (nI c) w.1) := by
  have hc6 : c < 6 := by have := hG.1.2.1; omega
  refine ⟨w, ?_, KK.rf h.pos, h⟩
  unfold X12_bitWidth_f X12_bitWidth
  rw [ob_e h.cl, ob_e (h.col hc hG.1.2.1), gtry_r, ob_e h.f0, ob_e h.c0, ob_e (h.S.dict hc6), ob_e (h.S.dcl hc6), ob_e ((h.D hc6).width hN)]
theorem K_longestRun (hN : 100000 ≤ gN E) (h : RK E w l ad Q) (hG : GQ Q) {c : Nat} (hc : c < (qS Q).1) : XA E w l ad Q (Sum.inr (nI (grun (tV (qS Q) c) (tR (qS Q))).1)) (X12_longestRun_f E l (nI c) w.1) := by
  have hc6 : c < 6 := by have := hG.1.2.1; omega
  refine ⟨w, ?_, KK.rf h.pos, h⟩
  unfold X12_longestRun_f X12_longestRun
  rw [ob_e h.cl, ob_e (h.col hc hG.1.2.1), gtry_r, ob_e h.f0, ob_e h.c0, ob_e (h.S.column hc6), ob_e (h.S.ccl hc6), ob_e ((h.V hG.1 hc).run hN)]
theorem RK.words (hN : 100000 ≤ gN E) (h : RK E w l ad Q) (hG : GQ Q) {c : Nat} (hc : c < (qS Q).1) : X12_wordsOf_f E w.1 l (nI c) = some (nI ((tR (qS Q) * gwid (dsz (tD (qS Q) c)) + 63) / 64)) := by
  have hc6 : c < 6 := by have := hG.1.2.1; omega
  have h15 := (wid15 (tD (qS Q) c)).1
  have h60 := hG.1.2.2.2.1
  have hm : tR (qS Q) * gwid (dsz (tD (qS Q) c)) ≤ 60 * 15 := Nat.mul_le_mul h60 h15
  unfold X12_wordsOf_f X12_wordsOf
  rw [ob_e h.f0, ob_e h.c0, ob_e h.S.rows, ob_e h.f0, ob_e h.c0, ob_e (h.S.dict hc6), ob_e (h.S.dcl hc6), ob_e ((h.D hc6).width hN), nI_mul]
  rw [show nI (tR (qS Q) * gwid (dsz (tD (qS Q) c))) + (64 : Int32) = nI (tR (qS Q) * gwid (dsz (tD (qS Q) c)) + 64) from nI_add _ 64, nI_sub1 (by omega), div64 (by omega)]
  rfl
theorem K_wordCount (hN : 100000 ≤ gN E) (h : RK E w l ad Q) (hG : GQ Q) {c : Nat} (hc : c < (qS Q).1) : XA E w l ad Q (Sum.inr (nI ((tR (qS Q) * gwid (dsz (tD (qS Q) c)) + 63) / 64))) (X12_wordCount_f E l (nI c) w.1) := by
  have hc6 : c < 6 := by have := hG.1.2.1; omega
  refine ⟨w, ?_, KK.rf h.pos, h⟩
  unfold X12_wordCount_f X12_wordCount
  rw [ob_e h.cl, ob_e (h.col hc hG.1.2.1), gtry_r, ob_e h.cl, ob_e (h.words hN hG hc)]
theorem K_isSorted (hN : 100000 ≤ gN E) (h : RK E w l ad Q) (hG : GQ Q) {c : Nat} (hc : c < (qS Q).1) : ∃ b : Int32, (b = 1 ∧ gasc (tV (qS Q) c) (tR (qS Q)) ∨ b = 0 ∧ ¬ gasc (tV (qS Q) c) (tR (qS Q))) ∧ XA E w l ad Q (Sum.inr b) (X12_isSorted_f E l (nI c) w.1) := by
  have hc6 : c < 6 := by have := hG.1.2.1; omega
  obtain ⟨b, e, hb⟩ := (h.V hG.1 hc).asc hN
  refine ⟨b, hb, w, ?_, KK.rf h.pos, h⟩
  have hz : gz b = some () := by rcases hb with ⟨rfl, -⟩ | ⟨rfl, -⟩ <;> rfl
  unfold X12_isSorted_f X12_isSorted
  rw [ob_e h.cl, ob_e (h.col hc hG.1.2.1), gtry_r, ob_e h.f0, ob_e h.c0, ob_e (h.S.column hc6), ob_e (h.S.ccl hc6), ob_e e, ob_e hz]
theorem K_value (hN : 100000 ≤ gN E) (h : RK E w l ad Q) (hG : GQ Q) {c r : Nat} (hc : c < (qS Q).1) (hr : r < tR (qS Q)) : XA E w l ad Q (Sum.inr (tV (qS Q) c r)) (X12_value_f E l (nI c) (nI r) w.1) := by
  have hc6 : c < 6 := by have := hG.1.2.1; omega
  refine ⟨w, ?_, KK.rf h.pos, h⟩
  unfold X12_value_f X12_value
  rw [ob_e h.cl, ob_e (h.col hc hG.1.2.1), gtry_r, ob_e h.cl, ob_e (h.row hr hG.1.2.2.2.1), gtry_r, ob_e h.f0, ob_e h.c0, ob_e (h.S.column hc6), ob_e (h.S.ccl hc6), ob_e ((h.V hG.1 hc).at hr)]
theorem K_code (hN : 100000 ≤ gN E) (h : RK E w l ad Q) (hG : GQ Q) {c r : Nat} (hc : c < (qS Q).1) (hr : r < tR (qS Q)) : XA E w l ad Q (Sum.inr (nI (fb_ct (tD (qS Q) c) (px (tV (qS Q) c r))))) (X12_code_f E l (nI c) (nI r) w.1) := by
  have hc6 : c < 6 := by have := hG.1.2.1; omega
  refine ⟨w, ?_, KK.rf h.pos, h⟩
  unfold X12_code_f X12_code
  rw [ob_e h.cl, ob_e (h.col hc hG.1.2.1), gtry_r, ob_e h.cl, ob_e (h.row hr hG.1.2.2.2.1), gtry_r, ob_e h.f0, ob_e h.c0, ob_e (h.S.column hc6), ob_e (h.S.ccl hc6), ob_e (h.S.code hN hG.1 hc hr)]
theorem K_dictionaryValue (hN : 100000 ≤ gN E) (h : RK E w l ad Q) (hG : GQ Q) {c i : Nat} (hc : c < (qS Q).1) (hi : i < dsz (tD (qS Q) c)) : ∃ p, p < 19999 ∧ tD (qS Q) c p = true ∧ fb_ct (tD (qS Q) c) p = i ∧ XA E w l ad Q (Sum.inr (xp p)) (X12_dictionaryValue_f E l (nI c) (nI i) w.1) := by
  have hc6 : c < 6 := by have := hG.1.2.1; omega
  obtain ⟨p, p1, p2, p3, p4⟩ := (h.D hc6).entry hi
  refine ⟨p, p1, p2, p3, w, ?_, KK.rf h.pos, h⟩
  unfold X12_dictionaryValue_f X12_dictionaryValue
  rw [ob_e h.cl, ob_e (h.col hc hG.1.2.1), gtry_r, ob_e h.cl, ob_e (h.code hc6 hi), gtry_r, ob_e h.f0, ob_e h.c0, ob_e (h.S.dict hc6), ob_e (h.S.dcl hc6), ob_e p4]
theorem K_frequency (hN : 100000 ≤ gN E) (h : RK E w l ad Q) (hG : GQ Q) {c i : Nat} (hc : c < (qS Q).1) (hi : i < dsz (tD (qS Q) c)) : ∃ p, p < 19999 ∧ tD (qS Q) c p = true ∧ fb_ct (tD (qS Q) c) p = i ∧ XA E w l ad Q (Sum.inr (nI (fb_ct (fun r => decide (tV (qS Q) c r = xp p)) (tR (qS Q))))) (X12_frequency_f E l (nI c) (nI i) w.1) := by
  have hc6 : c < 6 := by have := hG.1.2.1; omega
  obtain ⟨p, p1, p2, p3, p4⟩ := (h.D hc6).entry hi
  refine ⟨p, p1, p2, p3, w, ?_, KK.rf h.pos, h⟩
  unfold X12_frequency_f X12_frequency
  rw [ob_e h.cl, ob_e (h.col hc hG.1.2.1), gtry_r, ob_e h.cl, ob_e (h.code hc6 hi), gtry_r, ob_e h.f0, ob_e h.c0, ob_e (h.S.column hc6), ob_e h.f0, ob_e h.c0, ob_e (h.S.dict hc6), ob_e (h.S.dcl hc6), ob_e p4, ob_e (h.S.ccl hc6), ob_e ((h.V hG.1 hc).occ hN _)]
theorem K_conditionColumn (hN : 100000 ≤ gN E) (h : RK E w l ad Q) (hG : GQ Q) {i : Nat} (hi : i < tK (qS Q)) : XA E w l ad Q (Sum.inr (nI (tFc (qS Q) i))) (X12_conditionColumn_f E l (nI i) w.1) := by
  refine ⟨w, ?_, KK.rf h.pos, h⟩
  unfold X12_conditionColumn_f X12_conditionColumn
  rw [ob_e h.cl, ob_e (h.con hi hG.1.2.2.2.2.2.1), gtry_r, ob_e h.f0, ob_e h.c0, ob_e h.S.filter, ob_e h.S.fcl, ob_e (h.S.2.2.1.col hi)]
theorem K_conditionValue (hN : 100000 ≤ gN E) (h : RK E w l ad Q) (hG : GQ Q) {i : Nat} (hi : i < tK (qS Q)) : XA E w l ad Q (Sum.inr (tFv (qS Q) i)) (X12_conditionValue_f E l (nI i) w.1) := by
  refine ⟨w, ?_, KK.rf h.pos, h⟩
  unfold X12_conditionValue_f X12_conditionValue
  rw [ob_e h.cl, ob_e (h.con hi hG.1.2.2.2.2.2.1), gtry_r, ob_e h.f0, ob_e h.c0, ob_e h.S.filter, ob_e h.S.fcl, ob_e (h.S.2.2.1.val hi)]
theorem K_conditionDirection (hN : 100000 ≤ gN E) (h : RK E w l ad Q) (hG : GQ Q) {i : Nat} (hi : i < tK (qS Q)) : XA E w l ad Q (Sum.inr (tFd (qS Q) i)) (X12_conditionDirection_f E l (nI i) w.1) := by
  refine ⟨w, ?_, KK.rf h.pos, h⟩
  unfold X12_conditionDirection_f X12_conditionDirection
  rw [ob_e h.cl, ob_e (h.con hi hG.1.2.2.2.2.2.1), gtry_r, ob_e h.f0, ob_e h.c0, ob_e h.S.filter, ob_e h.S.fcl, ob_e (h.S.2.2.1.dir hi)]
theorem K_lowerCode (hN : 100000 ≤ gN E) (h : RK E w l ad Q) (hG : GQ Q) {i : Nat} (hi : i < tK (qS Q)) : XA E w l ad Q (Sum.inr (nI (slo (qS Q) i))) (X12_lowerCode_f E l (nI i) w.1) := by
  refine ⟨w, ?_, KK.rf h.pos, h⟩
  unfold X12_lowerCode_f X12_lowerCode
  rw [ob_e h.cl, ob_e (h.con hi hG.1.2.2.2.2.2.1), gtry_r, ob_e h.f0, ob_e h.c0, ob_e (h.S.lower hN hG.1 hi)]
theorem K_upperCode (hN : 100000 ≤ gN E) (h : RK E w l ad Q) (hG : GQ Q) {i : Nat} (hi : i < tK (qS Q)) : XA E w l ad Q (Sum.inr (nI (shi (qS Q) i))) (X12_upperCode_f E l (nI i) w.1) := by
  refine ⟨w, ?_, KK.rf h.pos, h⟩
  unfold X12_upperCode_f X12_upperCode
  rw [ob_e h.cl, ob_e (h.con hi hG.1.2.2.2.2.2.1), gtry_r, ob_e h.f0, ob_e h.c0, ob_e (h.S.upper hN hG.1 hi)]
theorem K_matches (hN : 100000 ≤ gN E) (h : RK E w l ad Q) (hG : GQ Q) {i : Nat} (hi : i < tK (qS Q)) : XA E w l ad Q (Sum.inr (nI (fb_ct (fun r => sful (qS Q) r i) (tR (qS Q))))) (X12_matches_f E l (nI i) w.1) := by
  refine ⟨w, ?_, KK.rf h.pos, h⟩
  unfold X12_matches_f X12_matches
  rw [ob_e h.cl, ob_e (h.con hi hG.1.2.2.2.2.2.1), gtry_r, ob_e h.f0, ob_e h.c0, ob_e (h.S.matches hN hG.1 hi)]
theorem K_isSelected (hN : 100000 ≤ gN E) (h : RK E w l ad Q) (hG : GQ Q) {r : Nat} (hr : r < tR (qS Q)) : XA E w l ad Q (Sum.inr (if ssel (qS Q) r = true then 1 else 0)) (X12_isSelected_f E l (nI r) w.1) := by
  refine ⟨w, ?_, KK.rf h.pos, h⟩
  unfold X12_isSelected_f X12_isSelected
  rw [ob_e h.cl, ob_e (h.row hr hG.1.2.2.2.1), gtry_r, ob_e h.f0, ob_e h.c0, ob_e (h.S.sel hN hG.1 hr), ob_e (gzb _)]
theorem K_rejectedBy (hN : 100000 ≤ gN E) (h : RK E w l ad Q) (hG : GQ Q) {r : Nat} (hr : r < tR (qS Q)) : XA E w l ad Q (Sum.inr (if srej (qS Q) r < tK (qS Q) then nI (srej (qS Q) r) else -1)) (X12_rejectedBy_f E l (nI r) w.1) := by
  refine ⟨w, ?_, KK.rf h.pos, h⟩
  unfold X12_rejectedBy_f X12_rejectedBy
  rw [ob_e h.cl, ob_e (h.row hr hG.1.2.2.2.1), gtry_r, ob_e h.f0, ob_e h.c0, ob_e (h.S.rej hN hG.1 hr)]
theorem K_columnCount (hN : 100000 ≤ gN E) (h : RK E w l ad Q) (hG : GQ Q) : X12_columnCount_f E w.1 l = some (nI (qS Q).1) := by
  unfold X12_columnCount_f X12_columnCount
  rw [ob_e h.f0, ob_e h.c0, ob_e h.S.columns]
theorem K_rowCount (hN : 100000 ≤ gN E) (h : RK E w l ad Q) (hG : GQ Q) : X12_rowCount_f E w.1 l = some (nI (tR (qS Q))) := by
  unfold X12_rowCount_f X12_rowCount
  rw [ob_e h.f0, ob_e h.c0, ob_e h.S.rows]
theorem K_conditionCount (hN : 100000 ≤ gN E) (h : RK E w l ad Q) (hG : GQ Q) : X12_conditionCount_f E w.1 l = some (nI (tK (qS Q))) := by
  unfold X12_conditionCount_f X12_conditionCount
  rw [ob_e h.f0, ob_e h.c0, ob_e h.S.filter, ob_e h.S.fcl, ob_e h.S.2.2.1.size]
theorem K_selectedCount (hN : 100000 ≤ gN E) (h : RK E w l ad Q) (hG : GQ Q) : X12_selectedCount_f E w.1 l = some (nI (fb_ct (ssel (qS Q)) (tR (qS Q)))) := by
  unfold X12_selectedCount_f X12_selectedCount
  rw [ob_e h.f0, ob_e h.c0, ob_e (h.S.nsel hN hG.1)]
theorem K_undoableCount (hN : 100000 ≤ gN E) (h : RK E w l ad Q) (hG : GQ Q) : X12_undoableCount_f E w.1 l = some (nI (qZ Q)) := by
  unfold X12_undoableCount_f X12_undoableCount
  rw [ob_e h.f3, ob_e (gcl_o h.2.2.2.1.1.2.2), ob_e h.2.2.2.1.size]
end KS
