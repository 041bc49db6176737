/-! pure: more answers of the object -/
def gbits (S : gT) : Nat := fb_sm (fun c => gwid (dsz (tD S c))) S.1 * tR S
def gents (S : gT) : Nat := fb_sm (fun c => dsz (tD S c)) S.1
/-- the condition that fewest rows fulfill, of the first k -/
def gstr (S : gT) : Nat → Nat
  | 0 => 0
  | k + 1 => if k = 0 then 0 else if fb_ct (fun r => sful S r k) (tR S) < fb_ct (fun r => sful S r (gstr S k)) (tR S) then k else gstr S k
theorem gstr_lt (S : gT) : ∀ k, 0 < k → gstr S k < k
  | 0, h => by omega
  | k + 1, _ => by
    unfold gstr
    by_cases h0 : k = 0
    · rw [if_pos h0]; omega
    · rw [if_neg h0]
      have := gstr_lt S k (by omega)
      split <;> omega
def gsumL (S : gT) (c : Nat) : Nat → Int64
  | 0 => 0
  | r + 1 => if ssel S r = true then gsumL S c r + (tV S c r).toInt64 else gsumL S c r
def dsel (p : Nat → Bool) (v : Nat → Int32) : Nat → Nat → Bool
  | 0 => fun _ => false
  | r + 1 => if p r = true then dins (dsel p v r) (px (v r)) else dsel p v r
def gord (S : gT) (c : Nat) (asc : Bool) : Nat → Nat := sSort (fun x y => gwr asc (tV S c x) (tV S c y)) (tR S)
def grby (S : gT) (c : Nat) : Nat := fb_sm (fun o => gruns (tV S o) (gord S c true) (tR S)) S.1
def gbsc (S : gT) : Nat → Nat
  | 0 => 0
  | k + 1 => if k = 0 then 0 else if grby S k < grby S (gbsc S k) then k else gbsc S k
theorem gbsc_lt (S : gT) : ∀ k, 0 < k → gbsc S k < k
  | 0, h => by omega
  | k + 1, _ => by
    unfold gbsc
    by_cases h0 : k = 0
    · rw [if_pos h0]; omega
    · rw [if_neg h0]
      have := gbsc_lt S k (by omega)
      split <;> omega
theorem gruns_le (v : Nat → Int32) (s : Nat → Nat) (n : Nat) : gruns v s n ≤ n := fb_ct_le _ _
theorem gents_le {S : gT} (h : S.1 ≤ 6) : gents S ≤ 119994 := by
  have h1 := fb_sm_bound (f := fun c => dsz (tD S c)) (c := 19999) (n := S.1) (fun k _ => dsz_le _)
  have h2 : S.1 * 19999 ≤ 6 * 19999 := Nat.mul_le_mul_right _ h
  unfold gents
  omega
theorem gwids_le {S : gT} (h : S.1 ≤ 6) {k : Nat} (hk : k ≤ S.1) : fb_sm (fun c => gwid (dsz (tD S c))) k ≤ 90 := by
  have h1 := fb_sm_bound (f := fun c => gwid (dsz (tD S c))) (c := 15) (n := k) (fun k _ => (wid15 _).1)
  omega
section KT
variable {E : gE} {w : gWd} {l : Nat} {ad : Nat → Nat} {Q : gQ}
theorem RK.sc (h : RK E w l ad Q) {w' : gWd} {J : Nat × Nat × Nat → Prop} (hF : FS E J w w') (hJ : ∀ κ j c, J (κ, j, c) → j = 10 ∨ j = 20 ∨ j = 21) (hO : ∃ n s, RO E w' (ad 8) n s) (hD : ∃ f, RD E w' (ad 9) 10 0 f) (hP : ∃ wd W, RP E w' (ad 10) wd W) : RK E w' l ad Q := by
  obtain ⟨h1, h2, h3, h4, h5, h6, ⟨g, h7, h8⟩, -, -, -⟩ := h
  have no : ∀ κ j c, j ≠ 10 → j ≠ 20 → j ≠ 21 → ¬ J (κ, j, c) := fun κ j c a b d z => by have := hJ κ j c z; omega
  exact ⟨h1.fr hF (no _ _ _ (by decide) (by decide) (by decide)), h2.fr hF (fun κ c => no _ _ _ (by decide) (by decide) (by decide)), h3.fr hF (fun κ c => no _ _ _ (by decide) (by decide) (by decide)), h4.fr hF (fun κ j c hj => by
    have hj' : j = 24 ∨ (2 ≤ j ∧ j < 10) := hj
    exact no _ _ _ (by omega) (by omega) (by omega)), h5.fr hF (fun κ => no _ _ _ (by decide) (by decide) (by decide)), h6.fr hF (fun κ i => no _ _ _ (by decide) (by decide) (by decide)), ⟨g, h7.fr hF (no _ _ _ (by decide) (by decide) (by decide)), h8⟩, hO, hD, hP⟩
theorem RK.sO (h : RK E w l ad Q) {w' : gWd} (hF : FS E J20 w w') {n : Nat} {s : Nat → Nat} (hO : RO E w' (ad 8) n s) : RK E w' l ad Q := by
  have no : ∀ κ j c, ¬ j = 20 → ¬ J20 (κ, j, c) := fun κ j c hj z => hj (congrArg Prod.fst z)
  obtain ⟨-, -, -, -, -, -, -, -, ⟨f, h10⟩, wd, W, h11⟩ := id h
  exact h.sc hF (fun κ j c z => Or.inr (Or.inl (congrArg Prod.fst z))) ⟨n, s, hO⟩ ⟨f, h10.fr hF (no _ _ _ (by decide)) (no _ _ _ (by decide))⟩ ⟨wd, W, h11.fr hF (fun κ => no _ _ _ (by decide))⟩
abbrev J10 : Nat × Nat × Nat → Prop := fun t => t.2 = (10, 0)
theorem RK.sD (h : RK E w l ad Q) {w' : gWd} (hF : FS E J10 w w') {f : Nat → Bool} (hD : RD E w' (ad 9) 10 0 f) : RK E w' l ad Q := by
  have no : ∀ κ j c, ¬ j = 10 → ¬ J10 (κ, j, c) := fun κ j c hj z => hj (congrArg Prod.fst z)
  obtain ⟨-, -, -, -, -, -, -, ⟨n, s, h9⟩, -, wd, W, h11⟩ := id h
  exact h.sc hF (fun κ j c z => Or.inl (congrArg Prod.fst z)) ⟨n, s, h9.fr hF (fun κ => no _ _ _ (by decide))⟩ ⟨f, hD⟩ ⟨wd, W, h11.fr hF (fun κ => no _ _ _ (by decide))⟩
theorem RK.sP (h : RK E w l ad Q) {w' : gWd} (hF : FS E J21 w w') {wd : Nat} {W : Nat → Int64} (hP : RP E w' (ad 10) wd W) : RK E w' l ad Q := by
  have no : ∀ κ j c, ¬ j = 21 → ¬ J21 (κ, j, c) := fun κ j c hj z => hj (congrArg Prod.fst z)
  obtain ⟨-, -, -, -, -, -, -, ⟨n, s, h9⟩, ⟨f, h10⟩, -⟩ := id h
  exact h.sc hF (fun κ j c z => Or.inr (Or.inr (congrArg Prod.fst z))) ⟨n, s, h9.fr hF (fun κ => no _ _ _ (by decide))⟩ ⟨f, h10.fr hF (no _ _ _ (by decide)) (no _ _ _ (by decide))⟩ ⟨wd, W, hP⟩
theorem JK20 (t : Nat × Nat × Nat) (h : J20 t) : JK t := by show t.2.1 < 30; rw [h]; decide
theorem JK10 (t : Nat × Nat × Nat) (h : J10 t) : JK t := by show t.2.1 < 30; rw [h]; decide
theorem JK21 (t : Nat × Nat × Nat) (h : J21 t) : JK t := by show t.2.1 < 30; rw [h]; decide
theorem RK.clO (h : RK E w l ad Q) : gcl w.1 (ad 8) 8 = some () := by
  obtain ⟨-, -, -, -, -, -, -, ⟨n, s, h9⟩, -⟩ := id h
  exact gcl_o h9.1.2.2
theorem RK.clD (h : RK E w l ad Q) : gcl w.1 (ad 9) 2 = some () := by
  obtain ⟨-, -, -, -, -, -, -, -, ⟨f, -, en, g0, hO, -⟩, -⟩ := id h
  exact gcl_o hO.2.2
theorem RK.clP (h : RK E w l ad Q) : gcl w.1 (ad 10) 6 = some () := by
  obtain ⟨-, -, -, -, -, -, -, -, -, wd, W, h11⟩ := id h
  exact gcl_o h11.1.2.2
theorem RK.coll (hN : 100000 ≤ gN E) (h : RK E w l ad Q) (hG : GQ Q) (hR : RM E w 1) {c : Nat} (hc : c < (qS Q).1) : ∃ w', X1_collectInto_f E (ad 0 + 6 + 4 * c) (ad 9) w.1 = some w'.1 ∧ FS E J10 w w' ∧ RK E w' l ad Q ∧ RD E w' (ad 9) 10 0 (dcol (tV (qS Q) c) (tR (qS Q))) := by
  obtain ⟨-, -, -, -, -, -, -, -, ⟨f, h10⟩, -⟩ := id h
  obtain ⟨w1, e1, F1, V1, D1⟩ := (h.V hG.1 hc).collect hN h10 (fun r hr => (hG.1.2.2.2.2.1 c r hc hr).1) (by decide) (by decide) hR (J := J10) (fun κ _ => rfl)
  exact ⟨w1, e1, F1, h.sD F1 D1, D1⟩
theorem K_staleCount (hN : 100000 ≤ gN E) (h : RK E w l ad Q) (hG : GQ Q) (hR : RM E w 1) {c : Nat} (hc : c < (qS Q).1) : XA E w l ad Q (Sum.inr (nI (dsz (tD (qS Q) c)) - nI (dsz (dcol (tV (qS Q) c) (tR (qS Q)))))) (X12_staleCount_f E l (nI c) w.1) := by
  have hc6 : c < 6 := by have := hG.1.2.1; omega
  obtain ⟨w1, e1, F1, h1, D1⟩ := h.coll hN hG hR hc
  refine ⟨w1, ?_, (F1.mono JK10).kk h.pos, h1⟩
  unfold X12_staleCount_f X12_staleCount
  rw [ob_e h.cl, ob_e (h.col hc hG.1.2.1), gtry_r, ob_e h.f0, ob_e h.c0, ob_e (h.S.column hc6), ob_e h.f9, ob_e (h.S.ccl hc6), ob_e e1, ob_e h1.f0, ob_e h1.c0, ob_e (h1.S.dict hc6), ob_e (h1.S.dcl hc6), ob_e (h1.D hc6).size, ob_e h1.f9, ob_e h1.clD, ob_e D1.size]
theorem K_bitWidthCompacted (hN : 100000 ≤ gN E) (h : RK E w l ad Q) (hG : GQ Q) (hR : RM E w 1) {c : Nat} (hc : c < (qS Q).1) : XA E w l ad Q (Sum.inr (nI (gwid (dsz (dcol (tV (qS Q) c) (tR (qS Q))))))) (X12_bitWidthCompacted_f E l (nI c) w.1) := by
  have hc6 : c < 6 := by have := hG.1.2.1; omega
  obtain ⟨w1, e1, F1, h1, D1⟩ := h.coll hN hG hR hc
  refine ⟨w1, ?_, (F1.mono JK10).kk h.pos, h1⟩
  unfold X12_bitWidthCompacted_f X12_bitWidthCompacted
  rw [ob_e h.cl, ob_e (h.col hc hG.1.2.1), gtry_r, ob_e h.f0, ob_e h.c0, ob_e (h.S.column hc6), ob_e h.f9, ob_e (h.S.ccl hc6), ob_e e1, ob_e h1.f9, ob_e h1.clD, ob_e (D1.width hN)]
theorem K_runCount (hN : 100000 ≤ gN E) (h : RK E w l ad Q) (hG : GQ Q) {c : Nat} (hc : c < (qS Q).1) : XA E w l ad Q (Sum.inr (nI (gruns (tV (qS Q) c) (fun k => k) (tR (qS Q))))) (X12_runCount_f E l (nI c) w.1) := by
  have hc6 : c < 6 := by have := hG.1.2.1; omega
  obtain ⟨-, -, -, -, -, -, -, ⟨n, s, h9⟩, -⟩ := id h
  obtain ⟨w1, e1, F1, O1⟩ := h9.reset hN hG.1.2.2.2.1
  have h1 := h.sO F1 O1
  refine ⟨w1, ?_, (F1.mono JK20).kk h.pos, h1⟩
  unfold X12_runCount_f X12_runCount
  rw [ob_e h.cl, ob_e (h.col hc hG.1.2.1), gtry_r, ob_e h.f8, ob_e h.f0, ob_e h.c0, ob_e h.S.rows, ob_e h.clO, ob_e e1, ob_e h1.f0, ob_e h1.c0, ob_e (h1.S.column hc6), ob_e h1.f8, ob_e (h1.S.ccl hc6), ob_e ((h1.V hG.1 hc).runs hN O1 (fun k hk => hk))]
theorem K_packedWord (hN : 100000 ≤ gN E) (h : RK E w l ad Q) (hG : GQ Q) {c q : Nat} (hc : c < (qS Q).1) (hq : q < (tR (qS Q) * gwid (dsz (tD (qS Q) c)) + 63) / 64) : ∃ W : Int64, (∀ b, b < 64 → bL W b = pb (gwid (dsz (tD (qS Q) c))) (gcd (tD (qS Q) c) (tV (qS Q) c) (tR (qS Q))) (tR (qS Q)) (64 * q + b)) ∧ XA E w l ad Q (Sum.inr W) (X12_packedWord_f E l (nI c) (nI q) w.1) := by
  have hc6 : c < 6 := by have := hG.1.2.1; omega
  have h15 := (wid15 (tD (qS Q) c)).1
  have h60 := hG.1.2.2.2.1
  have hm : tR (qS Q) * gwid (dsz (tD (qS Q) c)) ≤ 60 * 15 := Nat.mul_le_mul h60 h15
  obtain ⟨-, -, -, -, -, -, -, -, -, wd, W, h11⟩ := id h
  obtain ⟨w1, W1, e1, F1, C1, P1, H1⟩ := RP.pack hN (h.C hG.1 hc) h11 (fun r hr => hG.1.2.2.2.2.1 c r hc hr) (by decide)
  have h1 := h.sP F1 P1
  refine ⟨W1 q, fun b hb => H1 q b (by omega) hb, w1, ?_, (F1.mono JK21).kk h.pos, h1⟩
  unfold X12_packedWord_f X12_packedWord
  rw [ob_e h.cl, ob_e (h.col hc hG.1.2.1), gtry_r, if_neg (nI_pos (by omega)), ob_e h.cl, ob_e (h.words hN hG hc), if_pos (nI_lt hq (by omega)), ob_e h.f10, ob_e h.f0, ob_e h.c0, ob_e (h.S.column hc6), ob_e h.clP, ob_e e1, ob_e h1.f10, ob_e h1.clP, ob_e (P1.word (by omega))]
theorem pbit_loop (hN : 100000 ≤ gN E) (h : RK E w l ad Q) (hG : GQ Q) : ∀ (k c m : Nat), c + k = (qS Q).1 → k < m → X12_packedBits_4 E w.1 m l (nI (fb_sm (fun c => gwid (dsz (tD (qS Q) c))) c)) (nI c) = some (nI (gbits (qS Q))) := by
  have hC := hG.1.2.1
  intro k
  induction k with
  | zero =>
    intro c m hc hm
    obtain ⟨m, rfl⟩ : ∃ q, m = q + 1 := ⟨m - 1, by omega⟩
    show X12_packedBits_4_s E w.1 (X12_packedBits_4 E w.1 m) l _ (nI c) = _
    unfold X12_packedBits_4_s
    rw [ob_e h.f0, ob_e h.c0, ob_e h.S.columns, if_pos (nI_le (by omega) (by omega)), ob_e h.f0, ob_e h.c0, ob_e h.S.rows, nI_mul, show c = (qS Q).1 by omega]
    rfl
  | succ k ih =>
    intro c m hc hm
    obtain ⟨m, rfl⟩ : ∃ q, m = q + 1 := ⟨m - 1, by omega⟩
    have hI := ih (c + 1) m (by omega) (by omega)
    rw [fb_sm_succ] at hI
    have hc6 : c < 6 := by omega
    show X12_packedBits_4_s E w.1 (X12_packedBits_4 E w.1 m) l _ (nI c) = _
    unfold X12_packedBits_4_s
    rw [ob_e h.f0, ob_e h.c0, ob_e h.S.columns, if_neg (nI_ge (by omega) (by omega)), ob_e h.f0, ob_e h.c0, ob_e (h.S.dict hc6), ob_e (h.S.dcl hc6), ob_e ((h.D hc6).width hN), nI_add, ← nI_succ]
    exact hI
theorem K_packedBits (hN : 100000 ≤ gN E) (h : RK E w l ad Q) (hG : GQ Q) : X12_packedBits_f E w.1 l = some (nI (gbits (qS Q))) := by
  have hC := hG.1.2.1
  exact pbit_loop hN h hG (qS Q).1 0 (gN E) (by omega) (by omega)
def grat (S : gT) : UInt64 := if tR S = 0 then 0 else FP.ddiv (FP.i2d (nI (16 * S.1 * tR S))) (FP.i2d (nI (gbits S + 16 * gents S)))
theorem grat_pos {S : gT} (hG : GS S) (h0 : ¬ tR S = 0) : 0 < gents S := by
  have h1 := (hG.2.2.2.2.1 0 0 hG.1 (by omega)).2
  have hv := (hG.2.2.2.2.1 0 0 hG.1 (by omega)).1
  have h2 : 0 < dsz (tD S 0) := fb_ct_pos.mpr ⟨_, px_lt hv, h1⟩
  have h3 := fb_sm_part (fun c => dsz (tD S c)) (i := 0) (n := S.1) hG.1
  unfold gents
  omega
theorem st_loop (hN : 100000 ≤ gN E) (h : RK E w l ad Q) (hG : GQ Q) : ∀ (k i m : Nat), i + k = tK (qS Q) → k < m → X12_strictestCondition_7 E w.1 m l (if i = 0 then -1 else nI (gstr (qS Q) i)) (if i = 0 then 61 else nI (fb_ct (fun r => sful (qS Q) r (gstr (qS Q) i)) (tR (qS Q)))) (nI i) = some (if tK (qS Q) = 0 then -1 else nI (gstr (qS Q) (tK (qS Q)))) := by
  have hK := hG.1.2.2.2.2.2.1
  have h60 := hG.1.2.2.2.1
  intro k
  induction k with
  | zero =>
    intro i m hi hm
    obtain ⟨m, rfl⟩ : ∃ q, m = q + 1 := ⟨m - 1, by omega⟩
    show X12_strictestCondition_7_s E w.1 (X12_strictestCondition_7 E w.1 m) l _ _ (nI i) = _
    unfold X12_strictestCondition_7_s
    rw [ob_e h.f0, ob_e h.c0, ob_e h.S.filter, ob_e h.S.fcl, ob_e h.S.2.2.1.size, if_pos (nI_le (by omega) (by omega)), show i = tK (qS Q) by omega]
  | succ k ih =>
    intro i m hi hm
    obtain ⟨m, rfl⟩ : ∃ q, m = q + 1 := ⟨m - 1, by omega⟩
    have hI := ih (i + 1) m (by omega) (by omega)
    rw [if_neg (by omega), if_neg (by omega)] at hI
    have hm1 := fb_ct_le (fun r => sful (qS Q) r i) (tR (qS Q))
    have hm2 := fb_ct_le (fun r => sful (qS Q) r (gstr (qS Q) i)) (tR (qS Q))
    show X12_strictestCondition_7_s E w.1 (X12_strictestCondition_7 E w.1 m) l _ _ (nI i) = _
    unfold X12_strictestCondition_7_s X12_strictestCondition_42
    rw [ob_e h.f0, ob_e h.c0, ob_e h.S.filter, ob_e h.S.fcl, ob_e h.S.2.2.1.size, if_neg (nI_ge (by omega) (by omega)), ob_e h.f0, ob_e h.c0, ob_e (h.S.matches hN hG.1 (by omega)), ← nI_succ]
    have hg : gstr (qS Q) (i + 1) = if i = 0 then 0 else if fb_ct (fun r => sful (qS Q) r i) (tR (qS Q)) < fb_ct (fun r => sful (qS Q) r (gstr (qS Q) i)) (tR (qS Q)) then i else gstr (qS Q) i := rfl
    by_cases h0 : i = 0
    · rw [if_pos h0, if_pos h0, if_neg (show ¬ (61 : Int32) ≤ nI _ from nI_ge (b := 61) (by omega) (by decide))]
      rw [hg, if_pos h0] at hI
      rw [h0] at hI ⊢
      exact hI
    · rw [if_neg h0, if_neg h0]
      rw [hg, if_neg h0] at hI
      by_cases hlt : fb_ct (fun r => sful (qS Q) r i) (tR (qS Q)) < fb_ct (fun r => sful (qS Q) r (gstr (qS Q) i)) (tR (qS Q))
      · rw [if_neg (nI_ge hlt (by omega))]
        rw [if_pos hlt] at hI
        exact hI
      · rw [if_pos (nI_le (by omega) (by omega))]
        rw [if_neg hlt] at hI
        exact hI
theorem K_strictestCondition (hN : 100000 ≤ gN E) (h : RK E w l ad Q) (hG : GQ Q) : X12_strictestCondition_f E w.1 l = some (if tK (qS Q) = 0 then -1 else nI (gstr (qS Q) (tK (qS Q)))) := by
  have hK := hG.1.2.2.2.2.2.1
  exact st_loop hN h hG (tK (qS Q)) 0 (gN E) (by omega) (by omega)
def gplc (S : gT) (p : Int32) : Int32 := if 0 ≤ p.toInt ∧ p.toInt < fb_ct (ssel S) (tR S) then nI (kth (ssel S) (tR S) p.toInt.toNat) else -1
theorem sr2_loop (hN : 100000 ≤ gN E) (h : RK E w l ad Q) (hG : GQ Q) (p : Int32) : ∀ (k r m : Nat), r + k = tR (qS Q) → k < m → ¬ (0 ≤ p.toInt ∧ p.toInt < fb_ct (ssel (qS Q)) r) → X12_selectedRow_4 E w.1 m l p (nI (fb_ct (ssel (qS Q)) r)) (nI r) = some (gplc (qS Q) p) := by
  have h60 := hG.1.2.2.2.1
  intro k
  induction k with
  | zero =>
    intro r m hr hm hp
    obtain ⟨m, rfl⟩ : ∃ q, m = q + 1 := ⟨m - 1, by omega⟩
    show X12_selectedRow_4_s E w.1 (X12_selectedRow_4 E w.1 m) l p _ (nI r) = _
    unfold X12_selectedRow_4_s gplc
    rw [ob_e h.f0, ob_e h.c0, ob_e h.S.rows, if_pos (nI_le (by omega) (by omega)), if_neg (by rw [show tR (qS Q) = r by omega]; exact hp)]
  | succ k ih =>
    intro r m hr hm hp
    obtain ⟨m, rfl⟩ : ∃ q, m = q + 1 := ⟨m - 1, by omega⟩
    have hI := ih (r + 1) m (by omega) (by omega)
    have hct := fb_ct_succ (ssel (qS Q)) r
    have hle := fb_ct_le (ssel (qS Q)) r
    show X12_selectedRow_4_s E w.1 (X12_selectedRow_4 E w.1 m) l p _ (nI r) = _
    unfold X12_selectedRow_4_s X12_selectedRow_36
    rw [ob_e h.f0, ob_e h.c0, ob_e h.S.rows, if_neg (nI_ge (by omega) (by omega)), ob_e h.f0, ob_e h.c0, ob_e (h.S.sel hN hG.1 (by omega)), ← nI_succ]
    cases hs : ssel (qS Q) r with
    | false =>
      rw [if_pos (by decide)]
      rw [hs] at hct
      simp only [Bool.false_eq_true, if_false, Nat.add_zero] at hct
      rw [hct] at hI
      exact hI hp
    | true =>
      rw [if_neg (by decide), ← nI_succ]
      rw [hs] at hct
      simp only [if_true] at hct
      rw [hct] at hI
      by_cases he : nI (fb_ct (ssel (qS Q)) r) = p
      · rw [if_pos he]
        have ht : p.toInt = (fb_ct (ssel (qS Q)) r : Int) := by rw [← he, nI_toInt (by omega)]
        have hm2 := fb_ct_mono (ssel (qS Q)) (show r + 1 ≤ tR (qS Q) by omega)
        unfold gplc
        rw [if_pos (by omega), ht]
        have := kth_uq (p := ssel (qS Q)) (n := tR (qS Q)) (q := r) (by omega) hs
        rw [show ((fb_ct (ssel (qS Q)) r : Nat) : Int).toNat = fb_ct (ssel (qS Q)) r by omega, this]
      · rw [if_neg he]
        refine hI (fun z => hp ⟨z.1, ?_⟩)
        have : p.toInt ≠ (fb_ct (ssel (qS Q)) r : Int) := fun z2 => he (Int32.toInt_inj.mp (by rw [nI_toInt (by omega), z2]))
        omega
theorem K_selectedRow (hN : 100000 ≤ gN E) (h : RK E w l ad Q) (hG : GQ Q) (p : Int32) : X12_selectedRow_f E w.1 l p = some (gplc (qS Q) p) := by
  have h60 := hG.1.2.2.2.1
  exact sr2_loop hN h hG p (tR (qS Q)) 0 (gN E) (by omega) (by omega) (fun z => by simp [fb_ct] at z; omega)
def gsely (S : gT) : UInt32 := if tR S = 0 then 0 else FP.fdiv (FP.i2f (nI (fb_ct (ssel S) (tR S)))) (FP.i2f (nI (tR S)))
theorem sum_loop (hN : 100000 ≤ gN E) (h : RK E w l ad Q) (hG : GQ Q) {c : Nat} (hc : c < (qS Q).1) : ∀ (k r m : Nat), r + k = tR (qS Q) → k < m → X12_sumOfSelected_5 E w.1 m l (nI c) (gsumL (qS Q) c r) (nI r) = some (gsumL (qS Q) c (tR (qS Q))) := by
  have h60 := hG.1.2.2.2.1
  have hc6 : c < 6 := by have := hG.1.2.1; omega
  intro k
  induction k with
  | zero =>
    intro r m hr hm
    obtain ⟨m, rfl⟩ : ∃ q, m = q + 1 := ⟨m - 1, by omega⟩
    show X12_sumOfSelected_5_s E w.1 (X12_sumOfSelected_5 E w.1 m) l _ _ (nI r) = _
    unfold X12_sumOfSelected_5_s
    rw [ob_e h.f0, ob_e h.c0, ob_e h.S.rows, if_pos (nI_le (by omega) (by omega)), show r = tR (qS Q) by omega]
  | succ k ih =>
    intro r m hr hm
    obtain ⟨m, rfl⟩ : ∃ q, m = q + 1 := ⟨m - 1, by omega⟩
    have hI := ih (r + 1) m (by omega) (by omega)
    have hg : gsumL (qS Q) c (r + 1) = if ssel (qS Q) r = true then gsumL (qS Q) c r + (tV (qS Q) c r).toInt64 else gsumL (qS Q) c r := rfl
    rw [hg] at hI
    show X12_sumOfSelected_5_s E w.1 (X12_sumOfSelected_5 E w.1 m) l _ _ (nI r) = _
    unfold X12_sumOfSelected_5_s X12_sumOfSelected_46
    rw [ob_e h.f0, ob_e h.c0, ob_e h.S.rows, if_neg (nI_ge (by omega) (by omega)), ob_e h.f0, ob_e h.c0, ob_e (h.S.sel hN hG.1 (by omega)), ← nI_succ]
    cases hs : ssel (qS Q) r with
    | false =>
      rw [if_pos (by decide)]
      rw [hs, if_neg (by decide)] at hI
      exact hI
    | true =>
      rw [if_neg (by decide), ob_e h.f0, ob_e h.c0, ob_e (h.S.column hc6), ob_e (h.S.ccl hc6), ob_e ((h.V hG.1 hc).at (by omega))]
      rw [hs, if_pos rfl] at hI
      exact hI
theorem RK.sum (hN : 100000 ≤ gN E) (h : RK E w l ad Q) (hG : GQ Q) {c : Nat} (hc : c < (qS Q).1) : X12_sumOfSelected_f E w.1 l (nI c) = some (gsumL (qS Q) c (tR (qS Q))) := by
  have h60 := hG.1.2.2.2.1
  exact sum_loop hN h hG hc (tR (qS Q)) 0 (gN E) (by omega) (by omega)
theorem K_sumSelected (hN : 100000 ≤ gN E) (h : RK E w l ad Q) (hG : GQ Q) {c : Nat} (hc : c < (qS Q).1) : XA E w l ad Q (Sum.inr (gsumL (qS Q) c (tR (qS Q)))) (X12_sumSelected_f E l (nI c) w.1) := by
  refine ⟨w, ?_, KK.rf h.pos, h⟩
  unfold X12_sumSelected_f X12_sumSelected
  rw [ob_e h.cl, ob_e (h.col hc hG.1.2.1), gtry_r, ob_e h.cl, ob_e (h.sum hN hG hc)]
def gmean (S : gT) (c : Nat) : UInt64 := if fb_ct (ssel S) (tR S) = 0 then 0 else FP.ddiv (FP.l2d (gsumL S c (tR S))) (FP.i2d (nI (fb_ct (ssel S) (tR S))))
theorem gsumL_le {S : gT} (hG : GS S) {c : Nat} (hc : c < S.1) : ∀ r, r ≤ tR S → -(9999 * (r : Int)) ≤ (gsumL S c r).toInt ∧ (gsumL S c r).toInt ≤ 9999 * (r : Int)
  | 0, _ => by
    have : (gsumL S c 0).toInt = 0 := rfl
    omega
  | r + 1, h => by
    have ih := gsumL_le hG hc r (by omega)
    have hv := (hG.2.2.2.2.1 c r hc (by omega)).1
    have h1 := hv.1
    have h2 := hv.2
    have h60 := hG.2.2.2.1
    unfold gsumL
    split
    · have e : ((tV S c r).toInt64).toInt = (tV S c r).toInt := Int32.toInt_toInt64 _
      rw [fb_addL (by rw [e]; omega) (by rw [e]; omega), e]
      omega
    · omega
end KT
