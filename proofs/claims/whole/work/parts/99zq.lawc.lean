/-! pure: the law, call by call -/
abbrev gLr : Type := Nat → Nat → Nat → Nat → Nat → Int32 → gS → Option (Int32 × gS)
def CC (E : gE) (w : gWd) (l0 l1 l2 l3 l4 p : Nat) (ad : Nat → Nat) (r : gLr) (x : Option (Int32 × gS)) : Prop := ∃ (w' : gWd) (Q' : gQ), x = r l0 l1 l2 l3 l4 (nI p + 6) w'.1 ∧ LW E w' l1 l2 l3 l4 ad Q' ∧ KX E w w'
theorem f2d_s {S : gT} (hG : GS S) : gf2d (gsely S) = some (FP.f2d (gsely S)) := by
  have h60 := hG.2.2.2.1
  have hle := fb_ct_le (ssel S) (tR S)
  unfold gsely
  by_cases h0 : tR S = 0
  · rw [if_pos h0]
    decide +kernel
  · rw [if_neg h0]
    exact gf2d_ii (by omega) (by omega) h0
def cvB (x : Int32) : Int64 := if x = 0 then 0 else 1
theorem ob_if {α β : Type} {p : Prop} [Decidable p] {f : α → Option β} {a b : α} {k : β → Option (Int32 × gS)} : (if p then ob (f a) k else ob (f b) k) = ob (f (if p then a else b)) k := by
  by_cases h : p
  · rw [if_pos h, if_pos h]
  · rw [if_neg h, if_neg h]
theorem jkl {t : Nat × Nat × Nat} {n : Nat} (h : t.2.1 = n) (hn : n < 30) : JK t := by
  show t.2.1 < 30
  omega
theorem z22 {t : Nat × Nat × Nat} (h : J22 t) : t.2.1 = 22 := congrArg Prod.fst (show t.2 = (22, 0) from h)
section CA
variable {E : gE} {w : gWd} {l0 l1 l2 l3 l4 p : Nat} {ad : Nat → Nat} {Q : gQ} {a b c d e : Int32} {r : gLr}
/-- the law's answer compared, doubles -/
def tlD (E : gE) (l2 l4 : Nat) (k : Int32) (v : UInt64) (σ : gS) (nx no : gS → Option (Int32 × gS)) : Option (Int32 × gS) := ob (gcl σ l2 11) fun _ => ob (X13_thrown_f E σ l2) fun x598 => if x598 = k then if k = 0 then ob (graD E σ l4 (0 : Int32)) fun x601 => if (Op.cmpValue (FP.dcmp x601 v) .l) = 0 then nx σ else ob (graD E σ l4 (0 : Int32)) fun x603 => ob (graD E σ l4 (0 : Int32)) fun x605 => if (Op.cmpValue (FP.dcmp x603 x605) .l) = 0 then no σ else if (Op.cmpValue (FP.dcmp v v) .l) = 0 then no σ else nx σ else nx σ else some ((0 : Int32), σ)
theorem lawD {fk : Nat → gS → Option (Int32 × gS)} {cX : Option ((Nat ⊕ UInt64) × gS)} {cM : gS → Option (UInt64 × gS)} (hl : LW E w l1 l2 l3 l4 ad Q) (hA : AGR E w l1 l2 ad Q fk cX cM) : ∃ (w1 w2 : gWd) (Q' : gQ) (k : Int32) (v : UInt64), (ob cX fun x1 => gtry x1 fk (fun x5 σ4 => ob (gwaD E σ4 l4 (0 : Int32) x5) fun σ6 => some ((0 : Int32), σ6))) = some (k, w1.1) ∧ gcl w1.1 l2 11 = some () ∧ cM w1.1 = some (v, w2.1) ∧ (∀ nx no, tlD E l2 l4 k v w2.1 nx no = nx w2.1) ∧ LW E w2 l1 l2 l3 l4 ad Q' ∧ KX E w w2 := by
  obtain ⟨hK, ⟨th, hX⟩, hG, ⟨f, hJ⟩, g, hD⟩ := hl
  rcases hA with ⟨v, Q', hG', ⟨w1, e1, K1, k1⟩, hM⟩ | ⟨k, c, z, hc, hfk, ⟨w1, e1, K1, k1⟩, hM⟩
  · have J1 := hJ.kk K1 nJK
    have D1 := hD.kk K1 nJK
    obtain ⟨w2, e2, ⟨g', D2, g0⟩, F2⟩ := D1.st v (J := J41) rfl
    have X2 := (hX.kk K1).j41 F2
    obtain ⟨w3, e3, F3, X3⟩ := hM _ th X2
    have D3 := D2.fr F3 nJ30
    refine ⟨w2, w3, Q', 0, v, ?_, X2.cl, e3, fun nx no => ?_, ⟨(k1.j41 F2).j30 F3, ⟨0, X3⟩, hG', ⟨_, (J1.fr F2 (by decide)).fr F3 nJ30⟩, _, D3⟩, ?_⟩
    · rw [e1]
      show ob (gwaD E w1.1 l4 (0 : Int32) v) _ = _
      rw [ob_e e2]
    · unfold tlD
      have rd := D3.ld
      rw [g0] at rd
      rw [ob_e X3.cl, ob_e X3.thr, if_pos rfl, if_pos rfl, ob_e rd, ob_e rd, ob_e rd]
      by_cases y : Op.cmpValue (FP.dcmp v v) .l = 0
      · rw [if_pos y]
      · rw [if_neg y, if_neg y, if_neg y]
    · exact fun y hy => F3.2.2.2 _ (F2.2.2.2 _ (K1.2 _ hy))
  · have J1 := hJ.kk K1 nJK
    have D1 := hD.kk K1 nJK
    have X1 := hX.kk K1
    obtain ⟨w3, e3, F3, X3⟩ := hM _ th X1
    refine ⟨w1, w3, Q, c, z, ?_, X1.cl, e3, fun nx no => ?_, ⟨k1.j30 F3, ⟨c, X3⟩, hG, ⟨_, J1.fr F3 nJ30⟩, g, D1.fr F3 nJ30⟩, ?_⟩
    · rw [e1]
      exact hfk _
    · unfold tlD
      rw [ob_e X3.cl, ob_e X3.thr, if_pos rfl, if_neg hc]
    · exact fun y hy => F3.2.2.2 _ (K1.2 _ hy)

theorem C_308 (hO : gOK E) (hl : LW E w l1 l2 l3 l4 ad Q) (hR : RM E w 1) (hs : SC E l0 p a b c d e) : CC E w l0 l1 l2 l3 l4 p ad r (L_law_308 E r l0 l1 l2 l3 l4 (nI p) w.1) := by
  have hl0 := hl
  obtain ⟨hK, -, hG, -⟩ := hl
  have hN := hO.1
  obtain ⟨s1, s2, s3, s4, s5⟩ := hs
  have h7 : qN Q ≤ 700 := hG.2.2.2.2.2.2.2.1
  by_cases hn : qN Q + 20 ≤ 700
  · obtain ⟨w1, e1, F1, k1⟩ := K_appendText hN hK (a := a) (b := b) (c := c) (d := d) (e := e) hn
    obtain ⟨w2, c1, c2, e2, h4, h5⟩ := law1 (cM := fun σ => X13_appendText_f E l2 a b c d e σ) hl0 F1 (fun t z => jkl (show t.2.1 = 22 from z22 z) (by decide)) k1 (hG.inp _ hn) (fun w2 th h2 => M_appendText hN h2 hn)
    have e2 : X13_appendText_f E l2 a b c d e w1.1 = _ := e2
    refine ⟨w2, _, ?_, h4, h5⟩
    unfold L_law_308
    rw [ob_e (s1 _), ob_e (s2 _), ob_e (s3 _), ob_e (s4 _), ob_e (s5 _), ob_e c1, ob_e e1, ob_e (s1 _), ob_e (s2 _), ob_e (s3 _), ob_e (s4 _), ob_e (s5 _), ob_e c2, ob_e e2, if_pos rfl]
    rfl
  · have e1 := K_appendTextF hK (a := a) (b := b) (c := c) (d := d) (e := e) h7 hn
    obtain ⟨w2, c1, c2, e2, h4, h5⟩ := law0 (cM := fun σ => X13_appendText_f E l2 a b c d e σ) hl0 (fun w2 th h2 => M_appendTextF h2 h7 hn)
    have e2 : X13_appendText_f E l2 a b c d e w.1 = _ := e2
    refine ⟨w2, _, ?_, h4, h5⟩
    unfold L_law_308
    rw [ob_e (s1 _), ob_e (s2 _), ob_e (s3 _), ob_e (s4 _), ob_e (s5 _), ob_e c1, ob_e e1, ob_e (s1 _), ob_e (s2 _), ob_e (s3 _), ob_e (s4 _), ob_e (s5 _), ob_e c2, ob_e e2, if_pos rfl]
    rfl
theorem C_381 (hO : gOK E) (hl : LW E w l1 l2 l3 l4 ad Q) (hR : RM E w 1) (hs : SC E l0 p a b c d e) : CC E w l0 l1 l2 l3 l4 p ad r (L_law_381 E r l0 l1 l2 l3 l4 (nI p) w.1) := by
  have hl0 := hl
  obtain ⟨hK, -, hG, -⟩ := hl
  have hN := hO.1
  obtain ⟨s1, s2, s3, s4, s5⟩ := hs
  obtain ⟨w1, w2, Q', k, v, e1, c1, e2, e3, h4, h5⟩ := lawJ (fun x : Int32 => x.toInt64) hl0 (A_loadTable hO hN hK hG hR hK.hIN.2.2.2 a)
  have e1 : L_loadTable_f E l1 a l3 w.1 = some (k, w1.1) := by
    unfold L_loadTable_f L_loadTable
    rw [ob_e hK.cl]
    exact e1
  have e2 : X13_loadTable_f E l2 a w1.1 = some (v, w2.1) := e2
  refine ⟨w2, Q', ?_, h4, h5⟩
  unfold L_law_381
  rw [ob_e (s1 _), ob_e e1, ob_e (s1 _), ob_e c1, ob_e e2]
  exact e3 (L_law_3358 E r l0 l1 l2 l3 l4 (nI p))
theorem C_437 (hO : gOK E) (hl : LW E w l1 l2 l3 l4 ad Q) (hR : RM E w 1) (hs : SC E l0 p a b c d e) : CC E w l0 l1 l2 l3 l4 p ad r (L_law_437 E r l0 l1 l2 l3 l4 (nI p) w.1) := by
  have hl0 := hl
  obtain ⟨hK, -, hG, -⟩ := hl
  have hN := hO.1
  obtain ⟨s1, s2, s3, s4, s5⟩ := hs
  obtain ⟨w2, c1, c2, e2, h4, h5⟩ := law0 (cM := fun σ => X13_errorCode_f E l2 σ) hl0 (fun w2 th h2 => M_errorCode h2)
  have e2 : X13_errorCode_f E l2 w.1 = _ := e2
  refine ⟨w2, Q, ?_, h4, h5⟩
  unfold L_law_437
  rw [ob_e c1, ob_e (K_errorCode hN hK hG), ob_e c2, ob_e e2, if_pos rfl]
  rfl
theorem C_450 (hO : gOK E) (hl : LW E w l1 l2 l3 l4 ad Q) (hR : RM E w 1) (hs : SC E l0 p a b c d e) : CC E w l0 l1 l2 l3 l4 p ad r (L_law_450 E r l0 l1 l2 l3 l4 (nI p) w.1) := by
  have hl0 := hl
  obtain ⟨hK, -, hG, -⟩ := hl
  have hN := hO.1
  obtain ⟨s1, s2, s3, s4, s5⟩ := hs
  obtain ⟨w2, c1, c2, e2, h4, h5⟩ := law0 (cM := fun σ => X13_errorOffset_f E l2 σ) hl0 (fun w2 th h2 => M_errorOffset h2)
  have e2 : X13_errorOffset_f E l2 w.1 = _ := e2
  refine ⟨w2, Q, ?_, h4, h5⟩
  unfold L_law_450
  rw [ob_e c1, ob_e (K_errorOffset hN hK hG), ob_e c2, ob_e e2, if_pos rfl]
  rfl
theorem C_463 (hO : gOK E) (hl : LW E w l1 l2 l3 l4 ad Q) (hR : RM E w 1) (hs : SC E l0 p a b c d e) : CC E w l0 l1 l2 l3 l4 p ad r (L_law_463 E r l0 l1 l2 l3 l4 (nI p) w.1) := by
  have hl0 := hl
  obtain ⟨hK, -, hG, -⟩ := hl
  have hN := hO.1
  obtain ⟨s1, s2, s3, s4, s5⟩ := hs
  obtain ⟨w2, c1, c2, e2, h4, h5⟩ := law0 (cM := fun σ => X13_columnCount_f E l2 σ) hl0 (fun w2 th h2 => M_columnCount hN h2 hG.1)
  have e2 : X13_columnCount_f E l2 w.1 = _ := e2
  refine ⟨w2, Q, ?_, h4, h5⟩
  unfold L_law_463
  rw [ob_e c1, ob_e (K_columnCount hN hK hG), ob_e c2, ob_e e2, if_pos rfl]
  rfl
theorem C_476 (hO : gOK E) (hl : LW E w l1 l2 l3 l4 ad Q) (hR : RM E w 1) (hs : SC E l0 p a b c d e) : CC E w l0 l1 l2 l3 l4 p ad r (L_law_476 E r l0 l1 l2 l3 l4 (nI p) w.1) := by
  have hl0 := hl
  obtain ⟨hK, -, hG, -⟩ := hl
  have hN := hO.1
  obtain ⟨s1, s2, s3, s4, s5⟩ := hs
  obtain ⟨w2, c1, c2, e2, h4, h5⟩ := law0 (cM := fun σ => X13_rowCount_f E l2 σ) hl0 (fun w2 th h2 => M_rowCount hN h2 hG.1)
  have e2 : X13_rowCount_f E l2 w.1 = _ := e2
  refine ⟨w2, Q, ?_, h4, h5⟩
  unfold L_law_476
  rw [ob_e c1, ob_e (K_rowCount hN hK hG), ob_e c2, ob_e e2, if_pos rfl]
  rfl
theorem C_489 (hO : gOK E) (hl : LW E w l1 l2 l3 l4 ad Q) (hR : RM E w 1) (hs : SC E l0 p a b c d e) : CC E w l0 l1 l2 l3 l4 p ad r (L_law_489 E r l0 l1 l2 l3 l4 (nI p) w.1) := by
  have hl0 := hl
  obtain ⟨hK, -, hG, -⟩ := hl
  have hN := hO.1
  obtain ⟨s1, s2, s3, s4, s5⟩ := hs
  obtain ⟨w1, w2, Q', k, v, e1, c1, e2, e3, h4, h5⟩ := lawJ (fun x : Int32 => x.toInt64) hl0 (A_value hO hN hK hG hR hK.hIN.2.2.2 a b)
  have e1 : L_value_f E l1 a b l3 w.1 = some (k, w1.1) := by
    unfold L_value_f L_value
    rw [ob_e hK.cl]
    exact e1
  have e2 : X13_value_f E l2 a b w1.1 = some (v, w2.1) := e2
  refine ⟨w2, Q', ?_, h4, h5⟩
  unfold L_law_489
  rw [ob_e (s1 _), ob_e (s2 _), ob_e e1, ob_e (s1 _), ob_e (s2 _), ob_e c1, ob_e e2]
  exact e3 (L_law_3358 E r l0 l1 l2 l3 l4 (nI p))
theorem C_557 (hO : gOK E) (hl : LW E w l1 l2 l3 l4 ad Q) (hR : RM E w 1) (hs : SC E l0 p a b c d e) : CC E w l0 l1 l2 l3 l4 p ad r (L_law_557 E r l0 l1 l2 l3 l4 (nI p) w.1) := by
  have hl0 := hl
  obtain ⟨hK, -, hG, -⟩ := hl
  have hN := hO.1
  obtain ⟨s1, s2, s3, s4, s5⟩ := hs
  obtain ⟨w1, w2, Q', k, v, e1, c1, e2, e3, h4, h5⟩ := lawJ (fun x : Int32 => x.toInt64) hl0 (A_code hO hN hK hG hR hK.hIN.2.2.2 a b)
  have e1 : L_code_f E l1 a b l3 w.1 = some (k, w1.1) := by
    unfold L_code_f L_code
    rw [ob_e hK.cl]
    exact e1
  have e2 : X13_code_f E l2 a b w1.1 = some (v, w2.1) := e2
  refine ⟨w2, Q', ?_, h4, h5⟩
  unfold L_law_557
  rw [ob_e (s1 _), ob_e (s2 _), ob_e e1, ob_e (s1 _), ob_e (s2 _), ob_e c1, ob_e e2]
  exact e3 (L_law_3358 E r l0 l1 l2 l3 l4 (nI p))
theorem C_625 (hO : gOK E) (hl : LW E w l1 l2 l3 l4 ad Q) (hR : RM E w 1) (hs : SC E l0 p a b c d e) : CC E w l0 l1 l2 l3 l4 p ad r (L_law_625 E r l0 l1 l2 l3 l4 (nI p) w.1) := by
  have hl0 := hl
  obtain ⟨hK, -, hG, -⟩ := hl
  have hN := hO.1
  obtain ⟨s1, s2, s3, s4, s5⟩ := hs
  obtain ⟨w1, w2, Q', k, v, e1, c1, e2, e3, h4, h5⟩ := lawJ (fun x : Int32 => x.toInt64) hl0 (A_dictionarySize hO hN hK hG hR hK.hIN.2.2.2 a)
  have e1 : L_dictionarySize_f E l1 a l3 w.1 = some (k, w1.1) := by
    unfold L_dictionarySize_f L_dictionarySize
    rw [ob_e hK.cl]
    exact e1
  have e2 : X13_dictionarySize_f E l2 a w1.1 = some (v, w2.1) := e2
  refine ⟨w2, Q', ?_, h4, h5⟩
  unfold L_law_625
  rw [ob_e (s1 _), ob_e e1, ob_e (s1 _), ob_e c1, ob_e e2]
  exact e3 (L_law_3358 E r l0 l1 l2 l3 l4 (nI p))
theorem C_681 (hO : gOK E) (hl : LW E w l1 l2 l3 l4 ad Q) (hR : RM E w 1) (hs : SC E l0 p a b c d e) : CC E w l0 l1 l2 l3 l4 p ad r (L_law_681 E r l0 l1 l2 l3 l4 (nI p) w.1) := by
  have hl0 := hl
  obtain ⟨hK, -, hG, -⟩ := hl
  have hN := hO.1
  obtain ⟨s1, s2, s3, s4, s5⟩ := hs
  obtain ⟨w1, w2, Q', k, v, e1, c1, e2, e3, h4, h5⟩ := lawJ (fun x : Int32 => x.toInt64) hl0 (A_dictionaryValue hO hN hK hG hR hK.hIN.2.2.2 a b)
  have e1 : L_dictionaryValue_f E l1 a b l3 w.1 = some (k, w1.1) := by
    unfold L_dictionaryValue_f L_dictionaryValue
    rw [ob_e hK.cl]
    exact e1
  have e2 : X13_dictionaryValue_f E l2 a b w1.1 = some (v, w2.1) := e2
  refine ⟨w2, Q', ?_, h4, h5⟩
  unfold L_law_681
  rw [ob_e (s1 _), ob_e (s2 _), ob_e e1, ob_e (s1 _), ob_e (s2 _), ob_e c1, ob_e e2]
  exact e3 (L_law_3358 E r l0 l1 l2 l3 l4 (nI p))
theorem C_749 (hO : gOK E) (hl : LW E w l1 l2 l3 l4 ad Q) (hR : RM E w 1) (hs : SC E l0 p a b c d e) : CC E w l0 l1 l2 l3 l4 p ad r (L_law_749 E r l0 l1 l2 l3 l4 (nI p) w.1) := by
  have hl0 := hl
  obtain ⟨hK, -, hG, -⟩ := hl
  have hN := hO.1
  obtain ⟨s1, s2, s3, s4, s5⟩ := hs
  obtain ⟨w1, w2, Q', k, v, e1, c1, e2, e3, h4, h5⟩ := lawJ (fun x : Int32 => x.toInt64) hl0 (A_findCode hO hN hK hG hR hK.hIN.2.2.2 a b)
  have e1 : L_findCode_f E l1 a b l3 w.1 = some (k, w1.1) := by
    unfold L_findCode_f L_findCode
    rw [ob_e hK.cl]
    exact e1
  have e2 : X13_findCode_f E l2 a b w1.1 = some (v, w2.1) := e2
  refine ⟨w2, Q', ?_, h4, h5⟩
  unfold L_law_749
  rw [ob_e (s1 _), ob_e (s2 _), ob_e e1, ob_e (s1 _), ob_e (s2 _), ob_e c1, ob_e e2]
  exact e3 (L_law_3358 E r l0 l1 l2 l3 l4 (nI p))
theorem C_817 (hO : gOK E) (hl : LW E w l1 l2 l3 l4 ad Q) (hR : RM E w 1) (hs : SC E l0 p a b c d e) : CC E w l0 l1 l2 l3 l4 p ad r (L_law_817 E r l0 l1 l2 l3 l4 (nI p) w.1) := by
  have hl0 := hl
  obtain ⟨hK, -, hG, -⟩ := hl
  have hN := hO.1
  obtain ⟨s1, s2, s3, s4, s5⟩ := hs
  obtain ⟨w1, w2, Q', k, v, e1, c1, e2, e3, h4, h5⟩ := lawJ (fun x : Int32 => x.toInt64) hl0 (A_staleCount hO hN hK hG hR hK.hIN.2.2.2 a)
  have e1 : L_staleCount_f E l1 a l3 w.1 = some (k, w1.1) := by
    unfold L_staleCount_f L_staleCount
    rw [ob_e hK.cl]
    exact e1
  have e2 : X13_staleCount_f E l2 a w1.1 = some (v, w2.1) := e2
  refine ⟨w2, Q', ?_, h4, h5⟩
  unfold L_law_817
  rw [ob_e (s1 _), ob_e e1, ob_e (s1 _), ob_e c1, ob_e e2]
  exact e3 (L_law_3358 E r l0 l1 l2 l3 l4 (nI p))
theorem C_873 (hO : gOK E) (hl : LW E w l1 l2 l3 l4 ad Q) (hR : RM E w 1) (hs : SC E l0 p a b c d e) : CC E w l0 l1 l2 l3 l4 p ad r (L_law_873 E r l0 l1 l2 l3 l4 (nI p) w.1) := by
  have hl0 := hl
  obtain ⟨hK, -, hG, -⟩ := hl
  have hN := hO.1
  obtain ⟨s1, s2, s3, s4, s5⟩ := hs
  obtain ⟨w1, w2, Q', k, v, e1, c1, e2, e3, h4, h5⟩ := lawJ (fun x : Int32 => x.toInt64) hl0 (A_frequency hO hN hK hG hR hK.hIN.2.2.2 a b)
  have e1 : L_frequency_f E l1 a b l3 w.1 = some (k, w1.1) := by
    unfold L_frequency_f L_frequency
    rw [ob_e hK.cl]
    exact e1
  have e2 : X13_frequency_f E l2 a b w1.1 = some (v, w2.1) := e2
  refine ⟨w2, Q', ?_, h4, h5⟩
  unfold L_law_873
  rw [ob_e (s1 _), ob_e (s2 _), ob_e e1, ob_e (s1 _), ob_e (s2 _), ob_e c1, ob_e e2]
  exact e3 (L_law_3358 E r l0 l1 l2 l3 l4 (nI p))
theorem C_941 (hO : gOK E) (hl : LW E w l1 l2 l3 l4 ad Q) (hR : RM E w 1) (hs : SC E l0 p a b c d e) : CC E w l0 l1 l2 l3 l4 p ad r (L_law_941 E r l0 l1 l2 l3 l4 (nI p) w.1) := by
  have hl0 := hl
  obtain ⟨hK, -, hG, -⟩ := hl
  have hN := hO.1
  obtain ⟨s1, s2, s3, s4, s5⟩ := hs
  obtain ⟨w1, w2, Q', k, v, e1, c1, e2, e3, h4, h5⟩ := lawJ (fun x : Int32 => x.toInt64) hl0 (A_commonestCode hO hN hK hG hR hK.hIN.2.2.2 a)
  have e1 : L_commonestCode_f E l1 a l3 w.1 = some (k, w1.1) := by
    unfold L_commonestCode_f L_commonestCode
    rw [ob_e hK.cl]
    exact e1
  have e2 : X13_commonestCode_f E l2 a w1.1 = some (v, w2.1) := e2
  refine ⟨w2, Q', ?_, h4, h5⟩
  unfold L_law_941
  rw [ob_e (s1 _), ob_e e1, ob_e (s1 _), ob_e c1, ob_e e2]
  exact e3 (L_law_3358 E r l0 l1 l2 l3 l4 (nI p))
theorem C_997 (hO : gOK E) (hl : LW E w l1 l2 l3 l4 ad Q) (hR : RM E w 1) (hs : SC E l0 p a b c d e) : CC E w l0 l1 l2 l3 l4 p ad r (L_law_997 E r l0 l1 l2 l3 l4 (nI p) w.1) := by
  have hl0 := hl
  obtain ⟨hK, -, hG, -⟩ := hl
  have hN := hO.1
  obtain ⟨s1, s2, s3, s4, s5⟩ := hs
  obtain ⟨w1, w2, Q', k, v, e1, c1, e2, e3, h4, h5⟩ := lawJ (fun x : Int32 => x.toInt64) hl0 (A_bitWidth hO hN hK hG hR hK.hIN.2.2.2 a)
  have e1 : L_bitWidth_f E l1 a l3 w.1 = some (k, w1.1) := by
    unfold L_bitWidth_f L_bitWidth
    rw [ob_e hK.cl]
    exact e1
  have e2 : X13_bitWidth_f E l2 a w1.1 = some (v, w2.1) := e2
  refine ⟨w2, Q', ?_, h4, h5⟩
  unfold L_law_997
  rw [ob_e (s1 _), ob_e e1, ob_e (s1 _), ob_e c1, ob_e e2]
  exact e3 (L_law_3358 E r l0 l1 l2 l3 l4 (nI p))
theorem C_1053 (hO : gOK E) (hl : LW E w l1 l2 l3 l4 ad Q) (hR : RM E w 1) (hs : SC E l0 p a b c d e) : CC E w l0 l1 l2 l3 l4 p ad r (L_law_1053 E r l0 l1 l2 l3 l4 (nI p) w.1) := by
  have hl0 := hl
  obtain ⟨hK, -, hG, -⟩ := hl
  have hN := hO.1
  obtain ⟨s1, s2, s3, s4, s5⟩ := hs
  obtain ⟨w1, w2, Q', k, v, e1, c1, e2, e3, h4, h5⟩ := lawJ (fun x : Int32 => x.toInt64) hl0 (A_wordCount hO hN hK hG hR hK.hIN.2.2.2 a)
  have e1 : L_wordCount_f E l1 a l3 w.1 = some (k, w1.1) := by
    unfold L_wordCount_f L_wordCount
    rw [ob_e hK.cl]
    exact e1
  have e2 : X13_wordCount_f E l2 a w1.1 = some (v, w2.1) := e2
  refine ⟨w2, Q', ?_, h4, h5⟩
  unfold L_law_1053
  rw [ob_e (s1 _), ob_e e1, ob_e (s1 _), ob_e c1, ob_e e2]
  exact e3 (L_law_3358 E r l0 l1 l2 l3 l4 (nI p))
theorem C_1109 (hO : gOK E) (hl : LW E w l1 l2 l3 l4 ad Q) (hR : RM E w 1) (hs : SC E l0 p a b c d e) : CC E w l0 l1 l2 l3 l4 p ad r (L_law_1109 E r l0 l1 l2 l3 l4 (nI p) w.1) := by
  have hl0 := hl
  obtain ⟨hK, -, hG, -⟩ := hl
  have hN := hO.1
  obtain ⟨s1, s2, s3, s4, s5⟩ := hs
  obtain ⟨w1, w2, Q', k, v, e1, c1, e2, e3, h4, h5⟩ := lawJ (fun x : Int64 => x) hl0 (A_packedWord hO hN hK hG hR hK.hIN.2.2.2 a b)
  have e1 : L_packedWord_f E l1 a b l3 w.1 = some (k, w1.1) := by
    unfold L_packedWord_f L_packedWord
    rw [ob_e hK.cl]
    exact e1
  have e2 : X13_packedWord_f E l2 a b w1.1 = some (v, w2.1) := e2
  refine ⟨w2, Q', ?_, h4, h5⟩
  unfold L_law_1109
  rw [ob_e (s1 _), ob_e (s2 _), ob_e e1, ob_e (s1 _), ob_e (s2 _), ob_e c1, ob_e e2]
  exact e3 (L_law_3358 E r l0 l1 l2 l3 l4 (nI p))
theorem C_1176 (hO : gOK E) (hl : LW E w l1 l2 l3 l4 ad Q) (hR : RM E w 1) (hs : SC E l0 p a b c d e) : CC E w l0 l1 l2 l3 l4 p ad r (L_law_1176 E r l0 l1 l2 l3 l4 (nI p) w.1) := by
  have hl0 := hl
  obtain ⟨hK, -, hG, -⟩ := hl
  have hN := hO.1
  obtain ⟨s1, s2, s3, s4, s5⟩ := hs
  obtain ⟨w2, c1, c2, e2, h4, h5⟩ := law0 (cM := fun σ => X13_packedBits_f E l2 σ) hl0 (fun w2 th h2 => M_packedBits hN h2 hG.1)
  have e2 : X13_packedBits_f E l2 w.1 = _ := e2
  refine ⟨w2, Q, ?_, h4, h5⟩
  unfold L_law_1176
  rw [ob_e c1, ob_e (K_packedBits hN hK hG), ob_e c2, ob_e e2, if_pos rfl]
  rfl
theorem C_1189 (hO : gOK E) (hl : LW E w l1 l2 l3 l4 ad Q) (hR : RM E w 1) (hs : SC E l0 p a b c d e) : CC E w l0 l1 l2 l3 l4 p ad r (L_law_1189 E r l0 l1 l2 l3 l4 (nI p) w.1) := by
  have hl0 := hl
  obtain ⟨hK, -, hG, -⟩ := hl
  have hN := hO.1
  obtain ⟨s1, s2, s3, s4, s5⟩ := hs
  obtain ⟨w2, c1, c2, e2, h4, h5⟩ := law0 (cM := fun σ => X13_compressionRatio_f E l2 σ) hl0 (fun w2 th h2 => M_compressionRatio hN h2 hG.1)
  have e2 : X13_compressionRatio_f E l2 w.1 = _ := e2
  refine ⟨w2, Q, ?_, h4, h5⟩
  unfold L_law_1189
  rw [ob_e c1, ob_e (K_compressionRatio hN hK hG), ob_e c2, ob_e e2]
  by_cases z : Op.cmpValue (FP.dcmp (grat (qS Q)) (grat (qS Q))) .l = 0
  · rw [if_pos z]
    rfl
  · rw [if_neg z, if_neg z, if_neg z]
    rfl
theorem C_1230 (hO : gOK E) (hl : LW E w l1 l2 l3 l4 ad Q) (hR : RM E w 1) (hs : SC E l0 p a b c d e) : CC E w l0 l1 l2 l3 l4 p ad r (L_law_1230 E r l0 l1 l2 l3 l4 (nI p) w.1) := by
  have hl0 := hl
  obtain ⟨hK, -, hG, -⟩ := hl
  have hN := hO.1
  obtain ⟨s1, s2, s3, s4, s5⟩ := hs
  obtain ⟨w1, w2, Q', k, v, e1, c1, e2, e3, h4, h5⟩ := lawJ (fun x : Int32 => x.toInt64) hl0 (A_runCount hO hN hK hG hR hK.hIN.2.2.2 a)
  have e1 : L_runCount_f E l1 a l3 w.1 = some (k, w1.1) := by
    unfold L_runCount_f L_runCount
    rw [ob_e hK.cl]
    exact e1
  have e2 : X13_runCount_f E l2 a w1.1 = some (v, w2.1) := e2
  refine ⟨w2, Q', ?_, h4, h5⟩
  unfold L_law_1230
  rw [ob_e (s1 _), ob_e e1, ob_e (s1 _), ob_e c1, ob_e e2]
  exact e3 (L_law_3358 E r l0 l1 l2 l3 l4 (nI p))
theorem C_1286 (hO : gOK E) (hl : LW E w l1 l2 l3 l4 ad Q) (hR : RM E w 1) (hs : SC E l0 p a b c d e) : CC E w l0 l1 l2 l3 l4 p ad r (L_law_1286 E r l0 l1 l2 l3 l4 (nI p) w.1) := by
  have hl0 := hl
  obtain ⟨hK, -, hG, -⟩ := hl
  have hN := hO.1
  obtain ⟨s1, s2, s3, s4, s5⟩ := hs
  obtain ⟨w1, w2, Q', k, v, e1, c1, e2, e3, h4, h5⟩ := lawJ (fun x : Int32 => x.toInt64) hl0 (A_longestRun hO hN hK hG hR hK.hIN.2.2.2 a)
  have e1 : L_longestRun_f E l1 a l3 w.1 = some (k, w1.1) := by
    unfold L_longestRun_f L_longestRun
    rw [ob_e hK.cl]
    exact e1
  have e2 : X13_longestRun_f E l2 a w1.1 = some (v, w2.1) := e2
  refine ⟨w2, Q', ?_, h4, h5⟩
  unfold L_law_1286
  rw [ob_e (s1 _), ob_e e1, ob_e (s1 _), ob_e c1, ob_e e2]
  exact e3 (L_law_3358 E r l0 l1 l2 l3 l4 (nI p))
theorem C_1342 (hO : gOK E) (hl : LW E w l1 l2 l3 l4 ad Q) (hR : RM E w 1) (hs : SC E l0 p a b c d e) : CC E w l0 l1 l2 l3 l4 p ad r (L_law_1342 E r l0 l1 l2 l3 l4 (nI p) w.1) := by
  have hl0 := hl
  obtain ⟨hK, -, hG, -⟩ := hl
  have hN := hO.1
  obtain ⟨s1, s2, s3, s4, s5⟩ := hs
  obtain ⟨w1, w2, Q', k, v, e1, c1, e2, e3, h4, h5⟩ := lawJ cvB hl0 (A_isSorted hO hN hK hG hR hK.hIN.2.2.2 a)
  have e1 : L_isSorted_f E l1 a l3 w.1 = some (k, w1.1) := by
    unfold L_isSorted_f L_isSorted L_isSorted_15
    rw [ob_e hK.cl, ← e1]
    congr 1
    funext x3
    congr 1
    funext x7 σ6
    exact ob_if (f := fun z => gwaJ E σ6 l3 (0 : Int32) z)
  have e2 : X13_isSorted_f E l2 a w1.1 = some (v, w2.1) := e2
  refine ⟨w2, Q', ?_, h4, h5⟩
  unfold L_law_1342
  rw [ob_e (s1 _), ob_e e1, ob_e (s1 _), ob_e c1, ob_e e2]
  refine Eq.trans ?_ (e3 (L_law_3358 E r l0 l1 l2 l3 l4 (nI p)))
  unfold tlJ
  congr 1
  funext y1
  congr 1
  funext y2
  by_cases z1 : y2 = k
  · rw [if_pos z1, if_pos z1]
    by_cases z2 : k = 0
    · rw [if_pos z2, if_pos z2]
      congr 1
      funext y3
      unfold cvB L_law_1396
      by_cases z3 : v = 0
      · rw [if_pos z3, if_pos z3]
      · rw [if_neg z3, if_neg z3]
    · rw [if_neg z2, if_neg z2]
  · rw [if_neg z1, if_neg z1]
theorem C_1405 (hO : gOK E) (hl : LW E w l1 l2 l3 l4 ad Q) (hR : RM E w 1) (hs : SC E l0 p a b c d e) : CC E w l0 l1 l2 l3 l4 p ad r (L_law_1405 E r l0 l1 l2 l3 l4 (nI p) w.1) := by
  have hl0 := hl
  obtain ⟨hK, -, hG, -⟩ := hl
  have hN := hO.1
  obtain ⟨s1, s2, s3, s4, s5⟩ := hs
  obtain ⟨w2, c1, c2, e2, h4, h5⟩ := law0 (cM := fun σ => X13_conditionCount_f E l2 σ) hl0 (fun w2 th h2 => M_conditionCount hN h2 hG.1)
  have e2 : X13_conditionCount_f E l2 w.1 = _ := e2
  refine ⟨w2, Q, ?_, h4, h5⟩
  unfold L_law_1405
  rw [ob_e c1, ob_e (K_conditionCount hN hK hG), ob_e c2, ob_e e2, if_pos rfl]
  rfl
theorem C_1418 (hO : gOK E) (hl : LW E w l1 l2 l3 l4 ad Q) (hR : RM E w 1) (hs : SC E l0 p a b c d e) : CC E w l0 l1 l2 l3 l4 p ad r (L_law_1418 E r l0 l1 l2 l3 l4 (nI p) w.1) := by
  have hl0 := hl
  obtain ⟨hK, -, hG, -⟩ := hl
  have hN := hO.1
  obtain ⟨s1, s2, s3, s4, s5⟩ := hs
  obtain ⟨w1, w2, Q', k, v, e1, c1, e2, e3, h4, h5⟩ := lawJ (fun x : Int32 => x.toInt64) hl0 (A_conditionColumn hO hN hK hG hR hK.hIN.2.2.2 a)
  have e1 : L_conditionColumn_f E l1 a l3 w.1 = some (k, w1.1) := by
    unfold L_conditionColumn_f L_conditionColumn
    rw [ob_e hK.cl]
    exact e1
  have e2 : X13_conditionColumn_f E l2 a w1.1 = some (v, w2.1) := e2
  refine ⟨w2, Q', ?_, h4, h5⟩
  unfold L_law_1418
  rw [ob_e (s1 _), ob_e e1, ob_e (s1 _), ob_e c1, ob_e e2]
  exact e3 (L_law_3358 E r l0 l1 l2 l3 l4 (nI p))
theorem C_1474 (hO : gOK E) (hl : LW E w l1 l2 l3 l4 ad Q) (hR : RM E w 1) (hs : SC E l0 p a b c d e) : CC E w l0 l1 l2 l3 l4 p ad r (L_law_1474 E r l0 l1 l2 l3 l4 (nI p) w.1) := by
  have hl0 := hl
  obtain ⟨hK, -, hG, -⟩ := hl
  have hN := hO.1
  obtain ⟨s1, s2, s3, s4, s5⟩ := hs
  obtain ⟨w1, w2, Q', k, v, e1, c1, e2, e3, h4, h5⟩ := lawJ (fun x : Int32 => x.toInt64) hl0 (A_conditionValue hO hN hK hG hR hK.hIN.2.2.2 a)
  have e1 : L_conditionValue_f E l1 a l3 w.1 = some (k, w1.1) := by
    unfold L_conditionValue_f L_conditionValue
    rw [ob_e hK.cl]
    exact e1
  have e2 : X13_conditionValue_f E l2 a w1.1 = some (v, w2.1) := e2
  refine ⟨w2, Q', ?_, h4, h5⟩
  unfold L_law_1474
  rw [ob_e (s1 _), ob_e e1, ob_e (s1 _), ob_e c1, ob_e e2]
  exact e3 (L_law_3358 E r l0 l1 l2 l3 l4 (nI p))
theorem C_1530 (hO : gOK E) (hl : LW E w l1 l2 l3 l4 ad Q) (hR : RM E w 1) (hs : SC E l0 p a b c d e) : CC E w l0 l1 l2 l3 l4 p ad r (L_law_1530 E r l0 l1 l2 l3 l4 (nI p) w.1) := by
  have hl0 := hl
  obtain ⟨hK, -, hG, -⟩ := hl
  have hN := hO.1
  obtain ⟨s1, s2, s3, s4, s5⟩ := hs
  obtain ⟨w1, w2, Q', k, v, e1, c1, e2, e3, h4, h5⟩ := lawJ (fun x : Int32 => x.toInt64) hl0 (A_conditionDirection hO hN hK hG hR hK.hIN.2.2.2 a)
  have e1 : L_conditionDirection_f E l1 a l3 w.1 = some (k, w1.1) := by
    unfold L_conditionDirection_f L_conditionDirection
    rw [ob_e hK.cl]
    exact e1
  have e2 : X13_conditionDirection_f E l2 a w1.1 = some (v, w2.1) := e2
  refine ⟨w2, Q', ?_, h4, h5⟩
  unfold L_law_1530
  rw [ob_e (s1 _), ob_e e1, ob_e (s1 _), ob_e c1, ob_e e2]
  exact e3 (L_law_3358 E r l0 l1 l2 l3 l4 (nI p))
theorem C_1586 (hO : gOK E) (hl : LW E w l1 l2 l3 l4 ad Q) (hR : RM E w 1) (hs : SC E l0 p a b c d e) : CC E w l0 l1 l2 l3 l4 p ad r (L_law_1586 E r l0 l1 l2 l3 l4 (nI p) w.1) := by
  have hl0 := hl
  obtain ⟨hK, -, hG, -⟩ := hl
  have hN := hO.1
  obtain ⟨s1, s2, s3, s4, s5⟩ := hs
  obtain ⟨w1, w2, Q', k, v, e1, c1, e2, e3, h4, h5⟩ := lawJ (fun x : Int32 => x.toInt64) hl0 (A_lowerCode hO hN hK hG hR hK.hIN.2.2.2 a)
  have e1 : L_lowerCode_f E l1 a l3 w.1 = some (k, w1.1) := by
    unfold L_lowerCode_f L_lowerCode
    rw [ob_e hK.cl]
    exact e1
  have e2 : X13_lowerCode_f E l2 a w1.1 = some (v, w2.1) := e2
  refine ⟨w2, Q', ?_, h4, h5⟩
  unfold L_law_1586
  rw [ob_e (s1 _), ob_e e1, ob_e (s1 _), ob_e c1, ob_e e2]
  exact e3 (L_law_3358 E r l0 l1 l2 l3 l4 (nI p))
theorem C_1642 (hO : gOK E) (hl : LW E w l1 l2 l3 l4 ad Q) (hR : RM E w 1) (hs : SC E l0 p a b c d e) : CC E w l0 l1 l2 l3 l4 p ad r (L_law_1642 E r l0 l1 l2 l3 l4 (nI p) w.1) := by
  have hl0 := hl
  obtain ⟨hK, -, hG, -⟩ := hl
  have hN := hO.1
  obtain ⟨s1, s2, s3, s4, s5⟩ := hs
  obtain ⟨w1, w2, Q', k, v, e1, c1, e2, e3, h4, h5⟩ := lawJ (fun x : Int32 => x.toInt64) hl0 (A_upperCode hO hN hK hG hR hK.hIN.2.2.2 a)
  have e1 : L_upperCode_f E l1 a l3 w.1 = some (k, w1.1) := by
    unfold L_upperCode_f L_upperCode
    rw [ob_e hK.cl]
    exact e1
  have e2 : X13_upperCode_f E l2 a w1.1 = some (v, w2.1) := e2
  refine ⟨w2, Q', ?_, h4, h5⟩
  unfold L_law_1642
  rw [ob_e (s1 _), ob_e e1, ob_e (s1 _), ob_e c1, ob_e e2]
  exact e3 (L_law_3358 E r l0 l1 l2 l3 l4 (nI p))
theorem C_1698 (hO : gOK E) (hl : LW E w l1 l2 l3 l4 ad Q) (hR : RM E w 1) (hs : SC E l0 p a b c d e) : CC E w l0 l1 l2 l3 l4 p ad r (L_law_1698 E r l0 l1 l2 l3 l4 (nI p) w.1) := by
  have hl0 := hl
  obtain ⟨hK, -, hG, -⟩ := hl
  have hN := hO.1
  obtain ⟨s1, s2, s3, s4, s5⟩ := hs
  obtain ⟨w1, w2, Q', k, v, e1, c1, e2, e3, h4, h5⟩ := lawJ (fun x : Int32 => x.toInt64) hl0 (A_matches hO hN hK hG hR hK.hIN.2.2.2 a)
  have e1 : L_matches_f E l1 a l3 w.1 = some (k, w1.1) := by
    unfold L_matches_f L_matches
    rw [ob_e hK.cl]
    exact e1
  have e2 : X13_matches_f E l2 a w1.1 = some (v, w2.1) := e2
  refine ⟨w2, Q', ?_, h4, h5⟩
  unfold L_law_1698
  rw [ob_e (s1 _), ob_e e1, ob_e (s1 _), ob_e c1, ob_e e2]
  exact e3 (L_law_3358 E r l0 l1 l2 l3 l4 (nI p))
theorem C_1754 (hO : gOK E) (hl : LW E w l1 l2 l3 l4 ad Q) (hR : RM E w 1) (hs : SC E l0 p a b c d e) : CC E w l0 l1 l2 l3 l4 p ad r (L_law_1754 E r l0 l1 l2 l3 l4 (nI p) w.1) := by
  have hl0 := hl
  obtain ⟨hK, -, hG, -⟩ := hl
  have hN := hO.1
  obtain ⟨s1, s2, s3, s4, s5⟩ := hs
  obtain ⟨w2, c1, c2, e2, h4, h5⟩ := law0 (cM := fun σ => X13_strictestCondition_f E l2 σ) hl0 (fun w2 th h2 => M_strictestCondition hN h2 hG.1)
  have e2 : X13_strictestCondition_f E l2 w.1 = _ := e2
  refine ⟨w2, Q, ?_, h4, h5⟩
  unfold L_law_1754
  rw [ob_e c1, ob_e (K_strictestCondition hN hK hG), ob_e c2, ob_e e2, if_pos rfl]
  rfl
theorem C_1767 (hO : gOK E) (hl : LW E w l1 l2 l3 l4 ad Q) (hR : RM E w 1) (hs : SC E l0 p a b c d e) : CC E w l0 l1 l2 l3 l4 p ad r (L_law_1767 E r l0 l1 l2 l3 l4 (nI p) w.1) := by
  have hl0 := hl
  obtain ⟨hK, -, hG, -⟩ := hl
  have hN := hO.1
  obtain ⟨s1, s2, s3, s4, s5⟩ := hs
  obtain ⟨w1, w2, Q', k, v, e1, c1, e2, e3, h4, h5⟩ := lawJ cvB hl0 (A_isSelected hO hN hK hG hR hK.hIN.2.2.2 a)
  have e1 : L_isSelected_f E l1 a l3 w.1 = some (k, w1.1) := by
    unfold L_isSelected_f L_isSelected L_isSelected_15
    rw [ob_e hK.cl, ← e1]
    congr 1
    funext x3
    congr 1
    funext x7 σ6
    exact ob_if (f := fun z => gwaJ E σ6 l3 (0 : Int32) z)
  have e2 : X13_isSelected_f E l2 a w1.1 = some (v, w2.1) := e2
  refine ⟨w2, Q', ?_, h4, h5⟩
  unfold L_law_1767
  rw [ob_e (s1 _), ob_e e1, ob_e (s1 _), ob_e c1, ob_e e2]
  refine Eq.trans ?_ (e3 (L_law_3358 E r l0 l1 l2 l3 l4 (nI p)))
  unfold tlJ
  congr 1
  funext y1
  congr 1
  funext y2
  by_cases z1 : y2 = k
  · rw [if_pos z1, if_pos z1]
    by_cases z2 : k = 0
    · rw [if_pos z2, if_pos z2]
      congr 1
      funext y3
      unfold cvB L_law_1821
      by_cases z3 : v = 0
      · rw [if_pos z3, if_pos z3]
      · rw [if_neg z3, if_neg z3]
    · rw [if_neg z2, if_neg z2]
  · rw [if_neg z1, if_neg z1]
theorem C_1830 (hO : gOK E) (hl : LW E w l1 l2 l3 l4 ad Q) (hR : RM E w 1) (hs : SC E l0 p a b c d e) : CC E w l0 l1 l2 l3 l4 p ad r (L_law_1830 E r l0 l1 l2 l3 l4 (nI p) w.1) := by
  have hl0 := hl
  obtain ⟨hK, -, hG, -⟩ := hl
  have hN := hO.1
  obtain ⟨s1, s2, s3, s4, s5⟩ := hs
  obtain ⟨w2, c1, c2, e2, h4, h5⟩ := law0 (cM := fun σ => X13_selectedCount_f E l2 σ) hl0 (fun w2 th h2 => M_selectedCount hN h2 hG.1)
  have e2 : X13_selectedCount_f E l2 w.1 = _ := e2
  refine ⟨w2, Q, ?_, h4, h5⟩
  unfold L_law_1830
  rw [ob_e c1, ob_e (K_selectedCount hN hK hG), ob_e c2, ob_e e2, if_pos rfl]
  rfl
theorem C_1843 (hO : gOK E) (hl : LW E w l1 l2 l3 l4 ad Q) (hR : RM E w 1) (hs : SC E l0 p a b c d e) : CC E w l0 l1 l2 l3 l4 p ad r (L_law_1843 E r l0 l1 l2 l3 l4 (nI p) w.1) := by
  have hl0 := hl
  obtain ⟨hK, -, hG, -⟩ := hl
  have hN := hO.1
  obtain ⟨s1, s2, s3, s4, s5⟩ := hs
  obtain ⟨w2, c1, c2, e2, h4, h5⟩ := law0 (cM := fun σ => X13_selectedRow_f E l2 a σ) hl0 (fun w2 th h2 => M_selectedRow hN h2 hG.1 a)
  have e2 : X13_selectedRow_f E l2 a w.1 = _ := e2
  refine ⟨w2, Q, ?_, h4, h5⟩
  unfold L_law_1843
  rw [ob_e (s1 _), ob_e c1, ob_e (K_selectedRow hN hK hG a), ob_e (s1 _), ob_e c2, ob_e e2, if_pos rfl]
  rfl
theorem C_1868 (hO : gOK E) (hl : LW E w l1 l2 l3 l4 ad Q) (hR : RM E w 1) (hs : SC E l0 p a b c d e) : CC E w l0 l1 l2 l3 l4 p ad r (L_law_1868 E r l0 l1 l2 l3 l4 (nI p) w.1) := by
  have hl0 := hl
  obtain ⟨hK, -, hG, -⟩ := hl
  have hN := hO.1
  obtain ⟨s1, s2, s3, s4, s5⟩ := hs
  obtain ⟨w1, w2, Q', k, v, e1, c1, e2, e3, h4, h5⟩ := lawJ (fun x : Int32 => x.toInt64) hl0 (A_rejectedBy hO hN hK hG hR hK.hIN.2.2.2 a)
  have e1 : L_rejectedBy_f E l1 a l3 w.1 = some (k, w1.1) := by
    unfold L_rejectedBy_f L_rejectedBy
    rw [ob_e hK.cl]
    exact e1
  have e2 : X13_rejectedBy_f E l2 a w1.1 = some (v, w2.1) := e2
  refine ⟨w2, Q', ?_, h4, h5⟩
  unfold L_law_1868
  rw [ob_e (s1 _), ob_e e1, ob_e (s1 _), ob_e c1, ob_e e2]
  exact e3 (L_law_3358 E r l0 l1 l2 l3 l4 (nI p))
theorem C_1924 (hO : gOK E) (hl : LW E w l1 l2 l3 l4 ad Q) (hR : RM E w 1) (hs : SC E l0 p a b c d e) : CC E w l0 l1 l2 l3 l4 p ad r (L_law_1924 E r l0 l1 l2 l3 l4 (nI p) w.1) := by
  have hl0 := hl
  obtain ⟨hK, -, hG, -⟩ := hl
  have hN := hO.1
  obtain ⟨s1, s2, s3, s4, s5⟩ := hs
  obtain ⟨w1, w2, Q', k, v, e1, c1, e2, e3, h4, h5⟩ := lawJ (fun x : Int64 => x) hl0 (A_sumSelected hO hN hK hG hR hK.hIN.2.2.2 a)
  have e1 : L_sumSelected_f E l1 a l3 w.1 = some (k, w1.1) := by
    unfold L_sumSelected_f L_sumSelected
    rw [ob_e hK.cl]
    exact e1
  have e2 : X13_sumSelected_f E l2 a w1.1 = some (v, w2.1) := e2
  refine ⟨w2, Q', ?_, h4, h5⟩
  unfold L_law_1924
  rw [ob_e (s1 _), ob_e e1, ob_e (s1 _), ob_e c1, ob_e e2]
  exact e3 (L_law_3358 E r l0 l1 l2 l3 l4 (nI p))
theorem C_1979 (hO : gOK E) (hl : LW E w l1 l2 l3 l4 ad Q) (hR : RM E w 1) (hs : SC E l0 p a b c d e) : CC E w l0 l1 l2 l3 l4 p ad r (L_law_1979 E r l0 l1 l2 l3 l4 (nI p) w.1) := by
  have hl0 := hl
  obtain ⟨hK, -, hG, -⟩ := hl
  have hN := hO.1
  obtain ⟨s1, s2, s3, s4, s5⟩ := hs
  obtain ⟨w1, w2, Q', k, v, e1, c1, e2, e3, h4, h5⟩ := lawJ (fun x : Int32 => x.toInt64) hl0 (A_smallestSelected hO hN hK hG hR hK.hIN.2.2.2 a)
  have e1 : L_smallestSelected_f E l1 a l3 w.1 = some (k, w1.1) := by
    unfold L_smallestSelected_f L_smallestSelected
    rw [ob_e hK.cl]
    exact e1
  have e2 : X13_smallestSelected_f E l2 a w1.1 = some (v, w2.1) := e2
  refine ⟨w2, Q', ?_, h4, h5⟩
  unfold L_law_1979
  rw [ob_e (s1 _), ob_e e1, ob_e (s1 _), ob_e c1, ob_e e2]
  exact e3 (L_law_3358 E r l0 l1 l2 l3 l4 (nI p))
theorem C_2035 (hO : gOK E) (hl : LW E w l1 l2 l3 l4 ad Q) (hR : RM E w 1) (hs : SC E l0 p a b c d e) : CC E w l0 l1 l2 l3 l4 p ad r (L_law_2035 E r l0 l1 l2 l3 l4 (nI p) w.1) := by
  have hl0 := hl
  obtain ⟨hK, -, hG, -⟩ := hl
  have hN := hO.1
  obtain ⟨s1, s2, s3, s4, s5⟩ := hs
  obtain ⟨w1, w2, Q', k, v, e1, c1, e2, e3, h4, h5⟩ := lawJ (fun x : Int32 => x.toInt64) hl0 (A_greatestSelected hO hN hK hG hR hK.hIN.2.2.2 a)
  have e1 : L_greatestSelected_f E l1 a l3 w.1 = some (k, w1.1) := by
    unfold L_greatestSelected_f L_greatestSelected
    rw [ob_e hK.cl]
    exact e1
  have e2 : X13_greatestSelected_f E l2 a w1.1 = some (v, w2.1) := e2
  refine ⟨w2, Q', ?_, h4, h5⟩
  unfold L_law_2035
  rw [ob_e (s1 _), ob_e e1, ob_e (s1 _), ob_e c1, ob_e e2]
  exact e3 (L_law_3358 E r l0 l1 l2 l3 l4 (nI p))
theorem C_2091 (hO : gOK E) (hl : LW E w l1 l2 l3 l4 ad Q) (hR : RM E w 1) (hs : SC E l0 p a b c d e) : CC E w l0 l1 l2 l3 l4 p ad r (L_law_2091 E r l0 l1 l2 l3 l4 (nI p) w.1) := by
  have hl0 := hl
  obtain ⟨hK, -, hG, -⟩ := hl
  have hN := hO.1
  obtain ⟨s1, s2, s3, s4, s5⟩ := hs
  obtain ⟨w1, w2, Q', k, v, e1, c1, e2, e3, h4, h5⟩ := lawJ (fun x : Int32 => x.toInt64) hl0 (A_distinctSelected hO hN hK hG hR hK.hIN.2.2.2 a)
  have e1 : L_distinctSelected_f E l1 a l3 w.1 = some (k, w1.1) := by
    unfold L_distinctSelected_f L_distinctSelected
    rw [ob_e hK.cl]
    exact e1
  have e2 : X13_distinctSelected_f E l2 a w1.1 = some (v, w2.1) := e2
  refine ⟨w2, Q', ?_, h4, h5⟩
  unfold L_law_2091
  rw [ob_e (s1 _), ob_e e1, ob_e (s1 _), ob_e c1, ob_e e2]
  exact e3 (L_law_3358 E r l0 l1 l2 l3 l4 (nI p))
theorem C_2147 (hO : gOK E) (hl : LW E w l1 l2 l3 l4 ad Q) (hR : RM E w 1) (hs : SC E l0 p a b c d e) : CC E w l0 l1 l2 l3 l4 p ad r (L_law_2147 E r l0 l1 l2 l3 l4 (nI p) w.1) := by
  have hl0 := hl
  obtain ⟨hK, -, hG, -⟩ := hl
  have hN := hO.1
  obtain ⟨s1, s2, s3, s4, s5⟩ := hs
  obtain ⟨w1, w2, Q', k, v, e1, c1, e2, e3, h4, h5⟩ := lawD hl0 (A_meanSelected hO hN hK hG hR hK.hIN.2.2.2 a)
  have e1 : L_meanSelected_f E l1 a l4 w.1 = some (k, w1.1) := by
    unfold L_meanSelected_f L_meanSelected
    rw [ob_e hK.cl]
    exact e1
  have e2 : X13_meanSelected_f E l2 a w1.1 = some (v, w2.1) := e2
  refine ⟨w2, Q', ?_, h4, h5⟩
  unfold L_law_2147
  rw [ob_e (s1 _), ob_e e1, ob_e (s1 _), ob_e c1, ob_e e2]
  exact e3 (L_law_3358 E r l0 l1 l2 l3 l4 (nI p)) (L_law_2219 E)
theorem C_2224 (hO : gOK E) (hl : LW E w l1 l2 l3 l4 ad Q) (hR : RM E w 1) (hs : SC E l0 p a b c d e) : CC E w l0 l1 l2 l3 l4 p ad r (L_law_2224 E r l0 l1 l2 l3 l4 (nI p) w.1) := by
  have hl0 := hl
  obtain ⟨hK, -, hG, -⟩ := hl
  have hN := hO.1
  obtain ⟨s1, s2, s3, s4, s5⟩ := hs
  obtain ⟨w2, c1, c2, e2, h4, h5⟩ := law0 (cM := fun σ => X13_selectivity_f E l2 σ) hl0 (fun w2 th h2 => M_selectivity hN h2 hG.1)
  have e2 : X13_selectivity_f E l2 w.1 = _ := e2
  refine ⟨w2, Q, ?_, h4, h5⟩
  unfold L_law_2224
  rw [ob_e c1, ob_e (K_selectivity hN hK hG), ob_e (f2d_s hG.1), ob_e c2, ob_e e2, ob_e (f2d_s hG.1)]
  by_cases z : Op.cmpValue (FP.dcmp (FP.f2d (gsely (qS Q))) (FP.f2d (gsely (qS Q)))) .l = 0
  · rw [if_pos z]
    rfl
  · rw [if_neg z, if_neg z, if_neg z]
    rfl
theorem C_2267 (hO : gOK E) (hl : LW E w l1 l2 l3 l4 ad Q) (hR : RM E w 1) (hs : SC E l0 p a b c d e) : CC E w l0 l1 l2 l3 l4 p ad r (L_law_2267 E r l0 l1 l2 l3 l4 (nI p) w.1) := by
  have hl0 := hl
  obtain ⟨hK, -, hG, -⟩ := hl
  have hN := hO.1
  obtain ⟨s1, s2, s3, s4, s5⟩ := hs
  obtain ⟨w1, w2, Q', k, v, e1, c1, e2, e3, h4, h5⟩ := lawJ (fun x : Int32 => x.toInt64) hl0 (A_bitWidthWith hO hN hK hG hR hK.hIN.2.2.2 a b)
  have e1 : L_bitWidthWith_f E l1 a b l3 w.1 = some (k, w1.1) := by
    unfold L_bitWidthWith_f L_bitWidthWith
    rw [ob_e hK.cl]
    exact e1
  have e2 : X13_bitWidthWith_f E l2 a b w1.1 = some (v, w2.1) := e2
  refine ⟨w2, Q', ?_, h4, h5⟩
  unfold L_law_2267
  rw [ob_e (s1 _), ob_e (s2 _), ob_e e1, ob_e (s1 _), ob_e (s2 _), ob_e c1, ob_e e2]
  exact e3 (L_law_3358 E r l0 l1 l2 l3 l4 (nI p))
theorem C_2335 (hO : gOK E) (hl : LW E w l1 l2 l3 l4 ad Q) (hR : RM E w 1) (hs : SC E l0 p a b c d e) : CC E w l0 l1 l2 l3 l4 p ad r (L_law_2335 E r l0 l1 l2 l3 l4 (nI p) w.1) := by
  have hl0 := hl
  obtain ⟨hK, -, hG, -⟩ := hl
  have hN := hO.1
  obtain ⟨s1, s2, s3, s4, s5⟩ := hs
  obtain ⟨w1, w2, Q', k, v, e1, c1, e2, e3, h4, h5⟩ := lawJ (fun x : Int32 => x.toInt64) hl0 (A_bitWidthCompacted hO hN hK hG hR hK.hIN.2.2.2 a)
  have e1 : L_bitWidthCompacted_f E l1 a l3 w.1 = some (k, w1.1) := by
    unfold L_bitWidthCompacted_f L_bitWidthCompacted
    rw [ob_e hK.cl]
    exact e1
  have e2 : X13_bitWidthCompacted_f E l2 a w1.1 = some (v, w2.1) := e2
  refine ⟨w2, Q', ?_, h4, h5⟩
  unfold L_law_2335
  rw [ob_e (s1 _), ob_e e1, ob_e (s1 _), ob_e c1, ob_e e2]
  exact e3 (L_law_3358 E r l0 l1 l2 l3 l4 (nI p))
theorem C_2391 (hO : gOK E) (hl : LW E w l1 l2 l3 l4 ad Q) (hR : RM E w 1) (hs : SC E l0 p a b c d e) : CC E w l0 l1 l2 l3 l4 p ad r (L_law_2391 E r l0 l1 l2 l3 l4 (nI p) w.1) := by
  have hl0 := hl
  obtain ⟨hK, -, hG, -⟩ := hl
  have hN := hO.1
  obtain ⟨s1, s2, s3, s4, s5⟩ := hs
  obtain ⟨w1, w2, Q', k, v, e1, c1, e2, e3, h4, h5⟩ := lawJ (fun x : Int32 => x.toInt64) hl0 (A_runsIfSorted hO hN hK hG hR hK.hIN.2.2.2 a)
  have e1 : L_runsIfSorted_f E l1 a l3 w.1 = some (k, w1.1) := by
    unfold L_runsIfSorted_f L_runsIfSorted
    rw [ob_e hK.cl]
    exact e1
  have e2 : X13_runsIfSorted_f E l2 a w1.1 = some (v, w2.1) := e2
  refine ⟨w2, Q', ?_, h4, h5⟩
  unfold L_law_2391
  rw [ob_e (s1 _), ob_e e1, ob_e (s1 _), ob_e c1, ob_e e2]
  exact e3 (L_law_3358 E r l0 l1 l2 l3 l4 (nI p))
theorem C_2447 (hO : gOK E) (hl : LW E w l1 l2 l3 l4 ad Q) (hR : RM E w 1) (hs : SC E l0 p a b c d e) : CC E w l0 l1 l2 l3 l4 p ad r (L_law_2447 E r l0 l1 l2 l3 l4 (nI p) w.1) := by
  have hl0 := hl
  obtain ⟨hK, -, hG, -⟩ := hl
  have hN := hO.1
  obtain ⟨s1, s2, s3, s4, s5⟩ := hs
  obtain ⟨w1, e1, F1, k1⟩ := K_bestSortColumn hN hK hG
  obtain ⟨w2, c1, c2, e2, h4, h5⟩ := law1 (cM := fun σ => X13_bestSortColumn_f E l2 σ) hl0 F1 (fun t z => jkl (show t.2.1 = 20 from congrArg Prod.fst z) (by decide)) k1 hG (fun w2 th h2 => M_bestSortColumn hN h2 hG.1)
  have e2 : X13_bestSortColumn_f E l2 w1.1 = _ := e2
  refine ⟨w2, _, ?_, h4, h5⟩
  unfold L_law_2447
  rw [ob_e c1, ob_e e1, ob_e c2, ob_e e2, if_pos rfl]
  rfl
theorem C_2460 (hO : gOK E) (hl : LW E w l1 l2 l3 l4 ad Q) (hR : RM E w 1) (hs : SC E l0 p a b c d e) : CC E w l0 l1 l2 l3 l4 p ad r (L_law_2460 E r l0 l1 l2 l3 l4 (nI p) w.1) := by
  have hl0 := hl
  obtain ⟨hK, -, hG, -⟩ := hl
  have hN := hO.1
  obtain ⟨s1, s2, s3, s4, s5⟩ := hs
  obtain ⟨w1, e1, F1, k1⟩ := K_gap hN hK hG
  obtain ⟨w2, c1, c2, e2, h4, h5⟩ := law1 (cM := fun σ => X13_gap_f E l2 σ) hl0 F1 (fun t z => jkl (show t.2.1 = 21 from congrArg Prod.fst z) (by decide)) k1 hG (fun w2 th h2 => M_gap hN h2 hG.1)
  have e2 : X13_gap_f E l2 w1.1 = _ := e2
  refine ⟨w2, _, ?_, h4, h5⟩
  unfold L_law_2460
  rw [ob_e c1, ob_e e1, ob_e c2, ob_e e2, if_pos rfl]
  rfl
theorem C_2473 (hO : gOK E) (hl : LW E w l1 l2 l3 l4 ad Q) (hR : RM E w 1) (hs : SC E l0 p a b c d e) : CC E w l0 l1 l2 l3 l4 p ad r (L_law_2473 E r l0 l1 l2 l3 l4 (nI p) w.1) := by
  have hl0 := hl
  obtain ⟨hK, -, hG, -⟩ := hl
  have hN := hO.1
  obtain ⟨s1, s2, s3, s4, s5⟩ := hs
  obtain ⟨w1, w2, Q', k, v, e1, c1, e2, e3, h4, h5⟩ := lawJ (fun x : Int32 => x.toInt64) hl0 (A_addRow hO hN hK hG hR hK.hIN.2.2.2 a)
  have e1 : L_addRow_f E l1 a l3 w.1 = some (k, w1.1) := by
    unfold L_addRow_f L_addRow
    rw [ob_e hK.cl]
    exact e1
  have e2 : X13_addRow_f E l2 a w1.1 = some (v, w2.1) := e2
  refine ⟨w2, Q', ?_, h4, h5⟩
  unfold L_law_2473
  rw [ob_e (s1 _), ob_e e1, ob_e (s1 _), ob_e c1, ob_e e2]
  exact e3 (L_law_3358 E r l0 l1 l2 l3 l4 (nI p))
theorem C_2529 (hO : gOK E) (hl : LW E w l1 l2 l3 l4 ad Q) (hR : RM E w 1) (hs : SC E l0 p a b c d e) : CC E w l0 l1 l2 l3 l4 p ad r (L_law_2529 E r l0 l1 l2 l3 l4 (nI p) w.1) := by
  have hl0 := hl
  obtain ⟨hK, -, hG, -⟩ := hl
  have hN := hO.1
  obtain ⟨s1, s2, s3, s4, s5⟩ := hs
  obtain ⟨w1, w2, Q', k, v, e1, c1, e2, e3, h4, h5⟩ := lawJ (fun x : Int32 => x.toInt64) hl0 (A_removeRow hO hN hK hG hR hK.hIN.2.2.2 a)
  have e1 : L_removeRow_f E l1 a l3 w.1 = some (k, w1.1) := by
    unfold L_removeRow_f L_removeRow
    rw [ob_e hK.cl]
    exact e1
  have e2 : X13_removeRow_f E l2 a w1.1 = some (v, w2.1) := e2
  refine ⟨w2, Q', ?_, h4, h5⟩
  unfold L_law_2529
  rw [ob_e (s1 _), ob_e e1, ob_e (s1 _), ob_e c1, ob_e e2]
  exact e3 (L_law_3358 E r l0 l1 l2 l3 l4 (nI p))
theorem C_2585 (hO : gOK E) (hl : LW E w l1 l2 l3 l4 ad Q) (hR : RM E w 1) (hs : SC E l0 p a b c d e) : CC E w l0 l1 l2 l3 l4 p ad r (L_law_2585 E r l0 l1 l2 l3 l4 (nI p) w.1) := by
  have hl0 := hl
  obtain ⟨hK, -, hG, -⟩ := hl
  have hN := hO.1
  obtain ⟨s1, s2, s3, s4, s5⟩ := hs
  obtain ⟨w1, w2, Q', k, v, e1, c1, e2, e3, h4, h5⟩ := lawJ (fun x : Int32 => x.toInt64) hl0 (A_setValue hO hN hK hG hR hK.hIN.2.2.2 a b c)
  have e1 : L_setValue_f E l1 a b c l3 w.1 = some (k, w1.1) := by
    unfold L_setValue_f L_setValue
    rw [ob_e hK.cl]
    exact e1
  have e2 : X13_setValue_f E l2 a b c w1.1 = some (v, w2.1) := e2
  refine ⟨w2, Q', ?_, h4, h5⟩
  unfold L_law_2585
  rw [ob_e (s1 _), ob_e (s2 _), ob_e (s3 _), ob_e e1, ob_e (s1 _), ob_e (s2 _), ob_e (s3 _), ob_e c1, ob_e e2]
  exact e3 (L_law_3358 E r l0 l1 l2 l3 l4 (nI p))
theorem C_2665 (hO : gOK E) (hl : LW E w l1 l2 l3 l4 ad Q) (hR : RM E w 1) (hs : SC E l0 p a b c d e) : CC E w l0 l1 l2 l3 l4 p ad r (L_law_2665 E r l0 l1 l2 l3 l4 (nI p) w.1) := by
  have hl0 := hl
  obtain ⟨hK, -, hG, -⟩ := hl
  have hN := hO.1
  obtain ⟨s1, s2, s3, s4, s5⟩ := hs
  have main : ∀ d : Int32, d = (if b = 0 then 0 else 1) → CC E w l0 l1 l2 l3 l4 p ad r (L_law_2686 E r l0 l1 l2 l3 l4 (nI p) d a l1 w.1) := fun d hd => by
    obtain ⟨w1, w2, Q', k, v, e1, c1, e2, e3, h4, h5⟩ := lawJ (fun x : Int32 => x.toInt64) hl0 (A_sort hO hN hK hG hR hK.hIN.2.2.2 a d)
    have e1 : L_sort_f E l1 a d l3 w.1 = some (k, w1.1) := by
      unfold L_sort_f L_sort
      rw [ob_e hK.cl]
      exact e1
    have e2 : X13_sort_f E l2 a d w1.1 = some (v, w2.1) := e2
    refine ⟨w2, Q', ?_, h4, h5⟩
    unfold L_law_2686
    rw [ob_e e1, ob_e (s1 _), ob_e (s2 _)]
    have fin : L_law_2713 E r l0 l1 l2 l3 l4 (nI p) k d a l2 w1.1 = r l0 l1 l2 l3 l4 (nI p + 6) w2.1 := by
      unfold L_law_2713
      rw [ob_e c1, ob_e e2]
      exact e3 (L_law_3358 E r l0 l1 l2 l3 l4 (nI p))
    by_cases z : b = 0
    · rw [if_pos z] at hd
      rw [if_pos z, ← hd]
      exact fin
    · rw [if_neg z] at hd
      rw [if_neg z, ← hd]
      exact fin
  obtain ⟨w', Q', x1, x2, x3⟩ := main _ rfl
  refine ⟨w', Q', ?_, x2, x3⟩
  unfold L_law_2665
  rw [ob_e (s1 _), ob_e (s2 _)]
  by_cases z : b = 0
  · rw [if_pos z]
    rw [if_pos z] at x1
    exact x1
  · rw [if_neg z]
    rw [if_neg z] at x1
    exact x1
theorem C_2749 (hO : gOK E) (hl : LW E w l1 l2 l3 l4 ad Q) (hR : RM E w 1) (hs : SC E l0 p a b c d e) : CC E w l0 l1 l2 l3 l4 p ad r (L_law_2749 E r l0 l1 l2 l3 l4 (nI p) w.1) := by
  have hl0 := hl
  obtain ⟨hK, -, hG, -⟩ := hl
  have hN := hO.1
  obtain ⟨s1, s2, s3, s4, s5⟩ := hs
  obtain ⟨w1, w2, Q', k, v, e1, c1, e2, e3, h4, h5⟩ := lawJ (fun x : Int32 => x.toInt64) hl0 (A_addLess hO hN hK hG hR hK.hIN.2.2.2 a b)
  have e1 : L_addLess_f E l1 a b l3 w.1 = some (k, w1.1) := by
    unfold L_addLess_f L_addLess
    rw [ob_e hK.cl]
    exact e1
  have e2 : X13_addLess_f E l2 a b w1.1 = some (v, w2.1) := e2
  refine ⟨w2, Q', ?_, h4, h5⟩
  unfold L_law_2749
  rw [ob_e (s1 _), ob_e (s2 _), ob_e e1, ob_e (s1 _), ob_e (s2 _), ob_e c1, ob_e e2]
  exact e3 (L_law_3358 E r l0 l1 l2 l3 l4 (nI p))
theorem C_2817 (hO : gOK E) (hl : LW E w l1 l2 l3 l4 ad Q) (hR : RM E w 1) (hs : SC E l0 p a b c d e) : CC E w l0 l1 l2 l3 l4 p ad r (L_law_2817 E r l0 l1 l2 l3 l4 (nI p) w.1) := by
  have hl0 := hl
  obtain ⟨hK, -, hG, -⟩ := hl
  have hN := hO.1
  obtain ⟨s1, s2, s3, s4, s5⟩ := hs
  obtain ⟨w1, w2, Q', k, v, e1, c1, e2, e3, h4, h5⟩ := lawJ (fun x : Int32 => x.toInt64) hl0 (A_addEqual hO hN hK hG hR hK.hIN.2.2.2 a b)
  have e1 : L_addEqual_f E l1 a b l3 w.1 = some (k, w1.1) := by
    unfold L_addEqual_f L_addEqual
    rw [ob_e hK.cl]
    exact e1
  have e2 : X13_addEqual_f E l2 a b w1.1 = some (v, w2.1) := e2
  refine ⟨w2, Q', ?_, h4, h5⟩
  unfold L_law_2817
  rw [ob_e (s1 _), ob_e (s2 _), ob_e e1, ob_e (s1 _), ob_e (s2 _), ob_e c1, ob_e e2]
  exact e3 (L_law_3358 E r l0 l1 l2 l3 l4 (nI p))
theorem C_2885 (hO : gOK E) (hl : LW E w l1 l2 l3 l4 ad Q) (hR : RM E w 1) (hs : SC E l0 p a b c d e) : CC E w l0 l1 l2 l3 l4 p ad r (L_law_2885 E r l0 l1 l2 l3 l4 (nI p) w.1) := by
  have hl0 := hl
  obtain ⟨hK, -, hG, -⟩ := hl
  have hN := hO.1
  obtain ⟨s1, s2, s3, s4, s5⟩ := hs
  obtain ⟨w1, w2, Q', k, v, e1, c1, e2, e3, h4, h5⟩ := lawJ (fun x : Int32 => x.toInt64) hl0 (A_addGreater hO hN hK hG hR hK.hIN.2.2.2 a b)
  have e1 : L_addGreater_f E l1 a b l3 w.1 = some (k, w1.1) := by
    unfold L_addGreater_f L_addGreater
    rw [ob_e hK.cl]
    exact e1
  have e2 : X13_addGreater_f E l2 a b w1.1 = some (v, w2.1) := e2
  refine ⟨w2, Q', ?_, h4, h5⟩
  unfold L_law_2885
  rw [ob_e (s1 _), ob_e (s2 _), ob_e e1, ob_e (s1 _), ob_e (s2 _), ob_e c1, ob_e e2]
  exact e3 (L_law_3358 E r l0 l1 l2 l3 l4 (nI p))
theorem C_2953 (hO : gOK E) (hl : LW E w l1 l2 l3 l4 ad Q) (hR : RM E w 1) (hs : SC E l0 p a b c d e) : CC E w l0 l1 l2 l3 l4 p ad r (L_law_2953 E r l0 l1 l2 l3 l4 (nI p) w.1) := by
  have hl0 := hl
  obtain ⟨hK, -, hG, -⟩ := hl
  have hN := hO.1
  obtain ⟨s1, s2, s3, s4, s5⟩ := hs
  obtain ⟨w1, w2, Q', k, v, e1, c1, e2, e3, h4, h5⟩ := lawJ (fun x : Int32 => x.toInt64) hl0 (A_removeCondition hO hN hK hG hR hK.hIN.2.2.2 a)
  have e1 : L_removeCondition_f E l1 a l3 w.1 = some (k, w1.1) := by
    unfold L_removeCondition_f L_removeCondition
    rw [ob_e hK.cl]
    exact e1
  have e2 : X13_removeCondition_f E l2 a w1.1 = some (v, w2.1) := e2
  refine ⟨w2, Q', ?_, h4, h5⟩
  unfold L_law_2953
  rw [ob_e (s1 _), ob_e e1, ob_e (s1 _), ob_e c1, ob_e e2]
  exact e3 (L_law_3358 E r l0 l1 l2 l3 l4 (nI p))
theorem C_3009 (hO : gOK E) (hl : LW E w l1 l2 l3 l4 ad Q) (hR : RM E w 1) (hs : SC E l0 p a b c d e) : CC E w l0 l1 l2 l3 l4 p ad r (L_law_3009 E r l0 l1 l2 l3 l4 (nI p) w.1) := by
  have hl0 := hl
  obtain ⟨hK, -, hG, -⟩ := hl
  have hN := hO.1
  obtain ⟨s1, s2, s3, s4, s5⟩ := hs
  obtain ⟨w1, e1, F1, k1⟩ := K_deleteSelected hN hK hG hR
  obtain ⟨w2, c1, c2, e2, h4, h5⟩ := law1 (cM := fun σ => X13_deleteSelected_f E l2 σ) hl0 F1 (fun t z => z) k1 (hG.chg hG.1.del.1) (fun w2 th h2 => M_deleteSelected hN h2 hG)
  have e2 : X13_deleteSelected_f E l2 w1.1 = _ := e2
  refine ⟨w2, _, ?_, h4, h5⟩
  unfold L_law_3009
  rw [ob_e c1, ob_e e1, ob_e c2, ob_e e2, if_pos rfl]
  rfl
theorem C_3022 (hO : gOK E) (hl : LW E w l1 l2 l3 l4 ad Q) (hR : RM E w 1) (hs : SC E l0 p a b c d e) : CC E w l0 l1 l2 l3 l4 p ad r (L_law_3022 E r l0 l1 l2 l3 l4 (nI p) w.1) := by
  have hl0 := hl
  obtain ⟨hK, -, hG, -⟩ := hl
  have hN := hO.1
  obtain ⟨s1, s2, s3, s4, s5⟩ := hs
  obtain ⟨w1, w2, Q', k, v, e1, c1, e2, e3, h4, h5⟩ := lawJ (fun x : Int32 => x.toInt64) hl0 (A_compact hO hN hK hG hR hK.hIN.2.2.2 a)
  have e1 : L_compact_f E l1 a l3 w.1 = some (k, w1.1) := by
    unfold L_compact_f L_compact
    rw [ob_e hK.cl]
    exact e1
  have e2 : X13_compact_f E l2 a w1.1 = some (v, w2.1) := e2
  refine ⟨w2, Q', ?_, h4, h5⟩
  unfold L_law_3022
  rw [ob_e (s1 _), ob_e e1, ob_e (s1 _), ob_e c1, ob_e e2]
  exact e3 (L_law_3358 E r l0 l1 l2 l3 l4 (nI p))
theorem C_3078 (hO : gOK E) (hl : LW E w l1 l2 l3 l4 ad Q) (hR : RM E w 1) (hs : SC E l0 p a b c d e) : CC E w l0 l1 l2 l3 l4 p ad r (L_law_3078 E r l0 l1 l2 l3 l4 (nI p) w.1) := by
  have hl0 := hl
  obtain ⟨hK, -, hG, -⟩ := hl
  have hN := hO.1
  obtain ⟨s1, s2, s3, s4, s5⟩ := hs
  obtain ⟨w1, w2, Q', k, v, e1, c1, e2, e3, h4, h5⟩ := lawJ (fun x : Int32 => x.toInt64) hl0 (A_runScript hO hN hK hG hR hK.hIN.2.2.2 a)
  have e1 : L_runScript_f E l1 a l3 w.1 = some (k, w1.1) := by
    unfold L_runScript_f L_runScript
    rw [ob_e hK.cl]
    exact e1
  have e2 : X13_runScript_f E l2 a w1.1 = some (v, w2.1) := e2
  refine ⟨w2, Q', ?_, h4, h5⟩
  unfold L_law_3078
  rw [ob_e (s1 _), ob_e e1, ob_e (s1 _), ob_e c1, ob_e e2]
  exact e3 (L_law_3358 E r l0 l1 l2 l3 l4 (nI p))
theorem C_3134 (hO : gOK E) (hl : LW E w l1 l2 l3 l4 ad Q) (hR : RM E w 1) (hs : SC E l0 p a b c d e) : CC E w l0 l1 l2 l3 l4 p ad r (L_law_3134 E r l0 l1 l2 l3 l4 (nI p) w.1) := by
  have hl0 := hl
  obtain ⟨hK, -, hG, -⟩ := hl
  have hN := hO.1
  obtain ⟨s1, s2, s3, s4, s5⟩ := hs
  obtain ⟨w1, w2, Q', k, v, e1, c1, e2, e3, h4, h5⟩ := lawJ (fun x : Int32 => x.toInt64) hl0 (A_writeRow hO hN hK hG hR hK.hIN.2.2.2 a)
  have e1 : L_writeRow_f E l1 a l3 w.1 = some (k, w1.1) := by
    unfold L_writeRow_f L_writeRow
    rw [ob_e hK.cl]
    exact e1
  have e2 : X13_writeRow_f E l2 a w1.1 = some (v, w2.1) := e2
  refine ⟨w2, Q', ?_, h4, h5⟩
  unfold L_law_3134
  rw [ob_e (s1 _), ob_e e1, ob_e (s1 _), ob_e c1, ob_e e2]
  exact e3 (L_law_3358 E r l0 l1 l2 l3 l4 (nI p))
theorem C_3190 (hO : gOK E) (hl : LW E w l1 l2 l3 l4 ad Q) (hR : RM E w 1) (hs : SC E l0 p a b c d e) : CC E w l0 l1 l2 l3 l4 p ad r (L_law_3190 E r l0 l1 l2 l3 l4 (nI p) w.1) := by
  have hl0 := hl
  obtain ⟨hK, -, hG, -⟩ := hl
  have hN := hO.1
  obtain ⟨s1, s2, s3, s4, s5⟩ := hs
  obtain ⟨w1, w2, Q', k, v, e1, c1, e2, e3, h4, h5⟩ := lawJ (fun x : Int32 => x.toInt64) hl0 (A_outputByte hO hN hK hG hR hK.hIN.2.2.2 a)
  have e1 : L_outputByte_f E l1 a l3 w.1 = some (k, w1.1) := by
    unfold L_outputByte_f L_outputByte
    rw [ob_e hK.cl]
    exact e1
  have e2 : X13_outputByte_f E l2 a w1.1 = some (v, w2.1) := e2
  refine ⟨w2, Q', ?_, h4, h5⟩
  unfold L_law_3190
  rw [ob_e (s1 _), ob_e e1, ob_e (s1 _), ob_e c1, ob_e e2]
  exact e3 (L_law_3358 E r l0 l1 l2 l3 l4 (nI p))
theorem C_3246 (hO : gOK E) (hl : LW E w l1 l2 l3 l4 ad Q) (hR : RM E w 1) (hs : SC E l0 p a b c d e) : CC E w l0 l1 l2 l3 l4 p ad r (L_law_3246 E r l0 l1 l2 l3 l4 (nI p) w.1) := by
  have hl0 := hl
  obtain ⟨hK, -, hG, -⟩ := hl
  have hN := hO.1
  obtain ⟨s1, s2, s3, s4, s5⟩ := hs
  obtain ⟨w2, c1, c2, e2, h4, h5⟩ := law0 (cM := fun σ => X13_undoableCount_f E l2 σ) hl0 (fun w2 th h2 => M_undoableCount h2)
  have e2 : X13_undoableCount_f E l2 w.1 = _ := e2
  refine ⟨w2, Q, ?_, h4, h5⟩
  unfold L_law_3246
  rw [ob_e c1, ob_e (K_undoableCount hN hK hG), ob_e c2, ob_e e2, if_pos rfl]
  rfl
theorem C_3259 (hO : gOK E) (hl : LW E w l1 l2 l3 l4 ad Q) (hR : RM E w 1) (hs : SC E l0 p a b c d e) : CC E w l0 l1 l2 l3 l4 p ad r (L_law_3259 E r l0 l1 l2 l3 l4 (nI p) w.1) := by
  have hl0 := hl
  obtain ⟨hK, -, hG, -⟩ := hl
  have hN := hO.1
  obtain ⟨s1, s2, s3, s4, s5⟩ := hs
  obtain ⟨w1, w2, Q', k, v, e1, c1, e2, e3, h4, h5⟩ := lawJ (fun x : Int32 => x.toInt64) hl0 (A_undo hO hN hK hG hR hK.hIN.2.2.2)
  have e1 : L_undo_f E l1 l3 w.1 = some (k, w1.1) := by
    unfold L_undo_f L_undo
    rw [ob_e hK.cl]
    exact e1
  have e2 : X13_undo_f E l2 w1.1 = some (v, w2.1) := e2
  refine ⟨w2, Q', ?_, h4, h5⟩
  unfold L_law_3259
  rw [ob_e e1, ob_e c1, ob_e e2]
  exact e3 (L_law_3358 E r l0 l1 l2 l3 l4 (nI p))
theorem C_3303 (hO : gOK E) (hl : LW E w l1 l2 l3 l4 ad Q) (hR : RM E w 1) (hs : SC E l0 p a b c d e) : CC E w l0 l1 l2 l3 l4 p ad r (L_law_3303 E r l0 l1 l2 l3 l4 (nI p) w.1) := by
  have hl0 := hl
  obtain ⟨hK, -, hG, -⟩ := hl
  have hN := hO.1
  obtain ⟨s1, s2, s3, s4, s5⟩ := hs
  obtain ⟨w1, e1, F1, k1⟩ := K_saveSnapshot hN hK hG hR
  obtain ⟨hK', ⟨th, hX⟩, hG', ⟨f, hJ⟩, g, hD⟩ := hl0
  have F1' : FS E JK w w1 := F1
  have X1 := hX.fr F1' nJK30
  obtain ⟨w2, e2, F2, X2⟩ := M_saveSnapshot X1 hG
  refine ⟨w2, _, ?_, ⟨k1.j30 F2, ⟨_, X2⟩, hG.sav, ⟨_, (hJ.fr F1' nJK).fr F2 nJ30⟩, g, (hD.fr F1' nJK).fr F2 nJ30⟩, F1'.kx.fs F2⟩
  unfold L_law_3303
  rw [ob_e hK.cl, ob_e e1, ob_e X1.cl, ob_e e2]
  rfl
theorem C_3314 (hO : gOK E) (hl : LW E w l1 l2 l3 l4 ad Q) (hR : RM E w 1) (hs : SC E l0 p a b c d e) : CC E w l0 l1 l2 l3 l4 p ad r (L_law_3314 E r l0 l1 l2 l3 l4 (nI p) w.1) := by
  have hl0 := hl
  obtain ⟨hK, -, hG, -⟩ := hl
  have hN := hO.1
  obtain ⟨s1, s2, s3, s4, s5⟩ := hs
  obtain ⟨w1, w2, Q', k, v, e1, c1, e2, e3, h4, h5⟩ := lawJ (fun x : Int32 => x.toInt64) hl0 (A_restoreSnapshot hO hN hK hG hR hK.hIN.2.2.2)
  have e1 : L_restoreSnapshot_f E l1 l3 w.1 = some (k, w1.1) := by
    unfold L_restoreSnapshot_f L_restoreSnapshot
    rw [ob_e hK.cl]
    exact e1
  have e2 : X13_restoreSnapshot_f E l2 w1.1 = some (v, w2.1) := e2
  refine ⟨w2, Q', ?_, h4, h5⟩
  unfold L_law_3314
  rw [ob_e e1, ob_e c1, ob_e e2]
  exact e3 (L_law_3358 E r l0 l1 l2 l3 l4 (nI p))
end CA
