/-! pure: tables replaced, code ranges, the commonest value -/
def repC (C R c : Nat) (x : Nat → Int32) : gCol := (R, fun r => x (r * C + c), dcol (fun r => x (r * C + c)) R)
def repT (C R : Nat) (x : Nat → Int32) (S : gT) : gT := (C, fun c => if c < C then repC C R c x else S.2.1 c, 0, S.2.2.2)
theorem repT_s {C r : Nat} {x : Nat → Int32} {S : gT} : mapC (fun c y => opAp (x (r * C + c)) y) C (repT C r x S) = repT C (r + 1) x S := by
  unfold mapC repT
  simp only
  congr 2
  funext c
  by_cases h : c < C
  · rw [if_pos h, if_pos h, if_pos h]
    unfold opAp repC
    simp only
    rw [fa_upd_same (f := fun r => x (r * C + c)) rfl]
    rfl
  · rw [if_neg h, if_neg h, if_neg h]
theorem rp43 {E : gE} {a j C R cl : Nat} {z : Nat → Int32} {S : gT} (hN : 100000 ≤ gN E) (hC : C ≤ 6) (hj : j < 11) (hR60 : R ≤ 60) (hz : ∀ i, i < R * C → vIn (z i)) (w0 : gWd) (hcl : ∀ w, FS E (Js j) w0 w → ∀ i, i < R * C → graI E 0 w.1 cl (nI i) = some (z i)) : ∀ (k r m : Nat) (w : gWd) (x : Nat), r + k = R → k < m → RM E w x → FS E (Js j) w0 w → RS E w a j (repT C r z S) →
    ∃ w' : gWd, X11_replace_43 E m a (nI R) cl (nI r) w.1 = some w'.1 ∧ FS E (Js j) w w' ∧ RS E w' a j (repT C R z S) := by
  intro k
  induction k with
  | zero =>
    intro r m w x hr hm hR hw0 h
    obtain ⟨m, rfl⟩ : ∃ q, m = q + 1 := ⟨m - 1, by omega⟩
    refine ⟨w, ?_, FS.rf, by rw [show R = r by omega]; exact h⟩
    show X11_replace_43_s E (X11_replace_43 E m) a (nI R) cl (nI r) w.1 = _
    unfold X11_replace_43_s
    rw [if_pos (nI_le (by omega) (by omega))]
  | succ k ih =>
    intro r m w x hr hm hR hw0 h
    obtain ⟨m, rfl⟩ : ∃ q, m = q + 1 := ⟨m - 1, by omega⟩
    have hlin : ∀ c, c < C → r * C + c < R * C := fun c hc => by
      have : (r + 1) * C ≤ R * C := Nat.mul_le_mul_right C (by omega)
      rw [Nat.add_mul, Nat.one_mul] at this
      omega
    have hbig : r * C + C < 2 ^ 31 := by
      have : r * C ≤ 60 * 6 := Nat.mul_le_mul (by omega) hC
      omega
    obtain ⟨w1, e1, F1, R1⟩ := RS.ap (f0 := r * C) (z := z) (cl := cl) hN h hC hj (fun c hc => by
      show ((if c < C then repC C r c z else S.2.1 c) : gCol).1 < 60
      rw [if_pos (show c < C from hc)]
      show r < 60
      omega) (fun c hc => hz _ (hlin c hc)) hbig (fun w' hw' c hc => hcl w' (hw0.trans hw') _ (hlin c hc)) hR
    have R1' : RS E w1 a j (repT C (r + 1) z S) := by
      rw [← repT_s]
      exact R1
    obtain ⟨w2, e2, F2, R2⟩ := ih (r + 1) m w1 x (by omega) (by omega) (F1.2.2.2 x hR) (hw0.trans F1) R1'
    refine ⟨w2, ?_, F1.trans F2, R2⟩
    have hcn : gfI w.1 a 9 1 = some (nI C) := h.cnt
    show X11_replace_43_s E (X11_replace_43 E m) a (nI R) cl (nI r) w.1 = _
    unfold X11_replace_43_s
    rw [if_neg (nI_ge (by omega) (by omega)), ob_e hcn, ob_e h.cl, nI_mul, ob_e e1, ← nI_succ]
    exact e2
theorem rp15 {E : gE} {a j C R cl : Nat} {z : Nat → Int32} {S : gT} (hN : 100000 ≤ gN E) (hC : C ≤ 6) (hj : j < 11) (hR60 : R ≤ 60) (hz : ∀ i, i < R * C → vIn (z i)) (w0 : gWd) (hcl : ∀ w, FS E (Js j) w0 w → ∀ i, i < R * C → graI E 0 w.1 cl (nI i) = some (z i)) : ∀ (k c m : Nat) (w : gWd) (x : Nat), c + k = C → k < m → RM E w x → FS E (Js j) w0 w → RS E w a j (C, fun c' => if c' < c then repC C 0 c' z else S.2.1 c', 0, S.2.2.2) →
    ∃ w' : gWd, X11_replace_15 E m a (nI R) cl (nI c) w.1 = some w'.1 ∧ FS E (Js j) w w' ∧ RS E w' a j (repT C R z S) := by
  intro k
  induction k with
  | zero =>
    intro c m w x hc hm hR hw0 h
    obtain ⟨m, rfl⟩ : ∃ q, m = q + 1 := ⟨m - 1, by omega⟩
    have h' : RS E w a j (repT C 0 z S) := by
      rw [show c = C by omega] at h
      exact h
    obtain ⟨w2, e2, F2, R2⟩ := rp43 hN hC hj hR60 hz w0 hcl R 0 (gN E) w x (by omega) (by omega) hR hw0 h'
    refine ⟨w2, ?_, F2, R2⟩
    have hcn : gfI w.1 a 9 1 = some (nI C) := h.cnt
    show X11_replace_15_s E (X11_replace_15 E m) a (nI R) cl (nI c) w.1 = _
    unfold X11_replace_15_s
    rw [ob_e hcn, if_pos (nI_le (by omega) (by omega))]
    exact e2
  | succ k ih =>
    intro c m w x hc hm hR hw0 h
    obtain ⟨m, rfl⟩ : ∃ q, m = q + 1 := ⟨m - 1, by omega⟩
    have hcn : gfI w.1 a 9 1 = some (nI C) := h.cnt
    obtain ⟨w1, e1, F1, C1⟩ := (h.2.2.2 c (by omega)).clear (J := Jc j c) Jc_k
    have h1 := h.colup (x := repC C 0 c z) F1 ⟨C1.1.cong (fun r hr => by omega), C1.2⟩
    have e : setC ((C, fun c' => if c' < c then repC C 0 c' z else S.2.1 c', 0, S.2.2.2) : gT) c (repC C 0 c z) = (C, fun c' => if c' < c + 1 then repC C 0 c' z else S.2.1 c', 0, S.2.2.2) := by
      unfold setC
      simp only
      congr 2
      funext c'
      by_cases hz : c' = c
      · rw [if_pos hz, if_pos (by omega), hz]
      · rw [if_neg hz]
        by_cases h2 : c' < c
        · rw [if_pos h2, if_pos (by omega)]
        · rw [if_neg h2, if_neg (by omega)]
    rw [e] at h1
    obtain ⟨w2, e2, F2, R2⟩ := ih (c + 1) m w1 x (by omega) (by omega) (F1.2.2.2 x hR) (hw0.trans (F1.mono Jc_s)) h1
    refine ⟨w2, ?_, (F1.mono Jc_s).trans F2, R2⟩
    show X11_replace_15_s E (X11_replace_15 E m) a (nI R) cl (nI c) w.1 = _
    unfold X11_replace_15_s
    rw [ob_e hcn, if_neg (nI_ge (by omega) (by omega)), ob_e h.tab, ob_e (h.ref (by omega)), ob_e (h.ccl (by omega)), ob_e e1, ← nI_succ]
    exact e2
theorem RS.repl {E : gE} {w : gWd} {a j C R cl x : Nat} {z : Nat → Int32} {S : gT} (hN : 100000 ≤ gN E) (h : RS E w a j S) (hC : C ≤ 6) (hj : j < 11) (hR60 : R ≤ 60) (hz : ∀ i, i < R * C → vIn (z i)) (hcl : ∀ w', FS E (Js j) w w' → ∀ i, i < R * C → graI E 0 w'.1 cl (nI i) = some (z i)) (hR : RM E w x) :
    ∃ w' : gWd, X11_replace_f E a (nI C) (nI R) cl w.1 = some w'.1 ∧ FS E (Js j) w w' ∧ RS E w' a j (repT C R z S) := by
  obtain ⟨g1, ⟨g, g2, g3⟩, g4, g5⟩ := h
  obtain ⟨e1, O1, F1⟩ := g1.put (E := E) 1 (.int (nI C)) (Nat.le_of_ble_eq_true rfl) (J := fun t => t = (0, j, 0)) rfl
  have hno : ∀ κ c, κ ≠ 0 → ¬ ((κ, j, c) : Nat × Nat × Nat) = (0, j, 0) := fun κ c hk z => hk (congrArg Prod.fst z)
  have g4 := g4.fr F1 (fun κ q1 q2 => hno _ _ (by omega))
  obtain ⟨w1, e2, F2, R2⟩ := g4.clear (J := fun t => t = (2, j, 0)) rfl
  have hno2 : ∀ κ c, κ ≠ 2 → ¬ ((κ, j, c) : Nat × Nat × Nat) = (2, j, 0) := fun κ c hk z => hk (congrArg Prod.fst z)
  have F1' := F1.mono (J' := Js j) (fun t z => by show t.2.1 = j; rw [z])
  have F2' := F2.mono (J' := Js j) (fun t z => by show t.2.1 = j; rw [z])
  have h1 : RS E w1 a j (C, fun c' => if c' < 0 then repC C 0 c' z else S.2.1 c', 0, S.2.2.2) :=
    ⟨O1.fr F2 (hno2 _ _ (by decide)), ⟨g, (g2.fr F1 (hno _ _ (by decide))).fr F2 (hno2 _ _ (by decide)), g3⟩, R2, fun c hc => ((g5 c hc).fr F1 (fun κ q1 => hno _ _ (by omega))).fr F2 (fun κ q1 => hno2 _ _ (by omega))⟩
  obtain ⟨w2, e3, F3, R3⟩ := rp15 hN hC hj hR60 hz w hcl C 0 (gN E) w1 x (by omega) (by omega) (F2.2.2.2 x (F1.2.2.2 x hR)) (F1'.trans F2') h1
  refine ⟨w2, ?_, F1'.trans (F2'.trans F3), R3⟩
  unfold X11_replace_f X11_replace
  have hfil : gfR (wUp w a (.inr (9, [Value.ref (a + 1), .int (nI S.1), .ref (a + 2)].set 1 (.int (nI C))))).1 a 9 2 = some (a + 2) := gfR_o O1.2.2 rfl
  rw [ob_e e1, ob_e hfil, ob_e (gcl_o g4.1.2.2), ob_e e2]
  exact e3
/-! code ranges -/
theorem px_s {v : Int32} (h : vIn v) : px (v + 1) = px v + 1 := by
  have h1 := h.1
  have h2 := h.2
  unfold px
  have e : (v + 1).toInt = v.toInt + 1 := by
    rw [Int32.toInt_add]
    apply Int.bmod_eq_of_le <;> (have : (1 : Int32).toInt = 1 := rfl) <;> omega
  rw [e]
  omega
theorem ct_lt {f : Nat → Bool} {p q : Nat} (h : f p = true) : fb_ct f p < fb_ct f q ↔ p < q := by
  constructor
  · intro hlt
    by_cases hz : p < q
    · exact hz
    · have := fb_ct_mono f (show q ≤ p by omega)
      omega
  · intro hlt
    have a := fb_ct_mono f (show p + 1 ≤ q by omega)
    have b := fb_ct_succ f p
    rw [h] at b
    simp only [if_true] at b
    omega
def slo (S : gT) (i : Nat) : Nat := if tFd S i = -1 then 0 else if tFd S i = 1 then fb_ct (tD S (tFc S i)) (px (tFv S i) + 1) else fb_ct (tD S (tFc S i)) (px (tFv S i))
def shi (S : gT) (i : Nat) : Nat := if tFd S i = -1 then fb_ct (tD S (tFc S i)) (px (tFv S i)) else if tFd S i = 1 then dsz (tD S (tFc S i)) else fb_ct (tD S (tFc S i)) (px (tFv S i) + 1)
theorem RS.lower {E : gE} {w : gWd} {a j i : Nat} {S : gT} (hN : 100000 ≤ gN E) (h : RS E w a j S) (hG : GS S) (hi : i < tK S) : X11_lowerEnd_f E w.1 a (nI i) = some (nI (slo S i)) := by
  obtain ⟨g1, g2, g3, g4, g5, g6, g7⟩ := hG
  obtain ⟨k1, k2, k3⟩ := g7 i hi
  have hD := (h.2.2.2 (tFc S i) (by omega)).2
  unfold X11_lowerEnd_f X11_lowerEnd slo
  rw [ob_e h.fil, ob_e h.fcl, ob_e (h.2.2.1.col hi), ob_e h.cl, ob_e (h.dict (by omega)), ob_e h.fil, ob_e h.fcl, ob_e (h.2.2.1.val hi), ob_e h.fil, ob_e h.fcl, ob_e (h.2.2.1.dir hi)]
  by_cases hm : tFd S i = -1
  · rw [if_pos hm, if_pos hm]
    rfl
  · rw [if_neg hm, if_neg hm]
    by_cases hp : tFd S i = 1
    · rw [if_pos hp, if_pos hp, ob_e (h.dcl (by omega)), ob_e (hD.below hN _), px_s k2]
    · rw [if_neg hp, if_neg hp, ob_e (h.dcl (by omega)), ob_e (hD.below hN _)]
theorem RS.upper {E : gE} {w : gWd} {a j i : Nat} {S : gT} (hN : 100000 ≤ gN E) (h : RS E w a j S) (hG : GS S) (hi : i < tK S) : X11_upperEnd_f E w.1 a (nI i) = some (nI (shi S i)) := by
  obtain ⟨g1, g2, g3, g4, g5, g6, g7⟩ := hG
  obtain ⟨k1, k2, k3⟩ := g7 i hi
  have hD := (h.2.2.2 (tFc S i) (by omega)).2
  unfold X11_upperEnd_f X11_upperEnd shi
  rw [ob_e h.fil, ob_e h.fcl, ob_e (h.2.2.1.col hi), ob_e h.cl, ob_e (h.dict (by omega)), ob_e h.fil, ob_e h.fcl, ob_e (h.2.2.1.val hi), ob_e h.fil, ob_e h.fcl, ob_e (h.2.2.1.dir hi)]
  by_cases hm : tFd S i = -1
  · rw [if_pos hm, if_pos hm, ob_e (h.dcl (by omega)), ob_e (hD.below hN _)]
  · rw [if_neg hm, if_neg hm]
    by_cases hp : tFd S i = 1
    · rw [if_pos hp, if_pos hp, ob_e (h.dcl (by omega)), ob_e hD.size]
    · rw [if_neg hp, if_neg hp, ob_e (h.dcl (by omega)), ob_e (hD.below hN _), px_s k2]
theorem px_ltI {x y : Int32} (hx : vIn x) (hy : vIn y) : px x < px y ↔ x < y := by
  have a := hx.1
  have b := hy.1
  rw [fa_lt]
  unfold px
  omega
/-- the codes tell what the values tell -/
theorem byCode {S : gT} {r i : Nat} (hG : GS S) (hr : r < tR S) (hi : i < tK S) : (slo S i ≤ fb_ct (tD S (tFc S i)) (px (tV S (tFc S i) r)) ∧ fb_ct (tD S (tFc S i)) (px (tV S (tFc S i) r)) < shi S i) ↔ sful S r i = true := by
  obtain ⟨g1, g2, g3, g4, g5, g6, g7⟩ := hG
  obtain ⟨k1, k2, k3⟩ := g7 i hi
  obtain ⟨q1, q2⟩ := g5 (tFc S i) r k1 hr
  have L := fun q => ct_lt (q := q) q2
  have P := px_ltI q1 k2
  have P2 := px_ltI k2 q1
  have Pe : px (tV S (tFc S i) r) = px (tFv S i) ↔ tV S (tFc S i) r = tFv S i := ⟨fun e => by rw [← xp_px q1, ← xp_px k2, e], fun e => by rw [e]⟩
  have hsz : fb_ct (tD S (tFc S i)) (px (tV S (tFc S i) r)) < dsz (tD S (tFc S i)) := (L 19999).mpr (px_lt q1)
  unfold slo shi sful gful
  rcases k3 with hd | hd | hd
  · rw [if_pos hd, if_pos hd, if_pos (by rw [hd]; decide)]
    have := L (px (tFv S i))
    simp only [decide_eq_true_eq]
    rw [← P]
    omega
  · rw [if_neg (by rw [hd]; decide), if_neg (by rw [hd]; decide), if_neg (by rw [hd]; decide), if_neg (by rw [hd]; decide), if_neg (by rw [hd]; decide), if_neg (by rw [hd]; decide)]
    have a := L (px (tFv S i))
    have b := L (px (tFv S i) + 1)
    simp only [decide_eq_true_eq]
    rw [← Pe]
    omega
  · rw [if_neg (by rw [hd]; decide), if_pos hd, if_neg (by rw [hd]; decide), if_pos hd, if_neg (by rw [hd]; decide), if_pos (by rw [hd]; decide)]
    have b := L (px (tFv S i) + 1)
    simp only [decide_eq_true_eq]
    rw [← P2]
    omega
theorem dmem_in {f : Nat → Bool} {v : Int32} (h : vIn v) (h2 : f (px v) = true) : dmem f v = true := by
  unfold dmem
  rw [h2, Bool.and_true]
  exact decide_eq_true h
theorem RS.code {E : gE} {w : gWd} {a j c r : Nat} {S : gT} (hN : 100000 ≤ gN E) (h : RS E w a j S) (hG : GS S) (hc : c < S.1) (hr : r < tR S) : X1_codeAt_f E w.1 (a + 6 + 4 * c) (nI r) = some (nI (fb_ct (tD S c) (px (tV S c r)))) := by
  obtain ⟨g1, g2, g3, g4, g5, -⟩ := hG
  have hcc := h.2.2.2 c (by omega)
  have := hcc.1.codeAt hN hcc.2 (r := r) (by rw [g3 c hc]; exact hr)
  rw [if_pos (dmem_in (g5 c r hc hr).1 (g5 c r hc hr).2)] at this
  exact this
theorem sc_loop {E : gE} {w : gWd} {a j r : Nat} {S : gT} (hN : 100000 ≤ gN E) (h : RS E w a j S) (hG : GS S) (hr : r < tR S) : ∀ (k i m : Nat), i + k = tK S → k < m → (∀ q, q < i → sful S r q = true) → X11_selectsByCode_2 E w.1 m a (nI r) (nI i) = some (if ssel S r = true then 1 else 0) := by
  have h6 : tK S ≤ 8 := hG.2.2.2.2.2.1
  intro k
  induction k with
  | zero =>
    intro i m hi hm hq
    obtain ⟨m, rfl⟩ : ∃ q, m = q + 1 := ⟨m - 1, by omega⟩
    have he : srej S r = tK S := fa_first_succ (fun q hz => by rw [hq q (by omega)]; rfl) (Or.inr rfl) (Nat.le_refl _)
    show X11_selectsByCode_2_s E w.1 (X11_selectsByCode_2 E w.1 m) a _ (nI i) = _
    unfold X11_selectsByCode_2_s
    rw [ob_e h.fil, ob_e h.fcl, ob_e h.2.2.1.size, if_pos (nI_le (by omega) (by omega))]
    unfold ssel
    simp [he]
  | succ k ih =>
    intro i m hi hm hq
    obtain ⟨m, rfl⟩ : ∃ q, m = q + 1 := ⟨m - 1, by omega⟩
    have hb := byCode (i := i) hG hr (by omega)
    obtain ⟨k1, k2, k3⟩ := hG.2.2.2.2.2.2 i (by omega)
    have hC6 := hG.2.1
    have hcode := h.code (c := tFc S i) hN hG k1 hr
    have hlo := h.lower hN hG (i := i) (by omega)
    have hhi := h.upper hN hG (i := i) (by omega)
    have hD := (h.2.2.2 (tFc S i) (by omega)).2
    have s0 := dsz_le (tD S (tFc S i))
    have s1 := ct_le hD.1 (px (tV S (tFc S i) r))
    have s2 : slo S i ≤ 19999 := by
      unfold slo
      have := ct_le hD.1 (px (tFv S i))
      have := ct_le hD.1 (px (tFv S i) + 1)
      split
      · omega
      · split <;> omega
    have s3 : shi S i ≤ 19999 := by
      unfold shi
      have := ct_le hD.1 (px (tFv S i))
      have := ct_le hD.1 (px (tFv S i) + 1)
      split
      · omega
      · split <;> omega
    show X11_selectsByCode_2_s E w.1 (X11_selectsByCode_2 E w.1 m) a _ (nI i) = _
    unfold X11_selectsByCode_2_s X11_selectsByCode_49
    rw [ob_e h.fil, ob_e h.fcl, ob_e h.2.2.1.size, if_neg (nI_ge (by omega) (by omega)), ob_e h.tab, ob_e h.fil, ob_e h.fcl, ob_e (h.2.2.1.col (by omega)), ob_e (h.ref (by omega)), ob_e (h.ccl (by omega)), ob_e hcode, ob_e h.cl, ob_e hlo]
    have no : ¬ sful S r i = true → some (0 : Int32) = some (if ssel S r = true then 1 else 0) := by
      intro hn
      have he : srej S r = i := fa_first_succ (fun q hz => by rw [hq q (by omega)]; rfl) (Or.inl (by cases hx : sful S r i <;> simp_all)) (by omega)
      unfold ssel
      rw [if_neg]
      simp
      omega
    by_cases h1 : fb_ct (tD S (tFc S i)) (px (tV S (tFc S i) r)) < slo S i
    · rw [if_pos (nI_lt h1 (by omega))]
      exact no (fun z => by have := hb.mpr z; omega)
    · rw [if_neg (nI_nlt (by omega) (by omega)), ob_e h.cl, ob_e hhi]
      by_cases h2 : fb_ct (tD S (tFc S i)) (px (tV S (tFc S i) r)) < shi S i
      · rw [if_pos (nI_lt h2 (by omega)), ← nI_succ]
        exact ih (i + 1) m (by omega) (by omega) (fun q hz => by
          by_cases hy : q = i
          · rw [hy]; exact hb.mp ⟨by omega, h2⟩
          · exact hq q (by omega))
      · rw [if_neg (nI_nlt (by omega) (by omega))]
        exact no (fun z => by have := hb.mpr z; omega)
theorem RS.selc {E : gE} {w : gWd} {a j r : Nat} {S : gT} (hN : 100000 ≤ gN E) (h : RS E w a j S) (hG : GS S) (hr : r < tR S) : X11_selectsByCode_f E w.1 a (nI r) = some (if ssel S r = true then 1 else 0) := by
  have h6 : tK S ≤ 8 := hG.2.2.2.2.2.1
  exact sc_loop hN h hG hr (tK S) 0 (gN E) (by omega) (by omega) (fun q hz => by omega)
/-! the commonest value -/
def gocc (v : Nat → Int32) (n : Nat) (x : Int32) : Nat := fb_ct (fun i => decide (v i = x)) n
/-- the row whose value is the commonest so far, the smallest of several -/
def gbest (v : Nat → Int32) (n : Nat) : Nat → Nat
  | 0 => 0
  | r + 1 => if r = 0 then 0 else if gocc v n (v (gbest v n r)) < gocc v n (v r) ∨ (gocc v n (v r) = gocc v n (v (gbest v n r)) ∧ v r < v (gbest v n r)) then r else gbest v n r
theorem gbest_s (v : Nat → Int32) (n r : Nat) : gbest v n (r + 1) = if r = 0 then 0 else if gocc v n (v (gbest v n r)) < gocc v n (v r) ∨ (gocc v n (v r) = gocc v n (v (gbest v n r)) ∧ v r < v (gbest v n r)) then r else gbest v n r := rfl
theorem gbest_lt (v : Nat → Int32) (n : Nat) : ∀ r, 0 < r → gbest v n r < r
  | 0, h => by omega
  | r + 1, _ => by
    unfold gbest
    by_cases h0 : r = 0
    · rw [if_pos h0]; omega
    · rw [if_neg h0]
      have := gbest_lt v n r (by omega)
      split <;> omega
theorem cm_loop {E : gE} {w : gWd} {a j c n : Nat} {v : Nat → Int32} {f : Nat → Bool} (hN : 100000 ≤ gN E) (h : RC E w a j c n v f) (hv : ∀ r, r < n → vIn (v r) ∧ f (px (v r)) = true) : ∀ (k r m : Nat) (b : Int32), r + k = n → k < m → (0 < r → b = v (gbest v n r)) → X1_commonest_6 E w.1 m a (nI (if r = 0 then 0 else gocc v n (v (gbest v n r)))) b (nI r) = some (if n = 0 then -1 else nI (fb_ct f (px (v (gbest v n n))))) := by
  have h2 := h.1.2.1
  have hle : ∀ x, gocc v n x ≤ n := fun x => fb_ct_le _ _
  obtain ⟨-, en, g0, hO, -⟩ := id h.2
  have hpos : ∀ r, r < n → 0 < gocc v n (v r) := fun r hr => fb_ct_pos.mpr ⟨r, hr, by simp⟩
  intro k
  induction k with
  | zero =>
    intro r m b hr hm hb
    obtain ⟨m, rfl⟩ : ∃ q, m = q + 1 := ⟨m - 1, by omega⟩
    show X1_commonest_6_s E w.1 (X1_commonest_6 E w.1 m) a _ b (nI r) = _
    unfold X1_commonest_6_s
    rw [ob_e (gfI_o h.1.1.2.2 rfl), if_pos (nI_le (by omega) (by omega))]
    by_cases h0 : n = 0
    · rw [if_pos h0, if_pos (by rw [if_pos (by omega)]; decide)]
    · have hl := gbest_lt v n n (by omega)
      have hp := hpos _ hl
      have hq := hle (v (gbest v n n))
      rw [show r = n by omega] at hb ⊢
      have hvv := hv _ hl
      have hf := h.2.find hN b
      rw [hb (by omega)] at hf ⊢
      rw [if_pos (dmem_in hvv.1 hvv.2)] at hf
      simp only [if_neg h0]
      rw [if_neg (nI_nle hp (by omega)), ob_e (gfR_o h.1.1.2.2 rfl), ob_e (gcl_o hO.2.2), ob_e hf]
  | succ k ih =>
    intro r m b hr hm hb
    obtain ⟨m, rfl⟩ : ∃ q, m = q + 1 := ⟨m - 1, by omega⟩
    have ho := h.1.occ hN (v r)
    have hp := hpos r (by omega)
    have hq := hle (v r)
    have hI := fun b hb => ih (r + 1) m b (by omega) (by omega) hb
    rw [if_neg (show ¬ r + 1 = 0 by omega)] at hI
    show X1_commonest_6_s E w.1 (X1_commonest_6 E w.1 m) a _ b (nI r) = _
    unfold X1_commonest_6_s X1_commonest_48 X1_commonest_58
    rw [ob_e (gfI_o h.1.1.2.2 rfl), if_neg (nI_ge (by omega) (by omega)), ob_e (gfR_o h.1.1.2.2 rfl), ob_e (h.1.ld (by omega)), ob_e (gcl_o h.1.1.2.2), ob_e ho]
    have hgr : fb_ct (fun i => decide (v i = v r)) n = gocc v n (v r) := rfl
    rw [hgr]
    by_cases h0 : r = 0
    · rw [if_pos h0, if_pos (nI_lt hp (by omega)), ob_e (gfR_o h.1.1.2.2 rfl), ob_e (h.1.ld (by omega)), ← nI_succ]
      have e : gbest v n (r + 1) = r := by rw [gbest_s, if_pos h0, h0]
      have := hI (v r) (fun _ => by rw [e])
      rw [e] at this
      exact this
    · have hl := gbest_lt v n r (by omega)
      have hq2 := hle (v (gbest v n r))
      rw [if_neg h0]
      have hb := hb (by omega)
      by_cases h1 : gocc v n (v (gbest v n r)) < gocc v n (v r)
      · have e : gbest v n (r + 1) = r := by rw [gbest_s, if_neg h0, if_pos (Or.inl h1)]
        have := hI (v r) (fun _ => by rw [e])
        rw [e] at this
        rw [if_pos (nI_lt h1 (by omega)), ob_e (gfR_o h.1.1.2.2 rfl), ob_e (h.1.ld (by omega)), ← nI_succ]
        exact this
      · rw [if_neg (nI_nlt (by omega) (by omega))]
        by_cases h3 : gocc v n (v r) = gocc v n (v (gbest v n r))
        · rw [if_pos (by rw [h3]), ob_e (gfR_o h.1.1.2.2 rfl), ob_e (h.1.ld (by omega))]
          by_cases h4 : b ≤ v r
          · have e : gbest v n (r + 1) = gbest v n r := by
              rw [gbest_s, if_neg h0, if_neg]
              rintro (z | ⟨-, z⟩)
              · exact h1 z
              · rw [hb, fa_le] at h4
                rw [fa_lt] at z
                omega
            have := hI b (fun _ => by rw [e]; exact hb)
            rw [e] at this
            rw [if_pos h4, ← nI_succ]
            exact this
          · have e : gbest v n (r + 1) = r := by
              rw [gbest_s, if_neg h0, if_pos]
              refine Or.inr ⟨h3, ?_⟩
              rw [hb, fa_le] at h4
              rw [fa_lt]
              omega
            have := hI (v r) (fun _ => by rw [e])
            rw [e] at this
            rw [if_neg h4, ob_e (gfR_o h.1.1.2.2 rfl), ob_e (h.1.ld (by omega)), ← nI_succ]
            exact this
        · have e : gbest v n (r + 1) = gbest v n r := by
            rw [gbest_s, if_neg h0, if_neg]
            rintro (z | ⟨z, -⟩)
            · exact h1 z
            · exact h3 z
          have := hI b (fun _ => by rw [e]; exact hb)
          rw [e] at this
          rw [if_neg (fun z => h3 ((nI_eqI (by omega) (by omega)).mp z)), ← nI_succ]
          exact this
theorem RC.common {E : gE} {w : gWd} {a j c n : Nat} {v : Nat → Int32} {f : Nat → Bool} (hN : 100000 ≤ gN E) (h : RC E w a j c n v f) (hv : ∀ r, r < n → vIn (v r) ∧ f (px (v r)) = true) : X1_commonest_f E w.1 a = some (if n = 0 then -1 else nI (fb_ct f (px (v (gbest v n n))))) := by
  have h2 := h.1.2.1
  exact cm_loop hN h hv n 0 (gN E) 0 (by omega) (by omega) (fun z => by omega)
