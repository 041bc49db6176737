/-! pure: the reference reads words -/
def wdv (u : Nat → Nat) (L : Nat) (l : List Nat) (t : gMd) : Int32 := match t with
  | .inl _ => 0
  | .inr s => if isW u L s l = true then 1 else 0
/-- the mode behind a word that may stand there -/
def acm (u : Nat → Nat) (L : Nat) (l : List Nat) (t : gMd) : gMd := match t with
  | .inl p => .inl p
  | .inr s => if isW u L s l = true then .inr (tN u L s) else .inr s
section MM
variable {E : gE} {w : gWd} {m ro L : Nat} {fi0 : Nat → Int32} {G : Nat → Nat → Int32} {u : Nat → Nat} {t : gMd}
theorem w36_0 {σ : gS} {sa : Nat} (hN : 100000 ≤ gN E) : X13_isWord_36 E σ m sa 0 = some 0 := by
  obtain ⟨q, hq⟩ : ∃ q, gN E = q + 1 := ⟨gN E - 1, by omega⟩
  unfold X13_isWord_36
  rw [hq]
  show X13_isWord_39_s E σ (X13_isWord_39 E σ q) m sa 0 0 = _
  unfold X13_isWord_39_s X13_isWord_82
  rw [if_pos rfl, ob_e gz0']
theorem PQ.word (h : PQ E w m ro fi0 G u L t) (hN : 100000 ≤ gN E) (hB : BU G u L) {sa : Nat} {l : List Nat} (hs : sOf E sa l) : X13_isWord_f E w.1 m sa = some (wdv u L l t) := by
  obtain ⟨fi, h1, p1, q1, d1⟩ := h
  have h7 := hB.1
  have r22 : gfI w.1 m 11 22 = some (fi 22) := gfI_o (x := fi 22) h1.1.2.2 rfl
  have r21 : gfI w.1 m 11 21 = some (fi 21) := gfI_o (x := fi 21) h1.1.2.2 rfl
  have r20 : gfI w.1 m 11 20 = some (fi 20) := gfI_o (x := fi 20) h1.1.2.2 rfl
  have r19 : gfI w.1 m 11 19 = some (fi 19) := gfI_o (x := fi 19) h1.1.2.2 rfl
  have hl100 : l.length < 100 := by
    obtain ⟨-, va, g, -, -, -, z, -⟩ := hs
    exact z
  unfold X13_isWord_f X13_isWord X13_isWord_35
  rw [ob_e r22]
  cases t with
  | inl p =>
    rw [if_neg d1.e22]
    exact w36_0 hN
  | inr s =>
    obtain ⟨⟨a1, a2, a3, a4, a5, a6⟩, b1⟩ := d1
    have ht := tkn_le (kd u L s)
    have hge := tE_ge (u := u) a5
    have hle := tE_le (u := u) a5
    rw [a4] at r21
    rw [a3] at r20
    rw [a2] at r19
    have hno : isW u L s l = false → some (0 : Int32) = some (wdv u L l (.inr s)) := fun z => by
      show _ = some (if isW u L s l = true then (1 : Int32) else 0)
      rw [z, if_neg (by decide)]
    rw [if_pos b1, ob_e r21]
    by_cases k2 : kd u L s = 2
    · rw [if_pos (show nI (tkn (kd u L s)) = (1 : Int32) from by rw [k2]; rfl), ob_e hs.cl, ob_e hs.length, ob_e r19, ob_e r20, nI_sub hge]
      by_cases hlen : tE u L s - s = l.length
      · rw [if_pos (by rw [hlen])]
        have hfl := fa_first_le (fun i => decide (u (s + i) ≠ l.getD i 0)) l.length
        have hrd : ∀ k, k < l.length → graI E 0 w.1 (m + 10) (nI s + nI k) = some (nI (u (s + k))) := fun k hk => by
          rw [nI_add, h1.ld 10 (by omega) (by omega) (Nat.lt_of_lt_of_le (show s + k < 700 by omega) (by decide)), hB.2.2 (s + k) (by omega)]
        have hc128 : ∀ k, k < l.length → l.getD k 0 < 128 := fun k hk => by
          obtain ⟨-, va, g, -, -, -, -, z⟩ := hs
          exact (z k hk).1
        unfold X13_isWord_36
        obtain ⟨q0, hq0⟩ : ∃ q, gN E = q + 1 := ⟨gN E - 1, by omega⟩
        rw [hq0]
        refine lp (F := fun q (_ : Unit) k => X13_isWord_39 E w.1 (q + 1) m sa 1 (nI k)) (s := fun _ => ()) (n := fa_first (fun i => decide (u (s + i) ≠ l.getD i 0)) l.length) (fun q k hk => ?_) (fun q => ?_) _ 0 q0 (Nat.zero_add _) (by omega)
        · have e := Decidable.not_not.mp (of_decide_eq_false (fa_first_no (fun i => decide (u (s + i) ≠ l.getD i 0)) l.length k hk))
          show X13_isWord_39_s E w.1 (X13_isWord_39 E w.1 (q + 1)) m sa 1 (nI k) = _
          unfold X13_isWord_39_s X13_isWord_75
          rw [if_neg i10, ob_e hs.cl, ob_e hs.length, if_neg (nI_ge (by omega) (by omega)), ob_e hs.cl, ob_e (hs.char (by omega)), ob_e h1.f16, ob_e r20, ob_e (hrd k (by omega)), e, if_pos rfl, nI_1]
        · show X13_isWord_39_s E w.1 (X13_isWord_39 E w.1 (q + 1)) m sa 1 (nI (fa_first _ _)) = _
          unfold X13_isWord_39_s X13_isWord_75 X13_isWord_82
          rw [if_neg i10, ob_e hs.cl, ob_e hs.length]
          by_cases hf : fa_first (fun i => decide (u (s + i) ≠ l.getD i 0)) l.length < l.length
          · have e := of_decide_eq_true (fa_first_yes (fun i => decide (u (s + i) ≠ l.getD i 0)) l.length hf)
            have hne : ¬ nI (l.getD (fa_first (fun i => decide (u (s + i) ≠ l.getD i 0)) l.length) 0) = nI (u (s + fa_first (fun i => decide (u (s + i) ≠ l.getD i 0)) l.length)) := fun y => by
              have b1 := hc128 _ hf
              have b2 := hB.2.1 (s + fa_first (fun i => decide (u (s + i) ≠ l.getD i 0)) l.length)
              exact e ((nI_eqI (by omega) (by omega)).mp y).symm
            rw [if_neg (nI_ge hf (by omega)), ob_e hs.cl, ob_e (hs.char hf), ob_e h1.f16, ob_e r20, ob_e (hrd _ hf), if_neg hne]
            show X13_isWord_39_s E w.1 (X13_isWord_39 E w.1 q) m sa 0 _ = _
            unfold X13_isWord_39_s X13_isWord_82
            rw [if_pos rfl, ob_e gz0']
            refine hno ?_
            unfold isW
            exact decide_eq_false fun z => e (z.2.2 _ hf)
          · rw [if_pos (nI_le (by omega) (by omega)), ob_e gz1']
            have hy : isW u L s l = true := by
              unfold isW
              exact decide_eq_true ⟨k2, hlen, fun i hi => Decidable.not_not.mp (of_decide_eq_false (fa_first_no (fun i => decide (u (s + i) ≠ l.getD i 0)) l.length i (by omega)))⟩
            show _ = some (if isW u L s l = true then (1 : Int32) else 0)
            rw [hy, if_pos rfl]
      · rw [if_neg (fun y => hlen ((nI_eqI (by omega) (by omega)).mp y).symm), w36_0 hN]
        refine hno ?_
        unfold isW
        exact decide_eq_false fun z => hlen z.2.1
    · rw [if_neg (show ¬ nI (tkn (kd u L s)) = (1 : Int32) from fun y => k2 ((tkn_1 _).mp ((nI_eqI (b := 1) (by omega) (by omega)).mp y))), w36_0 hN]
      refine hno ?_
      unfold isW
      exact decide_eq_false fun z => k2 z.1
theorem PQ.accept (h : PQ E w m ro fi0 G u L t) (hN : 100000 ≤ gN E) (hB : BU G u L) {sa : Nat} {l : List Nat} (hs : sOf E sa l) : ∃ w', X13_accept_f E m sa w.1 = some (wdv u L l t, w'.1) ∧ FS E J30 w w' ∧ PQ E w' m ro fi0 G u L (acm u L l t) := by
  have hw := h.word hN hB hs
  unfold X13_accept_f X13_accept X13_accept_14
  rw [ob_e h.cl, ob_e hw]
  cases t with
  | inl p =>
    rw [if_pos (show wdv u L l (.inl p) = 0 from rfl)]
    exact ⟨w, rfl, FS.rf, h⟩
  | inr s =>
    cases hb : isW u L s l with
    | false =>
      have e : wdv u L l (.inr s) = 0 := by
        show (if isW u L s l = true then (1 : Int32) else 0) = 0
        rw [hb]
        rfl
      have e2 : acm u L l (.inr s) = .inr s := by
        show (if isW u L s l = true then .inr (tN u L s) else .inr s : gMd) = _
        rw [hb]
        rfl
      rw [e, if_pos rfl, e2]
      exact ⟨w, rfl, FS.rf, h⟩
    | true =>
      have e : wdv u L l (.inr s) = 1 := by
        show (if isW u L s l = true then (1 : Int32) else 0) = 1
        rw [hb]
        rfl
      have e2 : acm u L l (.inr s) = .inr (tN u L s) := by
        show (if isW u L s l = true then .inr (tN u L s) else .inr s : gMd) = _
        rw [hb]
        rfl
      have hcl := h.cl
      obtain ⟨fi, h1, p1, q1, ⟨a1, a2, a3, a4, a5, a6⟩, b1⟩ := h
      obtain ⟨w1, f1, e1, F1, h2, t1, p2, c1, c2, c3⟩ := h1.scan hN a1 hB a2 b1 (tE_le a5)
      obtain ⟨x1, x2, x3, x4, x5, x6, x7⟩ := t1
      rw [e, if_neg i10, ob_e hcl, ob_e e1, e2]
      exact ⟨w1, rfl, F1, f1, h2, p1.tr p2, c3.trans q1, ⟨x1, x2, x3, x4, x6, x7⟩, x5⟩
end MM
