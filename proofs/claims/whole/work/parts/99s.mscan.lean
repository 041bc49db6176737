/-! pure: the reference finds tokens -/
/-- what no text touches -/
def PF (fi fi' : Nat → Int32) : Prop := ∀ j, j < 18 ∨ j = 24 → fi' j = fi j
def PG (G G' : Nat → Nat → Int32) : Prop := ∀ j, j ≠ 2 → j ≠ 7 → j ≠ 11 → G' j = G j
theorem PF.rf {fi : Nat → Int32} : PF fi fi := fun _ _ => rfl
theorem PF.tr {f g h : Nat → Int32} (a : PF f g) (b : PF g h) : PF f h := fun j z => (b j z).trans (a j z)
theorem PG.rf {G : Nat → Nat → Int32} : PG G G := fun _ _ _ _ => rfl
theorem PG.tr {f g h : Nat → Nat → Int32} (a : PG f g) (b : PG g h) : PG f h := fun j x y z => (b j x y z).trans (a j x y z)
theorem PF.u {fi : Nat → Int32} {k : Nat} (x : Int32) (hk : 18 ≤ k) (h24 : k ≠ 24) : PF fi (upd fi k x) := fun j z => upd_o _ _ (by omega)
/-- the kind of a token, as the reference counts -/
def tkn (k : Nat) : Nat := if k = 0 then 0 else if k = 2 then 1 else if k = 3 then 2 else 3
/-- the token at s stands -/
def TK (fi : Nat → Int32) (u : Nat → Nat) (L s : Nat) : Prop := fi 18 = nI L ∧ fi 19 = nI (tE u L s) ∧ fi 20 = nI s ∧ fi 21 = nI (tkn (kd u L s)) ∧ fi 22 = 0 ∧ s ≤ L ∧ kd u L s ≠ 1
/-- the text -/
def BU (G : Nat → Nat → Int32) (u : Nat → Nat) (L : Nat) : Prop := L ≤ 700 ∧ (∀ i, u i < 256) ∧ ∀ i, i < L → G 10 i = nI (u i)
theorem BU.pg {G G' : Nat → Nat → Int32} {u : Nat → Nat} {L : Nat} (h : BU G u L) (hG : PG G G') : BU G' u L := ⟨h.1, h.2.1, fun i hi => by rw [hG 10 (by decide) (by decide) (by decide)]; exact h.2.2 i hi⟩
theorem bk_2 (b : Nat) : bk b = 2 ↔ 97 ≤ b ∧ b ≤ 122 := by
  unfold bk
  repeat' split
  all_goals omega
theorem bk_3 (b : Nat) : bk b = 3 ↔ 48 ≤ b ∧ b ≤ 57 := by
  unfold bk
  repeat' split
  all_goals omega
theorem bk_1 (b : Nat) : bk b = 1 ↔ b = 10 ∨ b = 32 := by
  unfold bk
  repeat' split
  all_goals omega
theorem kd_in {u : Nat → Nat} {L p : Nat} (h : p < L) : kd u L p = bk (u p) := if_pos h
theorem kd_out {u : Nat → Nat} {L p : Nat} (h : ¬ p < L) : kd u L p = 0 := if_neg h
section MM
variable {E : gE} {w : gWd} {m ro L : Nat} {fi : Nat → Int32} {G : Nat → Nat → Int32} {u : Nat → Nat}
theorem MS.byte (h : MS E w m ro fi G) (hL : fi 18 = nI L) (hB : BU G u L) {i : Nat} (hi : i ≤ 1000) : X13_byteAt_f E w.1 m (nI i) = some (if i < L then nI (u i) else -1) := by
  have h7 := hB.1
  unfold X13_byteAt_f X13_byteAt
  rw [ob_e (gfI_o (x := fi 18) h.1.2.2 rfl), hL]
  by_cases z : i < L
  · rw [if_neg (nI_ge z (by omega)), if_pos z, ob_e h.f16, ob_e (h.ld 10 (by omega) (by omega) (Nat.lt_of_lt_of_le (show i < 700 by omega) (by decide))), hB.2.2 i z]
  · rw [if_pos (nI_le (by omega) (by omega)), if_neg z]
theorem MS.letter (h : MS E w m ro fi G) (hL : fi 18 = nI L) (hB : BU G u L) {i : Nat} (hi : i ≤ 1000) : X13_isLetter_f E w.1 m (nI i) = some (if kd u L i = 2 then 1 else 0) := by
  have hb := hB.2.1 i
  unfold X13_isLetter_f X13_isLetter X13_isLetter_24
  rw [ob_e h.cl, ob_e (h.byte hL hB hi), ob_e h.cl, ob_e (h.byte hL hB hi)]
  by_cases z : i < L
  · rw [if_pos z, kd_in z]
    by_cases a : u i < 97
    · rw [if_pos (show nI (u i) < (97 : Int32) from nI_lt (b := 97) a (by omega)), if_neg (fun y => by have := (bk_2 _).mp y; omega)]
    · rw [if_neg (show ¬ nI (u i) < (97 : Int32) from nI_nlt (b := 97) (by omega) (by omega))]
      by_cases a2 : 122 < u i
      · rw [if_pos (show (122 : Int32) < nI (u i) from nI_lt (a := 122) a2 (by omega)), if_neg (fun y => by have := (bk_2 _).mp y; omega)]
      · rw [if_neg (show ¬ (122 : Int32) < nI (u i) from nI_nlt (a := 122) (b := u i) (by omega) (by omega)), if_pos ((bk_2 _).mpr (by omega))]
  · rw [if_neg z, if_pos (by decide), kd_out z, if_neg (by decide)]
theorem MS.digit (h : MS E w m ro fi G) (hL : fi 18 = nI L) (hB : BU G u L) {i : Nat} (hi : i ≤ 1000) : X13_isDigit_f E w.1 m (nI i) = some (if kd u L i = 3 then 1 else 0) := by
  have hb := hB.2.1 i
  unfold X13_isDigit_f X13_isDigit X13_isDigit_24
  rw [ob_e h.cl, ob_e (h.byte hL hB hi), ob_e h.cl, ob_e (h.byte hL hB hi)]
  by_cases z : i < L
  · rw [if_pos z, kd_in z]
    by_cases a : u i < 48
    · rw [if_pos (show nI (u i) < (48 : Int32) from nI_lt (b := 48) a (by omega)), if_neg (fun y => by have := (bk_3 _).mp y; omega)]
    · rw [if_neg (show ¬ nI (u i) < (48 : Int32) from nI_nlt (b := 48) (by omega) (by omega))]
      by_cases a2 : 57 < u i
      · rw [if_pos (show (57 : Int32) < nI (u i) from nI_lt (a := 57) a2 (by omega)), if_neg (fun y => by have := (bk_3 _).mp y; omega)]
      · rw [if_neg (show ¬ (57 : Int32) < nI (u i) from nI_nlt (a := 57) (b := u i) (by omega) (by omega)), if_pos ((bk_3 _).mpr (by omega))]
  · rw [if_neg z, if_pos (by decide), kd_out z, if_neg (by decide)]
/-- a run of letters or digits: what follows the place it has come to -/
theorem run_n (hs : MS E w m ro fi G) (hN : 100000 ≤ gN E) (hB : BU G u L) (hL : fi 18 = nI L) {s K : Nat} (h19 : fi 19 = nI s) (hsL : s < L) (hK : kd u L s = K) (hK0 : K ≠ 0) {F : Nat → gS → Option gS} {x : Int32} (hF : ∀ q (a : gWd) (fa : Nat → Int32) j, MS E a m ro fa G → fa 18 = nI L → fa 19 = nI j → j ≤ 1000 → (kd u L j = K → F (q + 1) a.1 = ob (gpf E a.1 m 11 19 (.int (nI (j + 1)))) fun σ => F q σ) ∧ (¬ kd u L j = K → F (q + 1) a.1 = ob (gpf E a.1 m 11 21 (.int x)) fun σ => some σ)) : ∃ w', F (gN E) w.1 = some w'.1 ∧ FS E J30 w w' ∧ MS E w' m ro (upd (upd fi 19 (nI (s + fa_first (fun i => decide (kd u L (s + i) ≠ kd u L s)) (L - s)))) 21 x) G := by
  have h7 := hB.1
  have hle := fa_first_le (fun i => decide (kd u L (s + i) ≠ kd u L s)) (L - s)
  obtain ⟨w1, e1, F1, h1⟩ := lpe (F := fun q (a : gWd) (_ : Nat) => F q a.1) (I := fun j a => FS E J30 w a ∧ MS E a m ro (upd fi 19 (nI (s + j))) G) (O := fun a => ob (gpf E a.1 m 11 21 (.int x)) fun σ => some σ) (n := fa_first (fun i => decide (kd u L (s + i) ≠ kd u L s)) (L - s)) (fun q j a hj hI => by
      obtain ⟨Fa, ha⟩ := hI
      have e := of_decide_eq_false (fa_first_no _ _ j hj)
      obtain ⟨w1, e1, F1, h1⟩ := ha.put 19 (nI (s + j + 1)) rfl (by decide)
      rw [fa_upd_twice] at h1
      refine ⟨w1, ?_, Fa.trans F1, h1⟩
      show F (q + 1) a.1 = _
      rw [(hF q a _ (s + j) ha hL rfl (by omega)).1 (by rw [← hK]; exact Decidable.not_not.mp e), ob_e e1]) (fun q a hI => by
      obtain ⟨Fa, ha⟩ := hI
      refine (hF q a _ _ ha hL rfl (by omega)).2 fun z => ?_
      by_cases hf : fa_first (fun i => decide (kd u L (s + i) ≠ kd u L s)) (L - s) < L - s
      · have e := of_decide_eq_true (fa_first_yes _ _ hf)
        exact e (z.trans hK.symm)
      · rw [kd_out (by omega)] at z
        exact hK0 z.symm) _ 0 (gN E) w (Nat.zero_add _) (by omega) ⟨FS.rf, by rw [Nat.add_zero, fa_upd_same h19]; exact hs⟩
  obtain ⟨w2, e2, F2, h2⟩ := h1.put 21 x rfl (by decide)
  exact ⟨w2, e1.trans (by rw [ob_e e2]), F1.trans F2, h2⟩
theorem scan_at (h : MS E w m ro fi G) (hN : 100000 ≤ gN E) (hL : fi 18 = nI L) (hB : BU G u L) {s : Nat} (h19 : fi 19 = nI s) (h22 : fi 22 = 0) (hs : s ≤ L) (hk : kd u L s ≠ 1) {r0 : Nat → gS → Option gS} : ∃ w' fi', X13_scan_0_s E r0 m w.1 = some w'.1 ∧ FS E J30 w w' ∧ MS E w' m ro fi' G ∧ TK fi' u L s ∧ PF fi fi' ∧ fi' 23 = fi 23 ∧ fi' 25 = fi 25 ∧ fi' 28 = fi 28 := by
  have h7 := hB.1
  have hb := hB.2.1 s
  have r19 : gfI w.1 m 11 19 = some (fi 19) := gfI_o (x := fi 19) h.1.2.2 rfl
  rw [h19] at r19
  have hby := h.byte hL hB (i := s) (by omega)
  obtain ⟨w1, e1, F1, h1⟩ := h.put 20 (nI s) rfl (by decide)
  have s19 : gfI w1.1 m 11 19 = some (nI s) := by
    rw [← h19]
    exact gfI_o (x := fi 19) h1.1.2.2 rfl
  have s18 : gfI w1.1 m 11 18 = some (nI L) := by
    rw [← hL]
    exact gfI_o (x := fi 18) h1.1.2.2 rfl
  have hlet := h1.letter (u := u) hL hB (i := s) (by omega)
  have hdig := h1.digit (u := u) hL hB (i := s) (by omega)
  have n32 : ¬ (if s < L then nI (u s) else (-1 : Int32)) = (32 : Int32) := by
    by_cases z : s < L
    · rw [if_pos z]
      intro y
      have := (nI_eqI (b := 32) (by omega) (by omega)).mp y
      exact hk (by rw [kd_in z]; exact (bk_1 _).mpr (Or.inr this))
    · rw [if_neg z]
      decide
  have n10 : ¬ (if s < L then nI (u s) else (-1 : Int32)) = (10 : Int32) := by
    by_cases z : s < L
    · rw [if_pos z]
      intro y
      have := (nI_eqI (b := 10) (by omega) (by omega)).mp y
      exact hk (by rw [kd_in z]; exact (bk_1 _).mpr (Or.inl this))
    · rw [if_neg z]
      decide
  unfold X13_scan_0_s
  rw [ob_e r19, ob_e h.cl, ob_e hby, if_neg n32, ob_e r19, ob_e h.cl, ob_e hby, if_neg n10, ob_e r19, ob_e e1, ob_e s19, ob_e s18]
  by_cases z : s < L
  · rw [if_pos (nI_lt z (by omega)), ob_e s19, ob_e h1.cl, ob_e hlet]
    by_cases k2 : kd u L s = 2
    · rw [if_pos k2, if_neg i10]
      obtain ⟨w2, e2, F2, h2⟩ := run_n (F := fun q σ => X13_scan_77 E q m σ) (x := 1) h1 hN hB hL h19 z k2 (by decide) (fun q a fa j ha f18 f19 hj => by
        have t19 : gfI a.1 m 11 19 = some (fa 19) := gfI_o (x := fa 19) ha.1.2.2 rfl
        rw [f19] at t19
        have tl := ha.letter f18 hB hj
        constructor
        · intro y
          show X13_scan_77_s E (X13_scan_77 E q) m a.1 = _
          unfold X13_scan_77_s
          rw [ob_e t19, ob_e ha.cl, ob_e tl, if_pos y, if_neg i10, ob_e t19, nI_1]
        · intro y
          show X13_scan_77_s E (X13_scan_77 E q) m a.1 = _
          unfold X13_scan_77_s
          rw [ob_e t19, ob_e ha.cl, ob_e tl, if_neg y, if_pos rfl])
      refine ⟨w2, _, e2, F1.trans F2, h2, ⟨hL, ?_, rfl, ?_, h22, hs, hk⟩, ((PF.u _ (by decide) (by decide)).tr (PF.u _ (by decide) (by decide))).tr (PF.u _ (by decide) (by decide)), rfl, rfl, rfl⟩
      · unfold tE
        rw [if_pos (Or.inl k2)]
        rfl
      · rw [k2]
        rfl
    · rw [if_neg k2, if_pos rfl, ob_e s19, ob_e h1.cl, ob_e hdig]
      by_cases k3 : kd u L s = 3
      · rw [if_pos k3, if_neg i10]
        obtain ⟨w2, e2, F2, h2⟩ := run_n (F := fun q σ => X13_scan_120 E q m σ) (x := 2) h1 hN hB hL h19 z k3 (by decide) (fun q a fa j ha f18 f19 hj => by
          have t19 : gfI a.1 m 11 19 = some (fa 19) := gfI_o (x := fa 19) ha.1.2.2 rfl
          rw [f19] at t19
          have tl := ha.digit f18 hB hj
          constructor
          · intro y
            show X13_scan_120_s E (X13_scan_120 E q) m a.1 = _
            unfold X13_scan_120_s
            rw [ob_e t19, ob_e ha.cl, ob_e tl, if_pos y, if_neg i10, ob_e t19, nI_1]
          · intro y
            show X13_scan_120_s E (X13_scan_120 E q) m a.1 = _
            unfold X13_scan_120_s
            rw [ob_e t19, ob_e ha.cl, ob_e tl, if_neg y, if_pos rfl])
        refine ⟨w2, _, e2, F1.trans F2, h2, ⟨hL, ?_, rfl, ?_, h22, hs, hk⟩, ((PF.u _ (by decide) (by decide)).tr (PF.u _ (by decide) (by decide))).tr (PF.u _ (by decide) (by decide)), rfl, rfl, rfl⟩
        · unfold tE
          rw [if_pos (Or.inr k3)]
          rfl
        · rw [k3]
          rfl
      · obtain ⟨w2, e2, F2, h2⟩ := h1.put 19 (nI (s + 1)) rfl (by decide)
        obtain ⟨w3, e3, F3, h3⟩ := h2.put 21 3 rfl (by decide)
        refine ⟨w3, _, ?_, (F1.trans F2).trans F3, h3, ⟨hL, ?_, rfl, ?_, h22, hs, hk⟩, ((PF.u _ (by decide) (by decide)).tr (PF.u _ (by decide) (by decide))).tr (PF.u _ (by decide) (by decide)), rfl, rfl, rfl⟩
        · rw [if_neg k3, if_pos rfl, ob_e s19, nI_1, ob_e e2, ob_e e3]
        · unfold tE
          rw [if_neg (by omega), show min (s + 1) L = s + 1 by omega]
          rfl
        · have hk0 : kd u L s ≠ 0 := fun y => by
            have := (kd_end hs).mp y
            omega
          unfold tkn
          rw [if_neg hk0, if_neg k2, if_neg k3]
          rfl
  · obtain ⟨w2, e2, F2, h2⟩ := h1.put 21 0 rfl (by decide)
    have hsL : s = L := by omega
    refine ⟨w2, _, ?_, F1.trans F2, h2, ⟨hL, ?_, rfl, ?_, h22, hs, hk⟩, (PF.u _ (by decide) (by decide)).tr (PF.u _ (by decide) (by decide)), rfl, rfl, rfl⟩
    · rw [if_neg (nI_nlt (by omega) (by omega)), ob_e e2]
    · have hk0 := kd_out (u := u) z
      unfold tE
      rw [if_neg (by omega), show min (s + 1) L = s by omega]
      exact h19
    · rw [kd_out z]
      rfl
theorem MS.scan (h : MS E w m ro fi G) (hN : 100000 ≤ gN E) (hL : fi 18 = nI L) (hB : BU G u L) {e : Nat} (h19 : fi 19 = nI e) (h22 : fi 22 = 0) (he : e ≤ L) : ∃ w' fi', X13_scan_f E m w.1 = some w'.1 ∧ FS E J30 w w' ∧ MS E w' m ro fi' G ∧ TK fi' u L (tS u L e) ∧ PF fi fi' ∧ fi' 23 = fi 23 ∧ fi' 25 = fi 25 ∧ fi' 28 = fi 28 := by
  have h7 := hB.1
  have hle := fa_first_le (fun i => decide (kd u L (e + i) ≠ 1)) (L - e)
  have hgo : ∀ k i q (a : gWd), i + k = fa_first (fun i => decide (kd u L (e + i) ≠ 1)) (L - e) → k < q → MS E a m ro (upd fi 19 (nI (e + i))) G → ∃ w' fi', X13_scan_0 E q m a.1 = some w'.1 ∧ FS E J30 a w' ∧ MS E w' m ro fi' G ∧ TK fi' u L (tS u L e) ∧ PF fi fi' ∧ fi' 23 = fi 23 ∧ fi' 25 = fi 25 ∧ fi' 28 = fi 28 := by
    intro k
    induction k with
    | zero =>
      intro i q a hi hq ha
      obtain ⟨q, rfl⟩ : ∃ z, q = z + 1 := ⟨q - 1, by omega⟩
      have hts : e + i = tS u L e := by unfold tS; omega
      obtain ⟨w1, f1, e1, F1, h1, t1, p1, c1, c2, c3⟩ := scan_at (r0 := X13_scan_0 E q) (u := u) ha hN hL hB (s := e + i) rfl h22 (by omega) (by rw [hts]; exact tS_kd he)
      rw [hts] at t1
      exact ⟨w1, f1, e1, F1, h1, t1, (PF.u _ (by decide) (by decide)).tr p1, c1, c2, c3⟩
    | succ k ih =>
      intro i q a hi hq ha
      obtain ⟨q, rfl⟩ : ∃ z, q = z + 1 := ⟨q - 1, by omega⟩
      have hno := Decidable.not_not.mp (of_decide_eq_false (fa_first_no (fun i => decide (kd u L (e + i) ≠ 1)) (L - e) i (by omega)))
      have hin : e + i < L := by
        by_cases z : e + i < L
        · exact z
        · rw [kd_out z] at hno
          exact absurd hno (by decide)
      have hb := hB.2.1 (e + i)
      obtain ⟨w1, e1, F1, h1⟩ := ha.put 19 (nI (e + i + 1)) rfl (by decide)
      rw [fa_upd_twice] at h1
      obtain ⟨w2, f2, e2, F2, r2⟩ := ih (i + 1) q w1 (by omega) (by omega) h1
      refine ⟨w2, f2, ?_, F1.trans F2, r2⟩
      have r19 : gfI a.1 m 11 19 = some (nI (e + i)) := gfI_o (x := upd fi 19 (nI (e + i)) 19) ha.1.2.2 rfl
      have hby := ha.byte (u := u) hL hB (i := e + i) (by omega)
      rw [if_pos hin] at hby
      show X13_scan_0_s E (X13_scan_0 E q) m a.1 = _
      unfold X13_scan_0_s X13_scan_26
      rw [ob_e r19, ob_e ha.cl, ob_e hby]
      rw [kd_in hin] at hno
      by_cases b32 : nI (u (e + i)) = (32 : Int32)
      · rw [if_pos b32, ob_e r19, nI_1, ob_e e1]
        exact e2
      · have b10 : nI (u (e + i)) = (10 : Int32) := by
          rcases (bk_1 _).mp hno with y | y
          · rw [y]; rfl
          · exact absurd (by rw [y]; rfl) b32
        rw [if_neg b32, ob_e r19, ob_e ha.cl, ob_e hby, if_pos b10, ob_e r19, nI_1, ob_e e1]
        exact e2
  exact hgo _ 0 (gN E) w (Nat.zero_add _) (by omega) (by rw [Nat.add_zero, fa_upd_same h19]; exact h)
end MM
