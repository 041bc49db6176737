/-! pure: the reference reads numbers -/
/-- the token at s, an error or not -/
def TS (fi : Nat → Int32) (u : Nat → Nat) (L s : Nat) : Prop := fi 18 = nI L ∧ fi 19 = nI (tE u L s) ∧ fi 20 = nI s ∧ fi 21 = nI (tkn (kd u L s)) ∧ s ≤ L ∧ kd u L s ≠ 1
/-- an error, or the token that stands -/
abbrev gMd : Type := (Nat × Nat) ⊕ Nat
def MD (fi : Nat → Int32) (u : Nat → Nat) (L : Nat) (t : gMd) : Prop := match t with
  | .inl p => (∃ s, TS fi u L s) ∧ fi 22 = nI p.1 ∧ fi 23 = nI p.2 ∧ 1 ≤ p.1 ∧ p.1 ≤ 3
  | .inr s => TS fi u L s ∧ fi 22 = 0
def mdf {α : Type} (r : gPr α) : gMd := match r with
  | .inl p => .inl p
  | .inr q => .inr q.2
/-- what a reader makes of a mode -/
def mdg {α : Type} (f : Nat → gPr α) (t : gMd) : gMd := match t with
  | .inl p => .inl p
  | .inr s => mdf (f s)
def chk (b : Int32) (c : Nat) (t : gMd) : gMd := match t with
  | .inl p => .inl p
  | .inr s => if b = 0 then .inl (c, s) else .inr s
def sy (u : Nat → Nat) (L K : Nat) (t : gMd) : Int32 := match t with
  | .inl _ => 0
  | .inr s => if kd u L s = K then 1 else 0
def adv (u : Nat → Nat) (L : Nat) (t : gMd) : gMd := match t with
  | .inl p => .inl p
  | .inr s => .inr (tN u L s)
def PQ (E : gE) (w : gWd) (m ro : Nat) (fi0 : Nat → Int32) (G : Nat → Nat → Int32) (u : Nat → Nat) (L : Nat) (t : gMd) : Prop := ∃ fi, MS E w m ro fi G ∧ PF fi0 fi ∧ fi 28 = fi0 28 ∧ MD fi u L t
theorem MD.ts {fi : Nat → Int32} {u : Nat → Nat} {L : Nat} {t : gMd} (h : MD fi u L t) : ∃ s, TS fi u L s := by
  cases t with
  | inl p => exact h.1
  | inr s => exact ⟨s, h.1⟩
theorem MD.e22 {fi : Nat → Int32} {u : Nat → Nat} {L : Nat} {p : Nat × Nat} (h : MD fi u L (.inl p)) : ¬ fi 22 = 0 := by
  obtain ⟨-, h1, -, h2, h3⟩ := h
  rw [h1]
  exact nI_ne0 (by omega) (by omega)
/-- digits up to a greater bound -/
def dv (u : Nat → Nat) (s : Nat) : Nat → Nat
  | 0 => 0
  | n + 1 => if dv u s n ≤ 9999999 then 10 * dv u s n + (u (s + n) - 48) else dv u s n
theorem dv_dg (u : Nat → Nat) (s : Nat) : ∀ n, (dg u s n < 100000 ∧ dv u s n = dg u s n) ∨ (100000 ≤ dg u s n ∧ 100000 ≤ dv u s n)
  | 0 => Or.inl ⟨by unfold dg; decide, rfl⟩
  | n + 1 => by
    have ih := dv_dg u s n
    unfold dg dv
    rcases ih with ⟨a, b⟩ | ⟨a, b⟩
    · rw [if_pos a, b, if_pos (by omega)]
      omega
    · rw [if_neg (by omega)]
      by_cases z : dv u s n ≤ 9999999
      · rw [if_pos z]
        omega
      · rw [if_neg z]
        omega
theorem dv_le (u : Nat → Nat) (s : Nat) (hu : ∀ i, u i < 256) : ∀ n, dv u s n ≤ 100000300
  | 0 => by unfold dv; decide
  | n + 1 => by
    have ih := dv_le u s hu n
    have := hu (s + n)
    unfold dv
    split <;> omega
section MM
variable {E : gE} {w : gWd} {m ro L : Nat} {fi0 : Nat → Int32} {G : Nat → Nat → Int32} {u : Nat → Nat} {t : gMd}
theorem PQ.cl (h : PQ E w m ro fi0 G u L t) : gcl w.1 m 11 = some () := by
  obtain ⟨fi, h1, -⟩ := h
  exact h1.cl
theorem PQ.check (h : PQ E w m ro fi0 G u L t) (b : Int32) {c : Nat} (hc : 1 ≤ c ∧ c ≤ 3) : ∃ w', X13_check_f E m b (nI c) w.1 = some w'.1 ∧ FS E J30 w w' ∧ PQ E w' m ro fi0 G u L (chk b c t) := by
  obtain ⟨fi, h1, p1, q1, d1⟩ := h
  have r22 : gfI w.1 m 11 22 = some (fi 22) := gfI_o (x := fi 22) h1.1.2.2 rfl
  unfold X13_check_f X13_check
  by_cases hb : b = 0
  · rw [if_pos hb, ob_e r22]
    cases t with
    | inl p =>
      rw [if_neg d1.e22]
      exact ⟨w, rfl, FS.rf, fi, h1, p1, q1, d1⟩
    | inr s =>
      obtain ⟨⟨a1, a2, a3, a4, a5, a6⟩, b1⟩ := d1
      obtain ⟨w1, e1, F1, h2⟩ := h1.put 22 (nI c) rfl (by decide)
      obtain ⟨w2, e2, F2, h3⟩ := h2.put 23 (nI s) rfl (by decide)
      have r20 : gfI w1.1 m 11 20 = some (nI s) := by
        rw [← a3]
        exact gfI_o (x := fi 20) h2.1.2.2 rfl
      rw [if_pos b1, ob_e e1, ob_e r20, ob_e e2]
      refine ⟨w2, rfl, F1.trans F2, _, h3, (p1.tr (PF.u _ (by decide) (by decide))).tr (PF.u _ (by decide) (by decide)), q1, ?_⟩
      show MD (upd (upd fi 22 (nI c)) 23 (nI s)) u L (if b = 0 then .inl (c, s) else .inr s)
      rw [if_pos hb]
      exact ⟨⟨s, a1, a2, a3, a4, a5, a6⟩, rfl, rfl, hc.1, hc.2⟩
  · rw [if_neg hb]
    refine ⟨w, rfl, FS.rf, fi, h1, p1, q1, ?_⟩
    unfold chk
    cases t with
    | inl p => exact d1
    | inr s =>
      show MD fi u L (if b = 0 then _ else _)
      rw [if_neg hb]
      exact d1
theorem PQ.advance (h : PQ E w m ro fi0 G u L t) (hN : 100000 ≤ gN E) (hB : BU G u L) : ∃ w', X13_advance_f E m w.1 = some w'.1 ∧ FS E J30 w w' ∧ PQ E w' m ro fi0 G u L (adv u L t) := by
  obtain ⟨fi, h1, p1, q1, d1⟩ := h
  have r22 : gfI w.1 m 11 22 = some (fi 22) := gfI_o (x := fi 22) h1.1.2.2 rfl
  unfold X13_advance_f X13_advance
  rw [ob_e r22]
  cases t with
  | inl p =>
    rw [if_neg d1.e22]
    exact ⟨w, rfl, FS.rf, fi, h1, p1, q1, d1⟩
  | inr s =>
    obtain ⟨⟨a1, a2, a3, a4, a5, a6⟩, b1⟩ := d1
    obtain ⟨w1, f1, e1, F1, h2, t1, p2, c1, c2, c3⟩ := h1.scan hN a1 hB a2 b1 (tE_le a5)
    rw [if_pos b1, ob_e h1.cl, ob_e e1]
    obtain ⟨x1, x2, x3, x4, x5, x6, x7⟩ := t1
    exact ⟨w1, rfl, F1, f1, h2, p1.tr p2, c3.trans q1, ⟨x1, x2, x3, x4, x6, x7⟩, x5⟩
theorem tkn_3 (k : Nat) : tkn k = 3 ↔ ¬ k = 0 ∧ ¬ k = 2 ∧ ¬ k = 3 := by
  unfold tkn
  repeat' split
  all_goals omega
theorem tkn_2 (k : Nat) : tkn k = 2 ↔ k = 3 := by
  unfold tkn
  repeat' split
  all_goals omega
theorem tkn_1 (k : Nat) : tkn k = 1 ↔ k = 2 := by
  unfold tkn
  repeat' split
  all_goals omega
theorem tkn_0 (k : Nat) : tkn k = 0 ↔ k = 0 := by
  unfold tkn
  repeat' split
  all_goals omega
theorem tkn_le (k : Nat) : tkn k ≤ 3 := by
  unfold tkn
  repeat' split
  all_goals omega
theorem bk_4 (b : Nat) : bk b = 4 ↔ b = 59 := by
  unfold bk
  repeat' split
  all_goals omega
theorem bk_5 (b : Nat) : bk b = 5 ↔ b = 45 := by
  unfold bk
  repeat' split
  all_goals omega
theorem PQ.sym (h : PQ E w m ro fi0 G u L t) (hB : BU G u L) {c K : Nat} (hc : c < 128) (hK : ∀ b, bk b = K ↔ b = c) (hK2 : K = 4 ∨ K = 5) : X13_isSymbol_f E w.1 m (nI c) = some (sy u L K t) := by
  obtain ⟨fi, h1, p1, q1, d1⟩ := h
  have h7 := hB.1
  have r22 : gfI w.1 m 11 22 = some (fi 22) := gfI_o (x := fi 22) h1.1.2.2 rfl
  have r21 : gfI w.1 m 11 21 = some (fi 21) := gfI_o (x := fi 21) h1.1.2.2 rfl
  have r20 : gfI w.1 m 11 20 = some (fi 20) := gfI_o (x := fi 20) h1.1.2.2 rfl
  unfold X13_isSymbol_f X13_isSymbol X13_isSymbol_32
  rw [ob_e r22]
  cases t with
  | inl p =>
    rw [if_neg d1.e22]
    rfl
  | inr s =>
    obtain ⟨⟨a1, a2, a3, a4, a5, a6⟩, b1⟩ := d1
    have ht := tkn_le (kd u L s)
    rw [a4] at r21
    rw [if_pos b1, ob_e r21]
    by_cases h3 : tkn (kd u L s) = 3
    · have hsL : s < L := by
        by_cases z : s < L
        · exact z
        · exact absurd (kd_out z) ((tkn_3 _).mp h3).1
      have hus := hB.2.1 s
      rw [if_pos (show nI (tkn (kd u L s)) = (3 : Int32) from by rw [h3]; rfl), ob_e h1.f16, ob_e r20, a3, ob_e (h1.ld 10 (by omega) (by omega) (Nat.lt_of_lt_of_le (show s < 700 by omega) (by decide))), hB.2.2 s hsL]
      show (if nI (u s) = nI c then some (1 : Int32) else some 0) = some (if kd u L s = K then 1 else 0)
      rw [kd_in hsL]
      by_cases z : u s = c
      · rw [if_pos (by rw [z]), if_pos ((hK _).mpr z)]
      · rw [if_neg (fun y => z ((nI_eqI (by omega) (by omega)).mp y)), if_neg (fun y => z ((hK _).mp y))]
    · rw [if_neg (show ¬ nI (tkn (kd u L s)) = (3 : Int32) from fun y => h3 ((nI_eqI (b := 3) (by omega) (by omega)).mp y))]
      show some (0 : Int32) = some (if kd u L s = K then 1 else 0)
      rw [if_neg]
      intro z
      exact h3 ((tkn_3 _).mpr (by omega))
theorem PQ.expect (h : PQ E w m ro fi0 G u L t) (hN : 100000 ≤ gN E) (hB : BU G u L) : ∃ w', X13_expect_f E m 59 w.1 = some w'.1 ∧ FS E J30 w w' ∧ PQ E w' m ro fi0 G u L (mdg (pSemi u L) t) := by
  have hs := h.sym hB (c := 59) (K := 4) (by decide) bk_4 (Or.inl rfl)
  have hs : X13_isSymbol_f E w.1 m (59 : Int32) = _ := hs
  obtain ⟨w1, e1, F1, h1⟩ := h.check (sy u L 4 t) (c := 1) (by decide)
  have e1 : X13_check_f E m _ (1 : Int32) w.1 = some w1.1 := e1
  obtain ⟨w2, e2, F2, h2⟩ := h1.advance hN hB
  refine ⟨w2, ?_, F1.trans F2, ?_⟩
  · unfold X13_expect_f X13_expect
    rw [ob_e h.cl, ob_e hs, ob_e h.cl, ob_e e1, ob_e h1.cl, ob_e e2]
  · have e : adv u L (chk (sy u L 4 t) 1 t) = mdg (pSemi u L) t := by
      cases t with
      | inl p => rfl
      | inr s =>
        show adv u L (if (if kd u L s = 4 then (1 : Int32) else 0) = 0 then .inl (1, s) else .inr s) = mdf (pSemi u L s)
        unfold pSemi
        by_cases z : kd u L s = 4
        · rw [if_pos z, if_neg i10, if_pos z]
          rfl
        · rw [if_neg z, if_pos rfl, if_neg z]
          rfl
    rw [← e]
    exact h2
/-- the number of the token at s -/
theorem val_u (h : MS E w m ro fi0 G) (hN : 100000 ≤ gN E) (hB : BU G u L) {s : Nat} (hT : TS fi0 u L s) : X13_value__f E w.1 m = some (nI (if kd u L s = 3 then dv u s (tE u L s - s) else 0)) := by
  obtain ⟨a1, a2, a3, a4, a5, a6⟩ := hT
  have h7 := hB.1
  have r20 : gfI w.1 m 11 20 = some (fi0 20) := gfI_o (x := fi0 20) h.1.2.2 rfl
  have r19 : gfI w.1 m 11 19 = some (fi0 19) := gfI_o (x := fi0 19) h.1.2.2 rfl
  have r21 : gfI w.1 m 11 21 = some (fi0 21) := gfI_o (x := fi0 21) h.1.2.2 rfl
  have hge := tE_ge (u := u) a5
  have hle := tE_le (u := u) a5
  have ht := tkn_le (kd u L s)
  unfold X13_value__f X13_value_
  rw [ob_e r20, a3]
  by_cases h3 : kd u L s = 3
  · rw [if_pos h3]
    refine lp (F := fun q a k => X13_value__7 E w.1 q m (nI a) (nI (s + k))) (s := fun k => dv u s k) (n := tE u L s - s) (fun q k hk => ?_) (fun q => ?_) (tE u L s - s) 0 (gN E) (by omega) (by omega)
    · have hd := dv_le u s hB.2.1 k
      have hus := hB.2.1 (s + k)
      have hkd : 48 ≤ u (s + k) := by
        have hte : tE u L s = s + fa_first (fun i => decide (kd u L (s + i) ≠ kd u L s)) (L - s) := by
          unfold tE
          rw [if_pos (Or.inr h3)]
        have e := Decidable.not_not.mp (of_decide_eq_false (fa_first_no (fun i => decide (kd u L (s + i) ≠ kd u L s)) (L - s) k (by omega)))
        rw [h3] at e
        exact (kd_dig e).2.1
      show X13_value__7_s E w.1 (X13_value__7 E w.1 q) m (nI (dv u s k)) (nI (s + k)) = X13_value__7 E w.1 q m (nI (if dv u s k ≤ 9999999 then 10 * dv u s k + (u (s + k) - 48) else dv u s k)) (nI (s + (k + 1)))
      unfold X13_value__7_s X13_value__48
      rw [ob_e r19, a2, if_neg (nI_ge (by omega) (by omega)), ob_e r21, a4, if_pos (show nI (tkn (kd u L s)) = (2 : Int32) from by rw [(tkn_2 _).mpr h3]; rfl)]
      by_cases z : dv u s k ≤ 9999999
      · rw [if_pos (show nI (dv u s k) ≤ (9999999 : Int32) from nI_le (b := 9999999) z (by omega)), if_pos z, ob_e h.f16, ob_e (h.ld 10 (by omega) (by omega) (Nat.lt_of_lt_of_le (show s + k < 700 by omega) (by decide))), hB.2.2 (s + k) (by omega), show (10 : Int32) * nI (dv u s k) = nI (10 * dv u s k) from nI_mul 10 _, nI_add, show nI (10 * dv u s k + u (s + k)) - (48 : Int32) = nI (10 * dv u s k + u (s + k) - 48) from nI_sub (b := 48) (by omega), nI_1, show 10 * dv u s k + u (s + k) - 48 = 10 * dv u s k + (u (s + k) - 48) by omega]
        rfl
      · rw [if_neg (show ¬ nI (dv u s k) ≤ (9999999 : Int32) from nI_ge (a := 9999999) (by omega) (by omega)), if_neg z, nI_1]
        rfl
    · show X13_value__7_s E w.1 (X13_value__7 E w.1 q) m (nI _) (nI (s + (tE u L s - s))) = _
      unfold X13_value__7_s X13_value__55
      rw [ob_e r19, a2, if_pos (nI_le (by omega) (by omega))]
  · rw [if_neg h3]
    obtain ⟨q, hq⟩ : ∃ q, gN E = q + 1 := ⟨gN E - 1, by omega⟩
    rw [hq]
    show X13_value__7_s E w.1 (X13_value__7 E w.1 q) m 0 (nI s) = _
    unfold X13_value__7_s X13_value__55
    rw [ob_e r19, ob_e r21, a4, if_neg (show ¬ nI (tkn (kd u L s)) = (2 : Int32) from fun y => h3 ((tkn_2 _).mp ((nI_eqI (b := 2) (by omega) (by omega)).mp y))), ite_self]
    rfl
end MM
