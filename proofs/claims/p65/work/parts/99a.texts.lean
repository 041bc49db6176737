/-! pure: texts change the object -/
theorem pInt_v {u : Nat → Nat} {L s s' : Nat} {x : Int32} (h : pInt u L s = .inr (x, s')) : vIn x := by
  unfold pInt at h
  by_cases hk : kd u L s = 5
  · rw [if_pos hk] at h
    cases hq : pNum u L 0 9999 (tN u L s) with
    | inl e => rw [hq] at h; cases h
    | inr r =>
      obtain ⟨y, s2⟩ := r
      rw [hq] at h
      cases h
      have := (pNum_le hq).2.1
      unfold vIn
      rw [fb_negI (by rw [nI_toInt (by omega)]; omega), nI_toInt (by omega)]
      omega
  · rw [if_neg hk] at h
    unfold pInt1 at h
    cases hq : pNum u L 0 9999 s with
    | inl e => rw [hq] at h; cases h
    | inr r =>
      obtain ⟨y, s2⟩ := r
      rw [hq] at h
      cases h
      have := (pNum_le hq).2.1
      unfold vIn
      rw [nI_toInt (by omega)]
      omega
theorem pRow_v {u : Nat → Nat} {L : Nat} : ∀ (k s : Nat) {r : Nat → Int32} {s' : Nat}, pRow u L k s = .inr (r, s') → ∀ j, j < k → vIn (r j)
  | 0, _, _, _, _, j, hj => by omega
  | k + 1, s, r, s', h, j, hj => by
    obtain ⟨x, s1, p1, h⟩ := pB_r h
    obtain ⟨r', s2, p2, h⟩ := pB_r h
    cases h
    show vIn (if j = 0 then x else r' (j - 1))
    by_cases h0 : j = 0
    · rw [if_pos h0]
      exact pInt_v p1
    · rw [if_neg h0]
      exact pRow_v k s1 p2 _ (by omega)
theorem pTab_v {u : Nat → Nat} {L C : Nat} : ∀ (k s : Nat) {q : Nat × (Nat → Int32)} {s' : Nat}, pTab u L C k s = .inr (q, s') → q.1 ≤ k ∧ ∀ j, j < q.1 * C → vIn (q.2 j)
  | 0, s, q, s', h => by
    unfold pTab at h
    split at h
    · cases h
      exact ⟨Nat.le_refl _, fun j hj => by simp at hj⟩
    · cases h
  | k + 1, s, q, s', h => by
    unfold pTab at h
    split at h
    · cases h
      exact ⟨Nat.zero_le _, fun j hj => by simp at hj⟩
    · obtain ⟨r, s1, p1, h⟩ := pB_r h
      obtain ⟨-, s2, p2, h⟩ := pB_r h
      obtain ⟨x, s3, p3, h⟩ := pB_r h
      cases h
      obtain ⟨i1, i2⟩ := pTab_v k s2 p3
      refine ⟨by show x.1 + 1 ≤ k + 1; omega, fun j hj => ?_⟩
      have hj : j < (x.1 + 1) * C := hj
      rw [Nat.succ_mul] at hj
      show vIn (if j < C then r j else x.2 (j - C))
      by_cases h0 : j < C
      · rw [if_pos h0]
        exact pRow_v C s p1 _ h0
      · rw [if_neg h0]
        exact i2 _ (by omega)
theorem pTable_v {u : Nat → Nat} {L s : Nat} {q : Nat × Nat × (Nat → Int32)} {s' : Nat} (h : pTable u L s = .inr (q, s')) : 1 ≤ q.1 ∧ q.1 ≤ 6 ∧ q.2.1 ≤ 60 ∧ ∀ j, j < q.2.1 * q.1 → vIn (q.2.2 j) := by
  unfold pTable at h
  split at h
  · obtain ⟨C, s1, p1, h⟩ := pB_r h
    obtain ⟨-, s2, p2, h⟩ := pB_r h
    obtain ⟨x, s3, p3, h⟩ := pB_r h
    cases h
    obtain ⟨c1, c2, -⟩ := pNum_le p1
    obtain ⟨i1, i2⟩ := pTab_v 60 s2 p3
    exact ⟨c1, c2, i1, i2⟩
  · cases h
theorem pRow1_v {u : Nat → Nat} {L C s : Nat} {r : Nat → Int32} {s' : Nat} (h : pRow1 u L C s = .inr (r, s')) : ∀ j, j < C → vIn (r j) := by
  obtain ⟨r', s1, p1, h⟩ := pB_r h
  split at h
  · cases h
    exact pRow_v C s p1
  · cases h
/-- a command that the parser lets pass -/
def cmW (C : Nat) (cm : gCmd) : Prop := cm.1 < 9 ∧ (cm.1 ≠ 0 → cm.1 ≠ 6 → cm.1 ≠ 7 → cm.2.1 < C) ∧ vIn cm.2.2.2.1 ∧ cm.2.2.1 < 60 ∧ ∀ j, j < C → cm.1 = 0 → vIn (cm.2.2.2.2.2 j)
theorem vIn0 : vIn 0 := ⟨by decide, by decide⟩
theorem pArgs_v {u : Nat → Nat} {L C k s : Nat} {cm : gCmd} {s' : Nat} (hC : 1 ≤ C) (hk : k < 9) (h : pArgs u L C k s = .inr (cm, s')) : cmW C cm := by
  unfold pArgs at h
  repeat' split at h
  · obtain ⟨r, s1, p1, h⟩ := pB_r h
    cases h
    exact ⟨Nat.le_of_ble_eq_true rfl, fun z => absurd rfl z, vIn0, Nat.le_of_ble_eq_true rfl, fun j hj _ => pRow_v C s p1 j hj⟩
  · obtain ⟨x, s1, p1, h⟩ := pB_r h
    obtain ⟨y, s2, p2, h⟩ := pB_r h
    obtain ⟨v, s3, p3, h⟩ := pB_r h
    cases h
    have a1 := (pNum_le p1).2.1
    have a2 := (pNum_le p2).2.1
    exact ⟨Nat.le_of_ble_eq_true rfl, fun _ _ _ => by show x < C; omega, pInt_v p3, by show y < 60; omega, fun j _ z => by cases z⟩
  · obtain ⟨x, s1, p1, h⟩ := pB_r h
    cases h
    have a1 := (pNum_le p1).2.1
    exact ⟨Nat.le_of_ble_eq_true rfl, fun _ _ _ => by show x < C; omega, vIn0, by show 0 < 60; omega, fun j _ z => by cases z⟩
  · obtain ⟨y, s1, p1, h⟩ := pB_r h
    cases h
    have a1 := (pNum_le p1).2.1
    exact ⟨Nat.le_of_ble_eq_true rfl, fun _ z => absurd rfl z, vIn0, by show y < 60; omega, fun j _ z => by cases z⟩
  · cases h
    exact ⟨by decide, fun _ _ z => absurd rfl z, vIn0, by decide, fun j _ z => by cases z⟩
  · obtain ⟨x, s1, p1, h⟩ := pB_r h
    cases h
    have a1 := (pNum_le p1).2.1
    exact ⟨Nat.le_of_ble_eq_true rfl, fun _ _ _ => by show x < C; omega, vIn0, by show 0 < 60; omega, fun j _ z => by cases z⟩
  · obtain ⟨x, s1, p1, h⟩ := pB_r h
    obtain ⟨v, s2, p2, h⟩ := pB_r h
    cases h
    have a1 := (pNum_le p1).2.1
    exact ⟨hk, fun _ _ _ => by show x < C; omega, pInt_v p2, by show 0 < 60; omega, fun j _ z => absurd z (by show ¬ k = 0; assumption)⟩
theorem pScr_v {u : Nat → Nat} {L C : Nat} (hC : 1 ≤ C) : ∀ (k s : Nat) {q : Nat × (Nat → gCmd)} {s' : Nat}, pScr u L C k s = .inr (q, s') → q.1 ≤ k ∧ ∀ i, i < q.1 → cmW C (q.2 i)
  | 0, s, q, s', h => by
    unfold pScr at h
    split at h
    · cases h
      exact ⟨Nat.le_refl _, fun i hi => by have hi : i < 0 := hi; omega⟩
    · split at h <;> cases h
  | k + 1, s, q, s', h => by
    unfold pScr at h
    split at h
    · cases h
      exact ⟨Nat.zero_le _, fun i hi => by have hi : i < 0 := hi; omega⟩
    · split at h
      · cases h
      · rename_i h9
        have h9' : pKind u L s ≤ 9 := fa_first_le _ _
        obtain ⟨cm, s1, p1, h⟩ := pB_r h
        obtain ⟨-, s2, p2, h⟩ := pB_r h
        obtain ⟨r, s3, p3, h⟩ := pB_r h
        cases h
        obtain ⟨i1, i2⟩ := pScr_v hC k s2 p3
        refine ⟨by show r.1 + 1 ≤ k + 1; omega, fun i hi => ?_⟩
        have hi : i < r.1 + 1 := hi
        show cmW C (if i = 0 then cm else r.2 (i - 1))
        by_cases h0 : i = 0
        · rw [if_pos h0]
          exact pArgs_v hC (by omega) p1
        · rw [if_neg h0]
          exact i2 _ (by omega)
/-- can the command be done; what it does -/
def cmP (S : gT) (cm : gCmd) : Bool := if cm.1 = 0 then decide (tR S < 60) else if cm.1 = 1 then decide (cm.2.2.1 < tR S) else if cm.1 = 3 ∨ cm.1 = 4 ∨ cm.1 = 5 then decide (tK S < 8) else if cm.1 = 6 then decide (cm.2.2.1 < tK S) else true
def cmD (S : gT) (cm : gCmd) : gT := if cm.1 = 0 then apT S cm.2.2.2.2.2 else if cm.1 = 1 then putT1 S cm.2.1 cm.2.2.1 cm.2.2.2.1 else if cm.1 = 2 then srtT S cm.2.1 (!cm.2.2.2.2.1) else if cm.1 = 3 then addT S cm.2.1 cm.2.2.2.1 (-1) else if cm.1 = 4 then addT S cm.2.1 cm.2.2.2.1 0 else if cm.1 = 5 then addT S cm.2.1 cm.2.2.2.1 1 else if cm.1 = 6 then remT S cm.2.2.1 else if cm.1 = 7 then delT S else cmpT S cm.2.1
def rnS (f : Nat → gCmd) : Nat → Nat → gT → Nat × gT
  | 0, i, S => (i, S)
  | k + 1, i, S => if cmP S (f i) = true then rnS f k (i + 1) (cmD S (f i)) else (i, S)
theorem cmD_ok {S : gT} (hG : GS S) {cm : gCmd} (hw : cmW S.1 cm) (hp : cmP S cm = true) : GS (cmD S cm) ∧ (cmD S cm).1 = S.1 := by
  obtain ⟨w1, w2, w3, w4, w5⟩ := hw
  unfold cmP at hp
  unfold cmD
  by_cases h0 : cm.1 = 0
  · rw [if_pos h0] at hp ⊢
    exact ⟨(hG.ap (fun c hc => w5 c hc h0) (of_decide_eq_true hp)).1, rfl⟩
  · rw [if_neg h0] at hp ⊢
    by_cases h1 : cm.1 = 1
    · rw [if_pos h1] at hp ⊢
      exact ⟨(hG.put (w2 h0 (by omega) (by omega)) (of_decide_eq_true hp) w3).1, rfl⟩
    · rw [if_neg h1] at hp ⊢
      by_cases h2 : cm.1 = 2
      · rw [if_pos h2]
        exact ⟨(hG.srt _ _).1, rfl⟩
      · rw [if_neg h2]
        by_cases h3 : cm.1 = 3
        · rw [if_pos (Or.inl h3)] at hp
          rw [if_pos h3]
          exact ⟨hG.add (w2 h0 (by omega) (by omega)) w3 (Or.inl rfl) (of_decide_eq_true hp), rfl⟩
        · by_cases h4 : cm.1 = 4
          · rw [if_pos (Or.inr (Or.inl h4))] at hp
            rw [if_neg h3, if_pos h4]
            exact ⟨hG.add (w2 h0 (by omega) (by omega)) w3 (Or.inr (Or.inl rfl)) (of_decide_eq_true hp), rfl⟩
          · by_cases h5 : cm.1 = 5
            · rw [if_pos (Or.inr (Or.inr h5))] at hp
              rw [if_neg h3, if_neg h4, if_pos h5]
              exact ⟨hG.add (w2 h0 (by omega) (by omega)) w3 (Or.inr (Or.inr rfl)) (of_decide_eq_true hp), rfl⟩
            · rw [if_neg (by omega)] at hp
              rw [if_neg h3, if_neg h4, if_neg h5]
              by_cases h6 : cm.1 = 6
              · rw [if_pos h6] at hp ⊢
                exact ⟨hG.rem (of_decide_eq_true hp), rfl⟩
              · rw [if_neg h6]
                by_cases h7 : cm.1 = 7
                · rw [if_pos h7]
                  exact ⟨hG.del.1, rfl⟩
                · rw [if_neg h7]
                  exact ⟨(hG.cmp (w2 h0 h6 h7)).1, rfl⟩
theorem rnS_ok {f : Nat → gCmd} {C m : Nat} (hf : ∀ i, i < m → cmW C (f i)) : ∀ (k i : Nat) (S : gT), i + k = m → GS S → S.1 = C → GS (rnS f k i S).2
  | 0, i, S, _, hG, _ => hG
  | k + 1, i, S, hi, hG, hC => by
    show GS (if cmP S (f i) = true then rnS f k (i + 1) (cmD S (f i)) else (i, S)).2
    by_cases hp : cmP S (f i) = true
    · rw [if_pos hp]
      have := cmD_ok hG (by rw [hC]; exact hf i (by omega)) hp
      exact rnS_ok hf k (i + 1) _ (by omega) this.1 (this.2.trans hC)
    · rw [if_neg hp]
      exact hG
theorem rnS_le (f : Nat → gCmd) : ∀ (k i : Nat) (S : gT), (rnS f k i S).1 ≤ i + k
  | 0, i, S => Nat.le_refl _
  | k + 1, i, S => by
    show (if cmP S (f i) = true then rnS f k (i + 1) (cmD S (f i)) else (i, S)).1 ≤ _
    split
    · have := rnS_le f k (i + 1) (cmD S (f i))
      omega
    · show i ≤ i + (k + 1)
      omega
abbrev lOK (n : Nat) (a : Int32) : Prop := 0 ≤ a.toInt ∧ a.toInt ≤ n
theorem liI {a : Int32} {n : Nat} (h : lOK n a) : ∃ c, c ≤ n ∧ a = nI c := by
  obtain ⟨c, h1, h2, -⟩ := ixI (a := a) (n := n + 1) ⟨h.1, by have := h.2; omega⟩
  exact ⟨c, by omega, h2⟩
section KY
variable {E : gE} {w : gWd} {l : Nat} {ad : Nat → Nat} {Q : gQ}
theorem RK.len (h : RK E w l ad Q) (hG : GQ Q) {L : Nat} (hL : L ≤ qN Q) : X12_checkLength_f E l (nI L) w.1 = some (Sum.inr (), w.1) := by
  have h7 := hG.2.2.2.2.2.2.2.1
  unfold X12_checkLength_f X12_checkLength
  rw [if_neg (nI_pos (by omega)), ob_e h.f4, ob_e h.hIN.icl, ob_e h.hIN.size, if_pos (nI_le hL (by omega))]
theorem RK.lenF (h : RK E w l ad Q) (hG : GQ Q) (hR : RM E w 1) {a : Int32} (ha : ¬ lOK (qN Q) a) : X12_checkLength_f E l a w.1 = some (Sum.inl 1, (thW w).1) := by
  have h7 := hG.2.2.2.2.2.2.2.1
  have ht : gthr E w.1 = some (thW w).1 := RM.thrw (y := 0) hR
  unfold X12_checkLength_f X12_checkLength X12_checkLength_15
  by_cases h0 : a < 0
  · rw [if_pos h0, ob_e ht]
  · rw [if_neg h0, ob_e h.f4, ob_e h.hIN.icl, ob_e h.hIN.size, if_neg, ob_e ht]
    intro z
    apply ha
    rw [fa_lt, toI0] at h0
    rw [fa_le, nI_toInt (by omega)] at z
    exact ⟨by omega, z⟩
theorem RK.clr (h : RK E w l ad Q) : ∃ w', X6_clear_f E (ad 4) w.1 = some w'.1 ∧ FS E J22 w w' ∧ RK E w' l ad (qI Q 0 (qB Q)) := by
  obtain ⟨w1, e1, F1, i1⟩ := h.hIN.clear
  exact ⟨w1, e1, F1, h.inp F1 i1⟩
theorem RK.clQ (h : RK E w l ad Q) : gcl w.1 (ad 5) 7 = some () := by
  obtain ⟨⟨nu, co, ro, cc, h1⟩, -, -⟩ := h.hPZ
  exact gcl_o h1.2.2
theorem J22a : ¬ J22 (10, 23, 0) := fun z => by cases (congrArg Prod.fst z : (23 : Nat) = 22)
theorem J22b : ¬ J22 (11, 23, 0) := fun z => by cases (congrArg Prod.fst z : (23 : Nat) = 22)
theorem K_loadTable (hO : gOK E) (h : RK E w l ad Q) (hG : GQ Q) (hR : RM E w 1) {L : Nat} (hL : L ≤ qN Q) {q : Nat × Nat × (Nat → Int32)} {s' : Nat} (hp : pTable (qB Q) L (tS (qB Q) L 0) = .inr (q, s')) :
    XA E w l ad (repT q.1 q.2.1 q.2.2 (qS Q), qU Q, false, (qX Q, 0, qR Q), (0, qB Q), (0, -1), Q.2.2.2.2.2.2) (Sum.inr (nI q.2.1)) (X12_loadTable_f E l (nI L) w.1) := by
  have hN := hO.1
  obtain ⟨c1, c2, c3, c4⟩ := pTable_v hp
  obtain ⟨w1, e1, F1, P1, I1, -, -, -, nu, cc, g, O1, A1, H1⟩ := h.hPZ.table hO h.hIN hL hp
  have h1 := h.rd F1 I1 P1
  obtain ⟨w2, e2, F2, h2⟩ := h1.clr
  have O2 := O1.fr F2 J22a
  have A2 := A1.fr F2 J22b
  have hR2 : RM E w2 1 := F2.2.2.2 _ (F1.2.2.2 _ hR)
  obtain ⟨w3, e3, F3, S3⟩ := RS.repl (z := q.2.2) hN h2.S c2 (by decide) c3 c4 (cl := ad 5 + 1) (fun w' hF i hi => by
    have h360 : i < 360 := by
      have : q.2.1 * q.1 ≤ 60 * 6 := Nat.mul_le_mul c3 c2
      omega
    rw [(A2.fr hF (fun z => by cases (z : (23 : Nat) = 0))).2.2.ld h360 (by decide), H1 i hi]) hR2
  have h3 := h2.st F3 S3
  obtain ⟨w4, e4, F4, H4⟩ := h3.2.2.2.1.clear
  have h4 := h3.his F4 H4
  obtain ⟨w5, e5, F5, h5⟩ := h4.flag false
  have hrr := (GS.rep (x := q.2.2) (S := qS Q) c1 c2 c3 c4).2
  refine ⟨w5, ?_, ((F1.mono JKP).trans ((F2.mono (fun t z => JKP t (J22P t z))).trans ((F3.mono JKs0).trans ((F4.mono JKh).trans (F5.mono JK25))))).kk h.pos, h5⟩
  have hf4 : X9_columns_f E w2.1 (ad 5) = some (nI q.1) := by
    unfold X9_columns_f X9_columns
    rw [ob_e (gfI_o O2.2.2 rfl)]
  have hf5 : X9_rows_f E w2.1 (ad 5) = some (nI q.2.1) := by
    unfold X9_rows_f X9_rows
    rw [ob_e (gfI_o O2.2.2 rfl)]
  have hf6 : X9_cells_f E w2.1 (ad 5) = some (ad 5 + 1) := by
    unfold X9_cells_f X9_cells
    rw [ob_e (gfR_o O2.2.2 rfl)]
  unfold X12_loadTable_f X12_loadTable
  rw [ob_e h.cl, ob_e (h.len hG hL), gtry_r, ob_e h.f5, ob_e h.clQ, ob_e e1]
  rw [ob_e h1.f4, ob_e h1.hIN.icl, ob_e e2, if_neg i10, ob_e h2.f0, ob_e h2.f5, ob_e h2.clQ, ob_e hf4, ob_e h2.f5, ob_e h2.clQ, ob_e hf5, ob_e h2.f5, ob_e h2.clQ, ob_e hf6, ob_e h2.c0, ob_e e3, ob_e h3.f3, ob_e h3.clH, ob_e e4, ob_e gz0']
  rw [if_neg (by decide)] at e5
  rw [ob_e e5, ob_e h5.f0, ob_e h5.c0, ob_e h5.S.rows]
  show some (Sum.inr (nI (tR (repT q.1 q.2.1 q.2.2 (qS Q)))), w5.1) = _
  rw [hrr]
theorem K_loadTableF (hO : gOK E) (h : RK E w l ad Q) (hG : GQ Q) {L : Nat} (hL : L ≤ qN Q) {c o : Nat} (hp : pTable (qB Q) L (tS (qB Q) L 0) = .inl (c, o)) :
    XA E w l ad (qErr (qI Q 0 (qB Q)) (nI c, nI o)) (Sum.inr (-1)) (X12_loadTable_f E l (nI L) w.1) := by
  obtain ⟨w1, e1, F1, P1, I1⟩ := h.hPZ.tableF hO h.hIN hL hp
  have h1 := h.rd F1 I1 P1
  obtain ⟨w2, e2, F2, h2⟩ := h1.clr
  refine ⟨w2, ?_, ((F1.mono JKP).trans (F2.mono (fun t z => JKP t (J22P t z)))).kk h.pos, h2⟩
  unfold X12_loadTable_f X12_loadTable
  rw [ob_e h.cl, ob_e (h.len hG hL), gtry_r, ob_e h.f5, ob_e h.clQ, ob_e e1]
  rw [ob_e h1.f4, ob_e h1.hIN.icl, ob_e e2, if_pos rfl]
theorem mapC_z {S : gT} {z : Nat → Int32} : mapC (fun c y => opAp (z (0 + c)) y) S.1 S = apT S z := mapC_cong (fun c _ => by rw [Nat.zero_add])
theorem K_addRow (hO : gOK E) (h : RK E w l ad Q) (hG : GQ Q) (hR : RM E w 1) {L : Nat} (hL : L ≤ qN Q) (hf : tR (qS Q) < 60) {r : Nat → Int32} {s' : Nat} (hp : pRow1 (qB Q) L (qS Q).1 (tS (qB Q) L 0) = .inr (r, s')) :
    XA E w l ad (qC (qErr (qI Q 0 (qB Q)) (0, -1)) (apT (qS Q) r)) (Sum.inr (nI (tR (qS Q)))) (X12_addRow_f E l (nI L) w.1) := by
  have hN := hO.1
  have hv := pRow1_v hp
  have hC := hG.1.2.1
  obtain ⟨w1, e1, F1, P1, I1, nu, co, ro, cc, g, O1, A1, H1⟩ := h.hPZ.row hO h.hIN hL hC hp
  have h1 := h.rd F1 I1 P1
  obtain ⟨w2, e2, F2, h2⟩ := h1.clr
  have O2 := O1.fr F2 J22a
  have A2 := A1.fr F2 J22b
  have hR2 : RM E w2 1 := F2.2.2.2 _ (F1.2.2.2 _ hR)
  obtain ⟨w3, e3, F3, h3⟩ := h2.rcd hN hG.1 hR2
  have noh : ∀ κ, ¬ Jh (κ, 23, 0) := fun κ z => by
    have z' : (23 : Nat) = 24 ∨ (2 ≤ 23 ∧ 23 < 10) := z
    omega
  have O3 := O2.fr F3 (noh _)
  have A3 := A2.fr F3 (noh _)
  obtain ⟨w4, e4, F4, S4⟩ := RS.ap (z := r) (f0 := 0) hN h3.S hC (by decide) (fun c hc => Nat.lt_of_le_of_lt (Nat.le_of_eq (hG.1.2.2.1 c hc)) hf) (fun c hc => hv _ (by rw [Nat.zero_add]; exact hc)) (by show 0 + (qS Q).1 < 2 ^ 31; omega) (cl := ad 5 + 1) (fun w' hF c hc => by
    have hc' : c < (qS Q).1 := hc
    rw [(A3.fr hF (fun z => by cases (z : (23 : Nat) = 0))).2.2.ld (show 0 + c < 360 by omega) (by decide), H1 _ (by omega)]) (F3.2.2.2 _ hR2)
  rw [mapC_z] at S4
  have h4 := h3.st F4 S4
  have hg := (hG.1.ap hv hf).2
  refine ⟨w4, ?_, ((F1.mono JKP).trans ((F2.mono (fun t z => JKP t (J22P t z))).trans ((F3.mono JKh).trans (F4.mono JKs0)))).kk h.pos, h4⟩
  have hf6 : X9_cells_f E w3.1 (ad 5) = some (ad 5 + 1) := by
    unfold X9_cells_f X9_cells
    rw [ob_e (gfR_o O3.2.2 rfl)]
  unfold X12_addRow_f X12_addRow
  rw [ob_e h.cl, ob_e (h.len hG hL), gtry_r, ob_e h.f0, ob_e h.c0, ob_e h.S.full, if_pos hf, if_pos rfl, ob_e h.f5, ob_e h.f0, ob_e h.c0, ob_e h.S.columns, ob_e h.clQ, ob_e e1]
  rw [ob_e h1.f4, ob_e h1.hIN.icl, ob_e e2, if_neg i10, ob_e h2.f3, ob_e h2.f0, ob_e h2.clH, ob_e e3, ob_e h3.f0, ob_e h3.f5, ob_e h3.clQ, ob_e hf6, ob_e h3.c0]
  refine (ob_e e4).trans ?_
  rw [ob_e h4.f0, ob_e h4.c0, ob_e h4.S.rows]
  show some (Sum.inr (nI (tR (apT (qS Q) r)) - 1), w4.1) = _
  rw [hg, nI_pred]
theorem K_addRowF (hO : gOK E) (h : RK E w l ad Q) (hG : GQ Q) {L : Nat} (hL : L ≤ qN Q) (hf : tR (qS Q) < 60) {c o : Nat} (hp : pRow1 (qB Q) L (qS Q).1 (tS (qB Q) L 0) = .inl (c, o)) :
    XA E w l ad (qErr (qI Q 0 (qB Q)) (nI c, nI o)) (Sum.inr (-1)) (X12_addRow_f E l (nI L) w.1) := by
  obtain ⟨w1, e1, F1, P1, I1⟩ := h.hPZ.rowF hO h.hIN hL hG.1.2.1 hp
  have h1 := h.rd F1 I1 P1
  obtain ⟨w2, e2, F2, h2⟩ := h1.clr
  refine ⟨w2, ?_, ((F1.mono JKP).trans (F2.mono (fun t z => JKP t (J22P t z)))).kk h.pos, h2⟩
  unfold X12_addRow_f X12_addRow
  rw [ob_e h.cl, ob_e (h.len hG hL), gtry_r, ob_e h.f0, ob_e h.c0, ob_e h.S.full, if_pos hf, if_pos rfl, ob_e h.f5, ob_e h.f0, ob_e h.c0, ob_e h.S.columns, ob_e h.clQ, ob_e e1]
  rw [ob_e h1.f4, ob_e h1.hIN.icl, ob_e e2, if_pos rfl]
end KY
