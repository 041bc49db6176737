/-! pure: stores are written -/
def opMv (r s : Nat) (x : gCol) : gCol := (x.1, upd x.2.1 s (x.2.1 r), x.2.2)
def opSh (m : Nat) (x : gCol) : gCol := (m, x.2.1, x.2.2)
def opRe (s : Nat → Nat) (x : gCol) : gCol := (x.1, fun k => x.2.1 (s k), x.2.2)
def opAp (y : Int32) (x : gCol) : gCol := (x.1 + 1, upd x.2.1 x.1 y, dins x.2.2 (px y))
def opCl (x : gCol) : gCol := (0, x.2.1, fun _ => false)
theorem RS.at {E : gE} {w : gWd} {a j c : Nat} {S : gT} {op : Nat → gCol → gCol} (h : RS E w a j (mapC op c S)) (hc : c < 6) : RC E w (a + 6 + 4 * c) j c (S.2.1 c).1 (tV S c) (tD S c) := by
  have h1 := h.2.2.2 c hc
  rw [tV, tD, mapC_at] at h1
  exact h1
theorem mv_loop {E : gE} {a j r s : Nat} {S : gT} (hC : S.1 ≤ 6) (hr : ∀ c, c < S.1 → r < (S.2.1 c).1) (hs : ∀ c, c < S.1 → s < (S.2.1 c).1) : ∀ (k c m : Nat) (w : gWd), c + k = S.1 → k < m → RS E w a j (mapC (fun c y => opMv r s y) c S) →
    ∃ w' : gWd, X11_moveRow_2 E m a (nI r) (nI s) (nI c) w.1 = some w'.1 ∧ FS E (Js j) w w' ∧ RS E w' a j (mapC (fun c y => opMv r s y) S.1 S) := by
  intro k
  induction k with
  | zero =>
    intro c m w hc hm h
    obtain ⟨m, rfl⟩ : ∃ q, m = q + 1 := ⟨m - 1, by omega⟩
    refine ⟨w, ?_, FS.rf, by rw [show S.1 = c by omega]; exact h⟩
    show X11_moveRow_2_s E (X11_moveRow_2 E m) a (nI r) (nI s) (nI c) w.1 = _
    unfold X11_moveRow_2_s
    have hcn : gfI w.1 a 9 1 = some (nI S.1) := h.cnt
    rw [ob_e hcn, if_pos (nI_le (show S.1 ≤ c by omega) (by omega))]
  | succ k ih =>
    intro c m w hc hm h
    obtain ⟨m, rfl⟩ : ∃ q, m = q + 1 := ⟨m - 1, by omega⟩
    have hcn : gfI w.1 a 9 1 = some (nI S.1) := h.cnt
    have hcc := h.at (show c < 6 by omega)
    obtain ⟨w1, e1, F1, C1⟩ := hcc.move (hr c (by omega)) (hs c (by omega)) (J := Jc j c) Jc_k
    have h1 := h.colup (x := (fun c y => opMv r s y) c (S.2.1 c)) F1 C1
    rw [mapC_s (fun c y => opMv r s y)] at h1
    obtain ⟨w2, e2, F2, h2⟩ := ih (c + 1) m w1 (by omega) (by omega) h1
    refine ⟨w2, ?_, (F1.mono Jc_s).trans F2, h2⟩
    show X11_moveRow_2_s E (X11_moveRow_2 E m) a (nI r) (nI s) (nI c) w.1 = _
    unfold X11_moveRow_2_s
    rw [ob_e hcn, if_neg (nI_ge (show c < S.1 by omega) (by omega)), ob_e h.tab, ob_e (h.ref (by omega)), ob_e (h.ccl (by omega)), ob_e e1, ← nI_succ]
    exact e2
theorem sh_loop {E : gE} {a j q : Nat} {S : gT} (hC : S.1 ≤ 6) (hr : ∀ c, c < S.1 → q ≤ (S.2.1 c).1) : ∀ (k c m : Nat) (w : gWd), c + k = S.1 → k < m → RS E w a j (mapC (fun c y => opSh q y) c S) →
    ∃ w' : gWd, X11_shorten_2 E m a (nI q) (nI c) w.1 = some w'.1 ∧ FS E (Js j) w w' ∧ RS E w' a j (mapC (fun c y => opSh q y) S.1 S) := by
  intro k
  induction k with
  | zero =>
    intro c m w hc hm h
    obtain ⟨m, rfl⟩ : ∃ q, m = q + 1 := ⟨m - 1, by omega⟩
    refine ⟨w, ?_, FS.rf, by rw [show S.1 = c by omega]; exact h⟩
    show X11_shorten_2_s E (X11_shorten_2 E m) a (nI q) (nI c) w.1 = _
    unfold X11_shorten_2_s
    have hcn : gfI w.1 a 9 1 = some (nI S.1) := h.cnt
    rw [ob_e hcn, if_pos (nI_le (show S.1 ≤ c by omega) (by omega))]
  | succ k ih =>
    intro c m w hc hm h
    obtain ⟨m, rfl⟩ : ∃ q, m = q + 1 := ⟨m - 1, by omega⟩
    have hcn : gfI w.1 a 9 1 = some (nI S.1) := h.cnt
    have hcc := h.at (show c < 6 by omega)
    obtain ⟨w1, e1, F1, C1⟩ := hcc.shorten (hr c (by omega)) (J := Jc j c) Jc_k
    have h1 := h.colup (x := (fun c y => opSh q y) c (S.2.1 c)) F1 C1
    rw [mapC_s (fun c y => opSh q y)] at h1
    obtain ⟨w2, e2, F2, h2⟩ := ih (c + 1) m w1 (by omega) (by omega) h1
    refine ⟨w2, ?_, (F1.mono Jc_s).trans F2, h2⟩
    show X11_shorten_2_s E (X11_shorten_2 E m) a (nI q) (nI c) w.1 = _
    unfold X11_shorten_2_s
    rw [ob_e hcn, if_neg (nI_ge (show c < S.1 by omega) (by omega)), ob_e h.tab, ob_e (h.ref (by omega)), ob_e (h.ccl (by omega)), ob_e e1, ← nI_succ]
    exact e2
theorem ap_loop2 {E : gE} {a j cl f0 : Nat} {z : Nat → Int32} {S : gT} (hC : S.1 ≤ 6) (hN : 100000 ≤ gN E) (hj : j < 11) (hr : ∀ c, c < S.1 → (S.2.1 c).1 < 60) (hz : ∀ c, c < S.1 → vIn (z (f0 + c))) (hfz : f0 + S.1 < 2 ^ 31) (w0 : gWd) (hcl : ∀ w, FS E (Js j) w0 w → ∀ c, c < S.1 → graI E 0 w.1 cl (nI (f0 + c)) = some (z (f0 + c))) : ∀ (k c m : Nat) (w : gWd) (x : Nat), c + k = S.1 → k < m → RM E w x → FS E (Js j) w0 w → RS E w a j (mapC (fun c y => opAp (z (f0 + c)) y) c S) →
    ∃ w' : gWd, X11_appendRow_2 E m a cl (nI f0) (nI c) w.1 = some w'.1 ∧ FS E (Js j) w w' ∧ RS E w' a j (mapC (fun c y => opAp (z (f0 + c)) y) S.1 S) := by
  intro k
  induction k with
  | zero =>
    intro c m w x hc hm hR hw0 h
    obtain ⟨m, rfl⟩ : ∃ q, m = q + 1 := ⟨m - 1, by omega⟩
    refine ⟨w, ?_, FS.rf, by rw [show S.1 = c by omega]; exact h⟩
    show X11_appendRow_2_s E (X11_appendRow_2 E m) a cl (nI f0) (nI c) w.1 = _
    unfold X11_appendRow_2_s
    have hcn : gfI w.1 a 9 1 = some (nI S.1) := h.cnt
    rw [ob_e hcn, if_pos (nI_le (show S.1 ≤ c by omega) (by omega))]
  | succ k ih =>
    intro c m w x hc hm hR hw0 h
    obtain ⟨m, rfl⟩ : ∃ q, m = q + 1 := ⟨m - 1, by omega⟩
    have hcn : gfI w.1 a 9 1 = some (nI S.1) := h.cnt
    have hcc := h.at (show c < 6 by omega)
    obtain ⟨w1, e1, F1, C1⟩ := hcc.append hN (hr c (by omega)) (hz c (by omega)) hj (by omega) hR (J := Jc j c) Jc_k
    have h1 := h.colup (x := (fun c y => opAp (z (f0 + c)) y) c (S.2.1 c)) F1 C1
    rw [mapC_s (fun c y => opAp (z (f0 + c)) y)] at h1
    obtain ⟨w2, e2, F2, h2⟩ := ih (c + 1) m w1 x (by omega) (by omega) (F1.2.2.2 x hR) (hw0.trans (F1.mono Jc_s)) h1
    refine ⟨w2, ?_, (F1.mono Jc_s).trans F2, h2⟩
    show X11_appendRow_2_s E (X11_appendRow_2 E m) a cl (nI f0) (nI c) w.1 = _
    unfold X11_appendRow_2_s
    rw [ob_e hcn, if_neg (nI_ge (show c < S.1 by omega) (by omega)), ob_e h.tab, ob_e (h.ref (by omega)), nI_add, ob_e (hcl w hw0 c (by omega)), ob_e (h.ccl (by omega)), ob_e e1, ← nI_succ]
    exact e2
theorem RS.mv {E : gE} {w : gWd} {a j r s : Nat} {S : gT} (hN : 100000 ≤ gN E) (h : RS E w a j S) (hC : S.1 ≤ 6) (hr : ∀ c, c < S.1 → r < (S.2.1 c).1) (hs : ∀ c, c < S.1 → s < (S.2.1 c).1) :
    ∃ w' : gWd, X11_moveRow_f E a (nI r) (nI s) w.1 = some w'.1 ∧ FS E (Js j) w w' ∧ RS E w' a j (mapC (fun _ y => opMv r s y) S.1 S) :=
  mv_loop hC hr hs S.1 0 (gN E) w (by omega) (by omega) (by rw [mapC_0]; exact h)
theorem RS.sh {E : gE} {w : gWd} {a j q : Nat} {S : gT} (hN : 100000 ≤ gN E) (h : RS E w a j S) (hC : S.1 ≤ 6) (hr : ∀ c, c < S.1 → q ≤ (S.2.1 c).1) :
    ∃ w' : gWd, X11_shorten_f E a (nI q) w.1 = some w'.1 ∧ FS E (Js j) w w' ∧ RS E w' a j (mapC (fun _ y => opSh q y) S.1 S) :=
  sh_loop hC hr S.1 0 (gN E) w (by omega) (by omega) (by rw [mapC_0]; exact h)
theorem RS.ap {E : gE} {w : gWd} {a j cl f0 x : Nat} {z : Nat → Int32} {S : gT} (hN : 100000 ≤ gN E) (h : RS E w a j S) (hC : S.1 ≤ 6) (hj : j < 11) (hr : ∀ c, c < S.1 → (S.2.1 c).1 < 60) (hz : ∀ c, c < S.1 → vIn (z (f0 + c))) (hfz : f0 + S.1 < 2 ^ 31) (hcl : ∀ w', FS E (Js j) w w' → ∀ c, c < S.1 → graI E 0 w'.1 cl (nI (f0 + c)) = some (z (f0 + c))) (hR : RM E w x) :
    ∃ w' : gWd, X11_appendRow_f E a cl (nI f0) w.1 = some w'.1 ∧ FS E (Js j) w w' ∧ RS E w' a j (mapC (fun c y => opAp (z (f0 + c)) y) S.1 S) :=
  ap_loop2 hC hN hj hr hz hfz w hcl S.1 0 (gN E) w x (by omega) (by omega) hR FS.rf (by rw [mapC_0]; exact h)
theorem re_loop {E : gE} {a j b n : Nat} {s : Nat → Nat} {S : gT} (hN : 100000 ≤ gN E) (hC : S.1 ≤ 6) (hj : j < 20) (hn : ∀ c, c < S.1 → (S.2.1 c).1 = n) (hs : ∀ k, k < n → s k < n) : ∀ (k c m : Nat) (w : gWd), c + k = S.1 → k < m → RO E w b n s → RS E w a j (mapC (fun _ y => opRe s y) c S) →
    ∃ w' : gWd, X11_reorder_2 E m a b (nI c) w.1 = some w'.1 ∧ FS E (fun t => t.2.1 = j ∨ t.2 = (20, 0)) w w' ∧ RO E w' b n s ∧ RS E w' a j (mapC (fun _ y => opRe s y) S.1 S) := by
  intro k
  induction k with
  | zero =>
    intro c m w hc hm hO h
    obtain ⟨m, rfl⟩ : ∃ q, m = q + 1 := ⟨m - 1, by omega⟩
    refine ⟨w, ?_, FS.rf, hO, by rw [show S.1 = c by omega]; exact h⟩
    show X11_reorder_2_s E (X11_reorder_2 E m) a b (nI c) w.1 = _
    unfold X11_reorder_2_s
    have hcn : gfI w.1 a 9 1 = some (nI S.1) := h.cnt
    rw [ob_e hcn, if_pos (nI_le (show S.1 ≤ c by omega) (by omega))]
  | succ k ih =>
    intro c m w hc hm hO h
    obtain ⟨m, rfl⟩ : ∃ q, m = q + 1 := ⟨m - 1, by omega⟩
    have hcn : gfI w.1 a 9 1 = some (nI S.1) := h.cnt
    have hcc := h.at (show c < 6 by omega)
    rw [hn c (by omega)] at hcc
    obtain ⟨w1, e1, F1, O1, C1⟩ := RC.reorder hN hO hcc hs (fun z => by have := congrArg Prod.fst z; simp only at this; omega)
    have h1 : RS E w1 a j (setC (mapC (fun _ y => opRe s y) c S) c (opRe s (S.2.1 c))) := by
      obtain ⟨g1, ⟨g, g2, g3⟩, g4, g5⟩ := h
      have hno : ∀ κ c', κ ≠ 7 ∨ c' ≠ c → ¬ (((κ, j, c') : Nat × Nat × Nat).2 = (20, 0) ∨ ((κ, j, c') : Nat × Nat × Nat) = (7, j, c)) := by
        intro κ c' hk z
        rcases z with z | z
        · have := congrArg Prod.fst z; simp only at this; omega
        · have z1 := congrArg Prod.fst z; have z2 := congrArg (fun t => t.2.2) z; simp only at z1 z2; omega
      refine ⟨g1.fr F1 (hno _ _ (Or.inl (by decide))), ⟨g, g2.fr F1 (hno _ _ (Or.inl (by decide))), g3⟩, g4.fr F1 (fun κ q1 q2 => hno _ _ (Or.inl (by omega))), fun c' hc' => ?_⟩
      show RC E w1 (a + 6 + 4 * c') j c' (if c' = c then opRe s (S.2.1 c) else (mapC (fun _ y => opRe s y) c S).2.1 c').1 (if c' = c then opRe s (S.2.1 c) else (mapC (fun _ y => opRe s y) c S).2.1 c').2.1 (if c' = c then opRe s (S.2.1 c) else (mapC (fun _ y => opRe s y) c S).2.1 c').2.2
      by_cases hz : c' = c
      · rw [if_pos hz, hz]
        unfold opRe
        dsimp only
        rw [hn c (by omega)]
        exact C1
      · rw [if_neg hz]
        exact (g5 c' hc').fr F1 (fun κ _ => hno _ _ (Or.inr hz))
    rw [mapC_s (fun _ y => opRe s y)] at h1
    obtain ⟨w2, e2, F2, O2, h2⟩ := ih (c + 1) m w1 (by omega) (by omega) O1 h1
    refine ⟨w2, ?_, (F1.mono (fun t e => e.elim Or.inr (fun z => Or.inl (by rw [z])))).trans F2, O2, h2⟩
    show X11_reorder_2_s E (X11_reorder_2 E m) a b (nI c) w.1 = _
    unfold X11_reorder_2_s
    rw [ob_e hcn, if_neg (nI_ge (show c < S.1 by omega) (by omega)), ob_e h.tab, ob_e (h.ref (by omega)), ob_e (h.ccl (by omega)), ob_e e1, ← nI_succ]
    exact e2
theorem RS.re {E : gE} {w : gWd} {a j b n : Nat} {s : Nat → Nat} {S : gT} (hN : 100000 ≤ gN E) (hO : RO E w b n s) (h : RS E w a j S) (hC : S.1 ≤ 6) (hj : j < 20) (hn : ∀ c, c < S.1 → (S.2.1 c).1 = n) (hs : ∀ k, k < n → s k < n) :
    ∃ w' : gWd, X11_reorder_f E a b w.1 = some w'.1 ∧ FS E (fun t => t.2.1 = j ∨ t.2 = (20, 0)) w w' ∧ RO E w' b n s ∧ RS E w' a j (mapC (fun _ y => opRe s y) S.1 S) :=
  re_loop hN hC hj hn hs S.1 0 (gN E) w (by omega) (by omega) hO (by rw [mapC_0]; exact h)
/-- store U copied over S -/
def cpT (U S : gT) : gT := (U.1, fun c => if c < U.1 then U.2.1 c else S.2.1 c, U.2.2)
theorem cp_loop {E : gE} {a b j j' x : Nat} {S U : gT} (hC : U.1 ≤ 6) (hj : j < 11) (hne : ¬ j' = j) : ∀ (k c m : Nat) (w : gWd), c + k = U.1 → k < m → RM E w x → RS E w a j (U.1, fun c' => if c' < c then U.2.1 c' else S.2.1 c', S.2.2) → RS E w b j' U →
    ∃ w' : gWd, X11_copyFrom_10 E m a b (nI c) w.1 = some w'.1 ∧ FS E (Js j) w w' ∧ RS E w' a j (cpT U S) := by
  have hx : ∀ κ c' : Nat, ¬ Js j (κ, j', c') := fun κ c' z => hne z
  intro k
  induction k with
  | zero =>
    intro c m w hc hm hR h hU
    obtain ⟨m, rfl⟩ : ∃ q, m = q + 1 := ⟨m - 1, by omega⟩
    obtain ⟨w1, e1, F1, R1⟩ := RF.copy hne h.2.2.1 hU.2.2.1 (J := fun t => t.2 = (j, 0) ∧ 2 ≤ t.1 ∧ t.1 < 6) (fun κ q1 q2 => ⟨rfl, q1, q2⟩)
    refine ⟨w1, ?_, F1.mono (fun t z => by show t.2.1 = j; rw [z.1]), ?_⟩
    · show X11_copyFrom_10_s E (X11_copyFrom_10 E m) a b (nI c) w.1 = _
      unfold X11_copyFrom_10_s
      have hcn : gfI w.1 a 9 1 = some (nI U.1) := h.cnt
      rw [ob_e hcn, if_pos (nI_le (show U.1 ≤ c by omega) (by omega)), ob_e h.fil, ob_e hU.fil, ob_e h.fcl, ob_e e1]
    · obtain ⟨g1, ⟨g, g2, g3⟩, g4, g5⟩ := h
      refine ⟨g1.fr F1 (fun z => by have := z.2.1; simp at this), ⟨g, g2.fr F1 (fun z => by have := z.2.1; simp at this), g3⟩, R1, fun c' hc' => ?_⟩
      have := (g5 c' hc').fr F1 (fun κ q1 z => by have : κ < 6 := z.2.2; omega)
      rw [show c = U.1 by omega] at this
      exact this
  | succ k ih =>
    intro c m w hc hm hR h hU
    obtain ⟨m, rfl⟩ : ∃ q, m = q + 1 := ⟨m - 1, by omega⟩
    have hcn : gfI w.1 a 9 1 = some (nI U.1) := h.cnt
    have hcc := h.2.2.2 c (by omega)
    have hcu := hU.2.2.2 c (by omega)
    obtain ⟨w1, e1, F1, C1⟩ := RC.copy (fun z => hne (congrArg Prod.fst z)) hcc hcu hj (by omega) hR (J := Jc j c) Jc_k
    have h1 := h.colup (x := U.2.1 c) F1 C1
    have h1' : RS E w1 a j (U.1, fun c' => if c' < c + 1 then U.2.1 c' else S.2.1 c', S.2.2) := by
      have e : setC ((U.1, fun c' => if c' < c then U.2.1 c' else S.2.1 c', S.2.2) : gT) c (U.2.1 c) = (U.1, fun c' => if c' < c + 1 then U.2.1 c' else S.2.1 c', S.2.2) := by
        unfold setC
        simp only
        congr 2
        funext c'
        by_cases hz : c' = c
        · rw [if_pos hz, if_pos (by omega), hz]
        · rw [if_neg hz]
          by_cases h2 : c' < c
          · rw [if_pos h2, if_pos (by omega)]
          · rw [if_neg h2, if_neg (by omega)]
      rw [e] at h1
      exact h1
    obtain ⟨w2, e2, F2, h2⟩ := ih (c + 1) m w1 (by omega) (by omega) (F1.2.2.2 x hR) h1' (hU.fr F1 (fun κ c' z => hne (congrArg Prod.fst z.1)))
    refine ⟨w2, ?_, (F1.mono Jc_s).trans F2, h2⟩
    show X11_copyFrom_10_s E (X11_copyFrom_10 E m) a b (nI c) w.1 = _
    unfold X11_copyFrom_10_s
    rw [ob_e hcn, if_neg (nI_ge (show c < U.1 by omega) (by omega)), ob_e h.tab, ob_e (h.ref (by omega)), ob_e hU.tab, ob_e (hU.ref (by omega)), ob_e (h.ccl (by omega)), ob_e e1, ← nI_succ]
    exact e2
theorem RS.copy {E : gE} {w : gWd} {a b j j' x : Nat} {S U : gT} (hN : 100000 ≤ gN E) (h : RS E w a j S) (hU : RS E w b j' U) (hC : U.1 ≤ 6) (hj : j < 11) (hne : ¬ j' = j) (hR : RM E w x) :
    ∃ w' : gWd, X11_copyFrom_f E a b w.1 = some w'.1 ∧ FS E (Js j) w w' ∧ RS E w' a j (cpT U S) := by
  obtain ⟨g1, ⟨g, g2, g3⟩, g4, g5⟩ := h
  obtain ⟨e1, O1, F1⟩ := g1.put (E := E) 1 (.int (nI U.1)) (Nat.le_of_ble_eq_true rfl) (J := fun t => t = (0, j, 0)) rfl
  have hno : ∀ κ c, κ ≠ 0 → ¬ ((κ, j, c) : Nat × Nat × Nat) = (0, j, 0) := fun κ c hk z => hk (congrArg Prod.fst z)
  have h1 : RS E (wUp w a (.inr (9, [Value.ref (a + 1), .int (nI S.1), .ref (a + 2)].set 1 (.int (nI U.1))))) a j (U.1, fun c' => if c' < 0 then U.2.1 c' else S.2.1 c', S.2.2) :=
    ⟨O1, ⟨g, g2.fr F1 (hno _ _ (by decide)), g3⟩, g4.fr F1 (fun κ q1 q2 => hno _ _ (by omega)), fun c hc => (g5 c hc).fr F1 (fun κ q1 => hno _ _ (by omega))⟩
  obtain ⟨w2, e2, F2, h2⟩ := cp_loop hC hj hne U.1 0 (gN E) _ (by omega) (by omega) (F1.2.2.2 x hR) h1 (hU.fr F1 (fun κ c z => hne (congrArg (fun t => t.2.1) z)))
  refine ⟨w2, ?_, (F1.mono (fun t z => by show t.2.1 = j; rw [z])).trans F2, h2⟩
  unfold X11_copyFrom_f X11_copyFrom
  rw [ob_e hU.cnt, ob_e e1]
  exact e2
