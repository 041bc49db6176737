/-! the law: the snapshot; all rounds -/
theorem allG_1 (S : gT) : allG S 1 = nI (tR S) := by
  have h1 : ∀ c, (aCols S c).2 1 = nI (tR S) := by
    intro c
    induction c with
    | zero =>
      show upd (upd (upd (fun _ => 0) 0 (nI S.1)) 1 (nI (tR S))) 2 (nI (tK S)) 1 = _
      rw [pk_un (by omega), pk_us]
    | succ c ih =>
      have h := aCols_at S c
      show fb_put (fb_put (upd (aCols S c).2 (aCols S c).1 (nI (dsz (tD S c)))) (tV S c) ((aCols S c).1 + 1) (tR S)) (evf S c) ((aCols S c).1 + 1 + tR S) (dsz (tD S c)) 1 = _
      rw [fb_put_out (.inl (by omega)), fb_put_out (.inl (by omega)), pk_un (by omega), ih]
  have h2 : ∀ i, (aCons S i).2 1 = nI (tR S) := by
    intro i
    induction i with
    | zero => exact h1 S.1
    | succ i ih =>
      have h := aCons_at S i
      show upd (upd (upd (aCons S i).2 (aCons S i).1 (nI (tFc S i))) ((aCons S i).1 + 1) (tFv S i)) ((aCons S i).1 + 1 + 1) (tFd S i) 1 = _
      rw [pk_un (by omega), pk_un (by omega), pk_un (by omega), ih]
  exact h2 (tK S)
section LI2
variable {E : gE} {l b a0 y : Nat} {ad : Nat → Nat} {Q Q' : gQ} {w w' : gWd}
theorem nxt_U (o : Option gT) : qU (nxt Q o) = qU Q ∧ qH (nxt Q o) = qH Q := by
  cases o with
  | none => exact ⟨rfl, rfl⟩
  | some S' => exact ⟨rfl, rfl⟩
theorem lw_373 (hO : gOK E) {S0 : gT} (hI0 : IS S0) {q : Nat} (hq : q ≠ b) : ∀ (d i m : Nat) (w : gWd) (Q : gQ), i + d = 5 → d < m → LI E l ad b a0 (3500 * d + 500) w Q → qH Q = true → TE S0 (qU Q) → ArI E w tL q (allN S0) (allG S0) →
    ∃ w2 : gWd, L_law_373 E m a0 l b q (nI i) w.1 = some (1, w2.1) := by
  have hN := hO.1
  have hr60 := hI0.1.2.2.2.1
  have h3 : 3 ≤ allN S0 := by unfold allN; omega
  have hall := hI0.all
  intro d
  induction d with
  | zero =>
    intro i m w Q hi hm h hH hT hA
    obtain ⟨m, rfl⟩ : ∃ q, m = q + 1 := ⟨m - 1, by omega⟩
    obtain ⟨w1, e1, K1, h1'⟩ := K_restoreSnapshot hN h.1 h.2.2.1 (h.rw (by omega)).2 hH
    have hT1 : TE S0 (cpT (qU Q) (qS Q)) := hT.tr (TE.cp _ _)
    have h1 := h.kk K1 h1' (hT1.xI hI0) (h.2.2.1.rest hH) h.2.2.2.1
    have A1 := hA.fp (KK.kp (P := fun _ => False) K1).1 (fun z => z)
    obtain ⟨w2, q', e2, K2, h2, A2, -⟩ := LI.all (y := 1) hO (h1.dn (by omega))
    have hS2 : qS (cpT (qU Q) (qS Q), qU Q, qH Q, (qX Q, 0, qR Q), Q.2.2.2.2) = cpT (qU Q) (qS Q) := rfl
    rw [hS2, hT1.xN hI0.1.1, hT1.xG hI0.1.1] at A2
    have al := K_alike hN hall A2 (A1.fp K2.1 (fun z => z))
    have r1 : graI E 0 w1.1 q (1 : Int32) = some (nI (tR S0)) := by
      have := A1.2.2.ld (i := 1) (by omega) (by omega)
      rw [allG_1] at this
      exact this
    refine ⟨w2, ?_⟩
    show L_law_373_s E (L_law_373 E m) a0 l b q (nI i) w.1 = _
    unfold L_law_373_s
    rw [if_pos (show (5 : Int32) ≤ nI i from (le_lit (a := 5) (by omega) (by omega)).mpr (by omega)), ob_e h.1.cl, ob_e e1, gtry_r, ob_e r1, if_pos (by rw [hT.xR hI0.1.1]), ob_e e2]
    show ob (L_alike_f E w2.1 q' q) _ = _
    rw [ob_e al, if_neg (by decide)]
    show ob (gcl w2.1 l 10) _ = _
    rw [ob_e h2.1.cl, ob_e (h2.undoable hO)]
    exact if_pos rfl
  | succ d ih =>
    intro i m w Q hi hm h hH hT hA
    obtain ⟨m, rfl⟩ : ∃ q, m = q + 1 := ⟨m - 1, by omega⟩
    obtain ⟨v, ev⟩ := h.cell (i := 36 + i) (by omega)
    obtain ⟨w1, Q1, e1, K1, h1, q1⟩ := LI.act (y := 3500 * d + 500) hO (h.dn (by omega)) v
    obtain ⟨u1, u2⟩ := nxt_U (Q := Q) (aT (qS Q) v)
    have hU : qU Q1 = qU Q := q1.2.1.trans u1
    have hH1 : qH Q1 = true := (q1.2.2.1.trans u2).trans hH
    obtain ⟨w2, e2⟩ := ih (i + 1) m w1 Q1 (by omega) (by omega) h1 hH1 (by rw [hU]; exact hT) (hA.fp K1.1 hq)
    refine ⟨w2, ?_⟩
    show L_law_373_s E (L_law_373 E m) a0 l b q (nI i) w.1 = _
    unfold L_law_373_s
    rw [if_neg (show ¬ (5 : Int32) ≤ nI i from fun z => by
      have := (le_lit (a := 5) (by omega) (by omega)).mp z
      omega), show (36 : Int32) + nI i = nI (36 + i) from nI_add 36 i, ob_e ev, ob_e e1, if_neg (show ¬ (1 : Int32) = 0 by decide)]
    show L_law_373 E m a0 l b q (nI i + 1) w1.1 = _
    rw [← nI_succ]
    exact e2
/-- all rounds -/
theorem lw_181 (hO : gOK E) : ∀ (d i m : Nat) (w : gWd) (Q : gQ), i + d = 36 → d < m → LI E l ad b a0 (8610 * d + 20000) w Q → ∃ w2 : gWd, L_law_181 E m a0 l b (nI i) w.1 = some (1, w2.1) := by
  have hN := hO.1
  intro d
  induction d with
  | zero =>
    intro i m w Q hi hm h
    obtain ⟨m, rfl⟩ : ∃ q, m = q + 1 := ⟨m - 1, by omega⟩
    obtain ⟨w1, e1, F1, h1'⟩ := K_saveSnapshot hN h.1 h.2.2.1 (h.rw (by omega)).2
    have h1 := h.kk (F1.kk h.1.pos) h1' (show IS (qS Q) from h.2.1) h.2.2.1.save h.2.2.2.1
    obtain ⟨w2, q, e2, K2, h2, A2, ne⟩ := LI.all (y := 19000) hO (h1.dn (by omega))
    obtain ⟨w3, e3⟩ := lw_373 hO (S0 := qS Q) h.2.1 ne 5 0 (gN E) w2 _ (by omega) (by omega) (h2.dn (by omega)) rfl (TE.cp _ _) A2
    refine ⟨w3, ?_⟩
    show L_law_181_s E (L_law_181 E m) a0 l b (nI i) w.1 = _
    unfold L_law_181_s
    rw [if_pos (show (36 : Int32) ≤ nI i from (le_lit (a := 36) (by omega) (by omega)).mpr (by omega)), ob_e h.1.cl, ob_e e1, ob_e e2]
    exact e3
  | succ d ih =>
    intro i m w Q hi hm h
    obtain ⟨m, rfl⟩ : ∃ q, m = q + 1 := ⟨m - 1, by omega⟩
    obtain ⟨v, ev⟩ := h.cell (i := 8 + i % 28) (by omega)
    have kk : ∀ w' Q', LI E l ad b a0 (8610 * d + 20000) w' Q' → ∃ w2 : gWd, L_law_181 E m a0 l b (nI (i + 1)) w'.1 = some (1, w2.1) := fun w' Q' h' => ih (i + 1) m w' Q' (by omega) (by omega) h'
    have hc8 : (8 : Int32) + (nI i - nI i / (28 : Int32) * (28 : Int32)) = nI (8 + i % 28) := by
      rw [show nI i - nI i / (28 : Int32) * (28 : Int32) = nI (i % 28) from pk_rem (d := 28) (by omega) (by omega) (by omega)]
      exact nI_add 8 _
    have h36 : ¬ (36 : Int32) ≤ nI i := fun z => by
      have := (le_lit (a := 36) (by omega) (by omega)).mp z
      omega
    have e3 : nI i - nI i / (3 : Int32) * (3 : Int32) = nI (i % 3) := pk_rem (d := 3) (by omega) (by omega) (by omega)
    by_cases c : i % 3 = 0
    · obtain ⟨w1, e1, -, h1⟩ := h.lg (K_areColumns hN h.2.2.1 (h.rw (by omega)))
      obtain ⟨w2, e2⟩ := lw_224 (y := 8610 * d + 20000) (r := L_law_181 E m) (i := i) hO (by omega) (v >>> (((nI i / (28 : Int32)) * (2 : Int32)) &&& 31)) (h1.dn (by omega)) kk
      refine ⟨w2, ?_⟩
      show L_law_181_s E (L_law_181 E m) a0 l b (nI i) w.1 = _
      unfold L_law_181_s
      rw [if_neg h36, hc8, ob_e ev, if_pos (by rw [e3, c]; rfl), ob_e e1, if_neg (show ¬ (1 : Int32) = 0 by decide)]
      exact e2
    · obtain ⟨w2, e2⟩ := lw_224 (y := 8610 * d + 20000) (r := L_law_181 E m) (i := i) hO (by omega) (v >>> (((nI i / (28 : Int32)) * (2 : Int32)) &&& 31)) (h.dn (by omega)) kk
      refine ⟨w2, ?_⟩
      show L_law_181_s E (L_law_181 E m) a0 l b (nI i) w.1 = _
      unfold L_law_181_s
      rw [if_neg h36, hc8, ob_e ev, if_neg (fun z => by
        rw [e3] at z
        exact c ((nI_eqI (b := 0) (by omega) (by omega)).mp z))]
      exact e2
end LI2
