/-! the law: the rounds -/
def cv (n : Nat) (g : Nat → Int32) (i : Nat) : Int32 := if n ≤ i then (37 : Int32) * nI i else g i
theorem K_cell {E : gE} {σ : gS} {a0 n i : Nat} {g : Nat → Int32} (hr : gro E a0 = true) (hg : gcs E a0 = .inl (0, n, .inl g)) (hn : n < 2 ^ 31) (hi : i < 2 ^ 31) : L_cell_f E σ a0 (nI i) = some (cv n g i) := by
  unfold L_cell_f L_cell cv
  rw [ob_e (ro_len hr hg)]
  by_cases c : n ≤ i
  · rw [if_pos (nI_le c hi), if_pos c]
  · rw [if_neg (nI_ge (by omega) hn), if_neg c, ob_e (ro_ld hr hg (by omega) hn)]
def LI (E : gE) (l : Nat) (ad : Nat → Nat) (b a0 y : Nat) (w : gWd) (Q : gQ) : Prop :=
  RK E w l ad Q ∧ IS (qS Q) ∧ GQ Q ∧ qN Q = 0 ∧ (∃ g, ArI E w tL b 6 g ∧ ∀ j, j < 6 → g j = 0) ∧ (∃ n g, n < 2 ^ 31 ∧ gro E a0 = true ∧ gcs E a0 = .inl (0, n, .inl g)) ∧ RM E w y
section LIS
variable {E : gE} {l b a0 y : Nat} {ad : Nat → Nat} {Q Q' : gQ} {w w' : gWd}
theorem LI.dn {y' : Nat} (h : LI E l ad b a0 y w Q) (hy : y' ≤ y) : LI E l ad b a0 y' w Q := by
  obtain ⟨h1, h2, h3, h4, h5, h6, h8⟩ := h
  exact ⟨h1, h2, h3, h4, h5, h6, h8.dn hy⟩
theorem LI.kk (h : LI E l ad b a0 y w Q) (K : KK E JK w w') (h1 : RK E w' l ad Q') (h2 : IS (qS Q')) (h3 : GQ Q') (h4 : qN Q' = 0) : LI E l ad b a0 y w' Q' := by
  obtain ⟨-, -, -, -, ⟨g, hA, hz⟩, h6, hR⟩ := h
  have F := (KK.kp (P := fun _ => False) K)
  exact ⟨h1, h2, h3, h4, ⟨g, hA.fp F.1 (fun z => z), hz⟩, h6, K.2 _ hR⟩
theorem LI.rw (h : LI E l ad b a0 y w Q) (hy : 1 ≤ y) : RW E l ad Q w := ⟨h.1, h.2.2.2.2.2.2.dn hy⟩
theorem LI.cell (h : LI E l ad b a0 y w Q) {i : Nat} (hi : i < 2 ^ 31) : ∃ v, L_cell_f E w.1 a0 (nI i) = some v := by
  obtain ⟨-, -, -, -, -, ⟨n, g0, hn, hr, hc⟩, -⟩ := h
  exact ⟨_, K_cell hr hc hn hi⟩
theorem LI.lg {f : Option (Int32 × gS)} (h : LI E l ad b a0 y w Q) (hf : LG E l ad Q 1 w f) : ∃ w', f = some (1, w'.1) ∧ KP E (fun a => a = b) 0 w w' ∧ LI E l ad b a0 y w' Q := by
  obtain ⟨w', e, K, h'⟩ := hf
  exact ⟨w', e, KK.kp K, h.kk K h' h.2.1 h.2.2.1 h.2.2.2.1⟩
theorem LI.act (hO : gOK E) (h : LI E l ad b a0 (y + 3500) w Q) (x : Int32) : ∃ w' Q', L_act_f E l b x w.1 = some (1, w'.1) ∧ KP E (fun a => a = b) 3500 w w' ∧ LI E l ad b a0 y w' Q' ∧ qs Q' (nxt Q (aT (qS Q) x)) := by
  obtain ⟨h1, h2, h3, h4, ⟨g, hA, hz⟩, h6, hR⟩ := h
  obtain ⟨w', Q', g', e, K, r1, r2, r3, r4, r5, r6⟩ := K_act (y := y) hO h2 h3 h4 h1 hR hA hz x
  refine ⟨w', Q', e, K, ⟨r1, ?_, r6, r5, ⟨g', r2, r3⟩, h6, K.2 _ hR⟩, r4⟩
  have e1 : qS Q' = qS (nxt Q (aT (qS Q) x)) := r4.1
  rw [e1]
  cases c : aT (qS Q) x with
  | none => exact h2
  | some S' => exact aT_ok h2 c
theorem LI.all (hO : gOK E) (h : LI E l ad b a0 (y + 401) w Q) : ∃ w' q, L_all_f E l w.1 = some (q, w'.1) ∧ KP E (fun _ => False) 400 w w' ∧ LI E l ad b a0 (y + 1) w' Q ∧ ArI E w' tL q (allN (qS Q)) (allG (qS Q)) ∧ q ≠ b := by
  obtain ⟨h1, h2, h3, h4, ⟨g, hA, hz⟩, h6, hR⟩ := h
  obtain ⟨w', q, e, K, r1, r2, r3⟩ := K_all hO.1 h3 h2.all h1 (hR.dn (by omega))
  have hb := hA.2.1
  exact ⟨w', q, e, K, ⟨r1, h2, h3, h4, ⟨g, hA.fp K.1 (fun z => z), hz⟩, h6, K.2 _ (hR.dn (by omega))⟩, r2, by omega⟩
theorem LI.undoable (hO : gOK E) (h : LI E l ad b a0 y w Q) : X12_undoableCount_f E w.1 l = some (nI (qZ Q)) := K_undoableCount hO.1 h.1 h.2.2.1
/-- the end of a round -/
theorem lw_326 (hO : gOK E) {r : Nat → Nat → Nat → Int32 → gS → Option (Int32 × gS)} {i q1 q2 Z : Nat} (hZ : Z ≤ 8) (h : LI E l ad b a0 y w Q)
    (ha : qZ Q = Z → Z < 8 → L_alike_f E w.1 q1 q2 = some 1) (kk : ∃ w2 : gWd, r a0 l b (nI (i + 1)) w.1 = some (1, w2.1)) :
    ∃ w2 : gWd, L_law_326 E r a0 l b (nI i) q1 (nI Z) q2 w.1 = some (1, w2.1) := by
  obtain ⟨w2, e⟩ := kk
  have hz8 := h.2.2.1.2.2.2.2.2.2.1
  have e354 : L_law_354 E r a0 l b (nI i) w.1 = some (1, w2.1) := by
    unfold L_law_354
    rw [← nI_succ]
    exact e
  refine ⟨w2, ?_⟩
  unfold L_law_326
  rw [ob_e h.1.cl, ob_e (h.undoable hO)]
  by_cases c : qZ Q = Z
  · rw [if_pos (by rw [c])]
    by_cases c8 : Z < 8
    · rw [if_neg (show ¬ (8 : Int32) ≤ nI Z from fun z => by
        have := (le_lit (a := 8) (k := Z) (by omega) (by omega)).mp z
        omega), ob_e (ha c c8), if_neg (by decide)]
      exact e354
    · rw [if_pos (show (8 : Int32) ≤ nI Z from (le_lit (a := 8) (k := Z) (by omega) (by omega)).mpr (by omega))]
      exact e354
  · rw [if_neg (fun z => c ((nI_eqI (by omega) (by omega)).mp z))]
    exact e354
theorem qs_Z {A B : gQ} (h : qs A B) : qZ A = qZ B := by
  show A.2.2.2.1.2.1 = _
  rw [h.2.2.2]
/-- a round, behind areColumns -/
theorem lw_224 (hO : gOK E) {r : Nat → Nat → Nat → Int32 → gS → Option (Int32 × gS)} {i : Nat} (hi : i < 36) (x : Int32) (h : LI E l ad b a0 (y + 8610) w Q)
    (kk : ∀ w' Q', LI E l ad b a0 y w' Q' → ∃ w2 : gWd, r a0 l b (nI (i + 1)) w'.1 = some (1, w2.1)) :
    ∃ w2 : gWd, L_law_224 E r a0 l b (nI i) x w.1 = some (1, w2.1) := by
  have hN := hO.1
  obtain ⟨w1, e1, -, h1⟩ := h.lg (K_isFilter hN h.2.2.1 (h.rw (by omega)))
  obtain ⟨w2, q1, e2, K2, h2, A2, ne1⟩ := LI.all (y := y + 8201) hO (h1.dn (by omega))
  obtain ⟨w3, Q3, e3, K3, h3, q3⟩ := LI.act (y := y + 4701) hO (h2.dn (by omega)) x
  obtain ⟨w4, q2, e4, K4, h4, B4, ne2⟩ := LI.all (y := y + 4300) hO (h3.dn (by omega))
  have A4 := (A2.fp K3.1 ne1).fp K4.1 (fun z => z)
  have hZ8 := h.2.2.1.2.2.2.2.2.2.1
  have hX8 := h.2.2.1.2.2.2.2.2.1
  have hZ8' := h4.2.2.1.2.2.2.2.2.2.1
  have hz := qs_Z q3
  have hall := h.2.1.all
  have hgo : ∀ X : Option (Int32 × gS), (if nI (qZ Q3) = nI (qZ Q) + (1 : Int32) then
        (if (nI i - nI i / (3 : Int32) * (3 : Int32)) = 0 then ob (gcl w4.1 l 10) fun _ => ob (X12_undo_f E l w4.1) fun x38 => gtry x38 (fun _ _ => none) (fun x42 σ41 => if x42 = nI (qZ Q) then ob (L_all_f E l σ41) fun x43 => ob (L_alike_f E x43.2 x43.1 q1) fun x45 => if x45 = 0 then L_law_324 E x43.2 else ob (L_act_f E l b x x43.2) fun x47 => if x47.1 = 0 then L_law_324 E x47.2 else ob (L_all_f E l x47.2) fun x49 => ob (L_alike_f E x49.2 x49.1 q2) fun x51 => if x51 = 0 then L_law_324 E x49.2 else L_law_326 E r a0 l b (nI i) q1 (nI (qZ Q)) q2 x49.2 else L_law_324 E σ41)
        else L_law_326 E r a0 l b (nI i) q1 (nI (qZ Q)) q2 w4.1)
      else L_law_326 E r a0 l b (nI i) q1 (nI (qZ Q)) q2 w4.1) = X → L_law_224 E r a0 l b (nI i) x w.1 = X := by
    intro X hX
    rw [← hX]
    unfold L_law_224
    rw [ob_e e1, if_neg (show ¬ (1 : Int32) = 0 by decide)]
    show ob (L_all_f E l w1.1) _ = _
    rw [ob_e e2]
    show ob (gcl w2.1 l 10) _ = _
    rw [ob_e h2.1.cl, ob_e (h2.undoable hO), ob_e e3, if_neg (show ¬ (1 : Int32) = 0 by decide)]
    show ob (L_all_f E l w3.1) _ = _
    rw [ob_e e4]
    show ob (gcl w4.1 l 10) _ = _
    rw [ob_e h4.1.cl, ob_e (h4.undoable hO)]
  have h326 : (qZ Q3 = qZ Q → qZ Q < 8 → L_alike_f E w4.1 q1 q2 = some 1) → ∃ w2 : gWd, L_law_326 E r a0 l b (nI i) q1 (nI (qZ Q)) q2 w4.1 = some (1, w2.1) := fun ha =>
    lw_326 hO hZ8 h4 ha (kk _ _ (h4.dn (by omega)))
  cases hc : aT (qS Q) x with
  | none =>
    rw [hc] at q3 hz
    have hzz : qZ Q3 = qZ Q := hz
    have eS : qS Q3 = qS Q := q3.1
    rw [eS] at B4
    obtain ⟨w9, e9⟩ := h326 (fun _ _ => K_alike hN hall A4 B4)
    refine ⟨w9, hgo _ ?_⟩
    rw [if_neg (show ¬ nI (qZ Q3) = nI (qZ Q) + (1 : Int32) from fun z => by
      rw [← nI_succ] at z
      have := (nI_eqI (by omega) (by omega)).mp z
      omega)]
    exact e9
  | some S' =>
    rw [hc] at q3 hz
    have hzz : qZ Q3 = min (qZ Q + 1) 8 := hz
    obtain ⟨w9, e9⟩ := h326 (fun _ _ => by omega)
    by_cases c1 : qZ Q = 8
    · refine ⟨w9, hgo _ ?_⟩
      rw [if_neg (show ¬ nI (qZ Q3) = nI (qZ Q) + (1 : Int32) from fun z => by
        rw [← nI_succ] at z
        have := (nI_eqI (by omega) (by omega)).mp z
        omega)]
      exact e9
    · have hz1 : qZ Q3 = qZ Q + 1 := by omega
      have hif : nI (qZ Q3) = nI (qZ Q) + (1 : Int32) := by rw [hz1]; exact nI_succ _
      by_cases c3 : i % 3 = 0
      · -- taken back, and done once more
        have hteU := undo_TE (Q := Q) hX8 q3
        obtain ⟨w5, e5, K5, h5'⟩ := K_undo hN h4.1 h4.2.2.1 (h4.rw (by omega)).2 (by omega)
        have hG5 := h4.2.2.1.undo (show 0 < qZ Q3 by omega)
        have h5 := h4.kk K5 h5' (hteU.xI h.2.1) hG5 h4.2.2.2.1
        have z5 : qZ (cpT (qR Q3 ((qX Q3 + 7) % 8)) (qS Q3), qU Q3, qH Q3, ((qX Q3 + 7) % 8, qZ Q3 - 1, qR Q3), Q3.2.2.2.2) = qZ Q := by
          show qZ Q3 - 1 = qZ Q
          omega
        have s5 : qS (cpT (qR Q3 ((qX Q3 + 7) % 8)) (qS Q3), qU Q3, qH Q3, ((qX Q3 + 7) % 8, qZ Q3 - 1, qR Q3), Q3.2.2.2.2) = cpT (qR Q3 ((qX Q3 + 7) % 8)) (qS Q3) := rfl
        have e5' : X12_undo_f E l w4.1 = some (Sum.inr (nI (qZ Q)), w5.1) := by
          rw [e5, show qZ Q3 - 1 = qZ Q by omega]
        rw [← s5] at hteU
        generalize (cpT (qR Q3 ((qX Q3 + 7) % 8)) (qS Q3), qU Q3, qH Q3, ((qX Q3 + 7) % 8, qZ Q3 - 1, qR Q3), Q3.2.2.2.2) = Q5 at h5 z5 hteU
        have F5 := (KK.kp (P := fun _ => False) K5).1
        obtain ⟨w6, q3', e6, K6, h6, A6, ne3⟩ := LI.all (y := y + 3900) hO (h5.dn (by omega))
        have hGS1 := h.2.1.1.1
        rw [hteU.xN hGS1, hteU.xG hGS1] at A6
        have al1 := K_alike hN hall A6 ((A4.fp F5 (fun z => z)).fp K6.1 (fun z => z))
        have B6 := (B4.fp F5 (fun z => z)).fp K6.1 (fun z => z)
        obtain ⟨w7, Q7, e7, K7, h7, q7⟩ := LI.act (y := y + 401) hO (h6.dn (by omega)) x
        have B7 := B6.fp K7.1 ne2
        obtain ⟨T, T', t1, t2, t3⟩ : ∃ T T', aT (qS Q) x = some T ∧ aT (qS Q5) x = some T' ∧ TE T T' := by
          rcases hteU.xT h.2.1.1 x with ⟨z, -⟩ | z
          · rw [hc] at z; cases z
          · exact z
        have eT : T = S' := by
          rw [hc] at t1
          exact (Option.some.inj t1).symm
        rw [t2] at q7
        have e7S : qS Q7 = T' := q7.1
        have e3S : qS Q3 = S' := q3.1
        have hIS' := aT_ok h.2.1 hc
        obtain ⟨w8, q4, e8, K8, h8, A8, ne4⟩ := LI.all (y := y) hO (h7.dn (by omega))
        rw [eT] at t3
        rw [e7S, t3.xN hIS'.1.1, t3.xG hIS'.1.1] at A8
        rw [e3S] at B7
        have al2 := K_alike hN hIS'.all A8 (B7.fp K8.1 (fun z => z))
        have z7 : qZ Q7 = qZ Q + 1 := by
          have := qs_Z q7
          have e : qZ (nxt Q5 (some T')) = min (qZ Q5 + 1) 8 := rfl
          omega
        obtain ⟨w10, e10⟩ := lw_326 (r := r) (i := i) (q1 := q1) (q2 := q2) hO hZ8 h8 (fun _ _ => by omega) (kk _ _ (h8.dn (by omega)))
        refine ⟨w10, hgo _ ?_⟩
        rw [if_pos hif, if_pos (show (nI i - nI i / (3 : Int32) * (3 : Int32)) = 0 by
          rw [show nI i - nI i / (3 : Int32) * (3 : Int32) = nI (i % 3) from pk_rem (d := 3) (by omega) (by omega) (by omega), c3]
          rfl), ob_e h4.1.cl, ob_e e5', gtry_r, if_pos rfl, ob_e e6]
        show ob (L_alike_f E w6.1 q3' q1) _ = _
        rw [ob_e al1, if_neg (by decide)]
        show ob (L_act_f E l b x w6.1) _ = _
        rw [ob_e e7, if_neg (show ¬ (1 : Int32) = 0 by decide)]
        show ob (L_all_f E l w7.1) _ = _
        rw [ob_e e8]
        show ob (L_alike_f E w8.1 q4 q2) _ = _
        rw [ob_e al2, if_neg (by decide)]
        exact e10
      · refine ⟨w9, hgo _ ?_⟩
        rw [if_pos hif, if_neg (show ¬ (nI i - nI i / (3 : Int32) * (3 : Int32)) = 0 from fun z => by
          rw [show nI i - nI i / (3 : Int32) * (3 : Int32) = nI (i % 3) from pk_rem (d := 3) (by omega) (by omega) (by omega)] at z
          exact c3 ((nI_eqI (b := 0) (by omega) (by omega)).mp z))]
        exact e9
end LIS
