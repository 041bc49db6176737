/-! pure: the reference's order of rows -/
theorem sg_wr {b : Bool} {x y : Int32} (hx : vIn x) (hy : vIn y) : (if b = true then (1 : Int32) else -1) * x ≤ (if b = true then (1 : Int32) else -1) * y ↔ gwr b x y = false := by
  have h1 := hx.1
  have h2 := hx.2
  have h3 := hy.1
  have h4 := hy.2
  unfold gwr
  cases b with
  | true =>
    rw [if_pos rfl, if_pos rfl, sg_le (Or.inl rfl) ⟨by omega, by omega⟩ ⟨by omega, by omega⟩, show (1 : Int32).toInt = 1 from rfl, decide_eq_false_iff_not, fa_lt]
    omega
  | false =>
    rw [if_neg (by decide), if_neg (by decide), sg_le (Or.inr rfl) ⟨by omega, by omega⟩ ⟨by omega, by omega⟩, show (-1 : Int32).toInt = -1 from rfl, decide_eq_false_iff_not, fa_lt]
    omega
section MM
variable {E : gE} {w : gWd} {m k ro : Nat} {fi : Nat → Int32} {G : Nat → Nat → Int32} {S : gT}
theorem MS.f0 (h : MS E w m ro fi G) : gfR w.1 m 11 0 = some (m + 1) := gfR_o h.1.2.2 rfl
theorem MS.f1 (h : MS E w m ro fi G) : gfR w.1 m 11 1 = some (m + 2) := gfR_o h.1.2.2 rfl
theorem MS.f2 (h : MS E w m ro fi G) : gfR w.1 m 11 2 = some (m + 3) := gfR_o h.1.2.2 rfl
theorem MS.f3 (h : MS E w m ro fi G) : gfR w.1 m 11 3 = some (m + 4) := gfR_o h.1.2.2 rfl
theorem MS.f4 (h : MS E w m ro fi G) : gfR w.1 m 11 4 = some (m + 5) := gfR_o h.1.2.2 rfl
theorem MS.f5 (h : MS E w m ro fi G) : gfR w.1 m 11 5 = some (m + 6) := gfR_o h.1.2.2 rfl
theorem MS.f6 (h : MS E w m ro fi G) : gfR w.1 m 11 6 = some (m + 7) := gfR_o h.1.2.2 rfl
theorem MS.f7 (h : MS E w m ro fi G) : gfR w.1 m 11 7 = some (m + 8) := gfR_o h.1.2.2 rfl
theorem MS.f14 (h : MS E w m ro fi G) : gfR w.1 m 11 14 = some (m + 9) := gfR_o h.1.2.2 rfl
theorem MS.f16 (h : MS E w m ro fi G) : gfR w.1 m 11 16 = some (m + 10) := gfR_o h.1.2.2 rfl
theorem MS.f26 (h : MS E w m ro fi G) : gfR w.1 m 11 26 = some (m + 11) := gfR_o h.1.2.2 rfl
theorem MS.f27 (h : MS E w m ro fi G) : gfR w.1 m 11 27 = some (m + 12) := gfR_o h.1.2.2 rfl
theorem MS.q (h : MS E w m (m + k) fi G) (hk : k = 1 ∨ k = 2) (hT : MT (G k) S) (hG : GS S) : mQ E w.1 m (m + k) (G k) S := by
  refine ⟨⟨h.cl, h.row, fun i hi => h.ld k (by omega) (by omega) ?_⟩, hT, hG⟩
  rcases hk with rfl | rfl <;> exact hi
theorem po_in {c src : Nat} {b : Bool} (hk : k = 1 ∨ k = 2) (hc : c < S.1) (hG : GS S) (hsrc : src < tR S) {r2 : Nat → Int32 → Int32 → Int32 → gS → Option gS} : ∀ (x q : Nat) (w : gWd) (G : Nat → Nat → Int32) (s : Nat → Nat), x ≤ src → x < q → MS E w m (m + k) fi G → MT (G k) S → (∀ i, i ≤ src → i ≠ x → G 6 i = nI (s i)) → (∀ i, i ≤ src → s i < tR S) → ∃ w' G', X13_putInOrder_15 E r2 q m (nI c) (if b = true then (1 : Int32) else -1) (nI src) (nI x) w.1 = r2 m (nI c) (if b = true then (1 : Int32) else -1) (nI (src + 1)) w'.1 ∧ FS E J30 w w' ∧ MS E w' m (m + k) fi G' ∧ (∀ j, j ≠ 6 → G' j = G j) ∧ ∀ i, i ≤ src → G' 6 i = nI (sIn (fun x y => gwr b (tV S c x) (tV S c y)) src x s i) := by
  have hR : tR S ≤ 60 := hG.2.2.2.1
  have hk6 : k ≠ 6 := by omega
  intro x
  induction x with
  | zero =>
    intro q w G s hx hq h hT hA hs
    obtain ⟨q, rfl⟩ : ∃ z, q = z + 1 := ⟨q - 1, by omega⟩
    obtain ⟨w1, e1, F1, h1⟩ := h.st 6 (i := 0) (by omega) (by omega) (by decide) (nI src)
    refine ⟨w1, _, ?_, F1, h1, fun j hj => updG_o _ _ hj, fun i hi => ?_⟩
    · show X13_putInOrder_15_s E r2 (X13_putInOrder_15 E r2 q) m (nI c) _ (nI src) (nI 0) w.1 = _
      unfold X13_putInOrder_15_s X13_putInOrder_69
      rw [if_pos (by decide), ob_e h.f5, ob_e e1, ← nI_succ]
    · rw [updG_s]
      unfold upd sIn updN
      by_cases e : i = 0
      · rw [if_pos e, if_pos e]
      · rw [if_neg e, if_neg e]
        exact hA i hi e
  | succ x ih =>
    intro q w G s hx hq h hT hA hs
    obtain ⟨q, rfl⟩ : ∃ z, q = z + 1 := ⟨q - 1, by omega⟩
    have hQ := h.q hk hT hG
    have hsx := hs x (by omega)
    have r5 : graI E 0 w.1 (m + 6) (nI x) = some (nI (s x)) := by
      rw [h.ld 6 (by omega) (by omega) (show x < mz 6 from Nat.lt_of_lt_of_le (show x < 60 by omega) (by decide)), hA x (by omega) (by omega)]
    have hcond := sg_wr (b := b) (hG.2.2.2.2.1 c (s x) hc hsx).1 (hG.2.2.2.2.1 c src hc hsrc).1
    have hmz : x + 1 < mz 6 := Nat.lt_of_lt_of_le (show x + 1 < 60 by omega) (by decide)
    cases hw : gwr b (tV S c (s x)) (tV S c src) with
    | false =>
      obtain ⟨w1, e1, F1, h1⟩ := h.st 6 (i := x + 1) (by omega) (by omega) hmz (nI src)
      refine ⟨w1, _, ?_, F1, h1, fun j hj => updG_o _ _ hj, fun i hi => ?_⟩
      · show X13_putInOrder_15_s E r2 (X13_putInOrder_15 E r2 q) m (nI c) _ (nI src) (nI (x + 1)) w.1 = _
        unfold X13_putInOrder_15_s X13_putInOrder_69
        rw [if_neg (nI_nle (by omega) (by omega)), ob_e h.f5, nI_sub1 (by omega), Nat.add_sub_cancel, ob_e r5, ob_e hQ.cl, ob_e (hQ.at hc hsx), ob_e hQ.cl, ob_e (hQ.at hc hsrc), if_pos (hcond.mpr hw), ob_e h.f5, ob_e e1, ← nI_succ src]
      · rw [updG_s]
        unfold sIn
        rw [hw, if_neg (by decide)]
        unfold upd updN
        by_cases e : i = x + 1
        · rw [if_pos e, if_pos e]
        · rw [if_neg e, if_neg e]
          exact hA i hi e
    | true =>
      obtain ⟨w1, e1, F1, h1⟩ := h.st 6 (i := x + 1) (by omega) (by omega) hmz (nI (s x))
      obtain ⟨w2, G2, e2, F2, h2, g2, o2⟩ := ih q w1 _ (updN s (x + 1) (s x)) (by omega) (by omega) h1 (by rw [updG_o _ _ hk6]; exact hT) (fun i hi hx2 => by
        rw [updG_s]
        unfold upd updN
        by_cases e : i = x + 1
        · rw [if_pos e, if_pos e]
        · rw [if_neg e, if_neg e]
          exact hA i hi e) (fun i hi => by
        unfold updN
        split
        · exact hsx
        · exact hs i hi)
      refine ⟨w2, G2, ?_, F1.trans F2, h2, fun j hj => (g2 j hj).trans (updG_o _ _ hj), fun i hi => ?_⟩
      · show X13_putInOrder_15_s E r2 (X13_putInOrder_15 E r2 q) m (nI c) _ (nI src) (nI (x + 1)) w.1 = _
        unfold X13_putInOrder_15_s
        rw [if_neg (nI_nle (by omega) (by omega)), ob_e h.f5, nI_sub1 (by omega), Nat.add_sub_cancel, ob_e r5, ob_e hQ.cl, ob_e (hQ.at hc hsx), ob_e hQ.cl, ob_e (hQ.at hc hsrc), if_neg (fun z => by rw [hcond.mp z] at hw; exact absurd hw (by decide)), ob_e h.f5, ob_e h.f5, ob_e r5, ob_e e1, nI_dec]
        exact e2
      · rw [o2 i hi]
        show _ = nI ((if gwr b (tV S c (s x)) (tV S c src) = true then sIn (fun x y => gwr b (tV S c x) (tV S c y)) src x (updN s (x + 1) (s x)) else updN s (x + 1) src) i)
        rw [hw, if_pos rfl]
theorem MS.putO (h : MS E w m (m + k) fi G) (hN : 100000 ≤ gN E) (hk : k = 1 ∨ k = 2) (hT : MT (G k) S) (hG : GS S) {c : Nat} (hc : c < S.1) (b : Bool) : ∃ w' G', X13_putInOrder_f E m (nI c) (if b = true then (1 : Int32) else -1) w.1 = some w'.1 ∧ FS E J30 w w' ∧ MS E w' m (m + k) fi G' ∧ (∀ j, j ≠ 6 → G' j = G j) ∧ ∀ i, i < tR S → G' 6 i = nI (gord S c b i) := by
  have hR : tR S ≤ 60 := hG.2.2.2.1
  have hk6 : k ≠ 6 := by omega
  unfold X13_putInOrder_f X13_putInOrder
  have hl := lpe (F := fun q (a : gWd × (Nat → Nat → Int32)) r => X13_putInOrder_2 E q m (nI c) (if b = true then (1 : Int32) else -1) (nI r) a.1.1) (I := fun r a => FS E J30 w a.1 ∧ MS E a.1 m (m + k) fi a.2 ∧ (∀ j, j ≠ 6 → a.2 j = G j) ∧ ∀ i, i < r → a.2 6 i = nI (sSort (fun x y => gwr b (tV S c x) (tV S c y)) r i)) (O := fun a => some a.1.1) (n := tR S) (fun q r a hr hI => ?_) (fun q a hI => ?_) (tR S) 0 (gN E) (w, G) (by omega) (by omega) ⟨FS.rf, h, fun _ _ => rfl, fun i hi => absurd hi (Nat.not_lt_zero _)⟩
  · obtain ⟨a, e1, F1, h1, g1, o1⟩ := hl
    exact ⟨a.1, a.2, e1, F1, h1, g1, o1⟩
  · obtain ⟨F0, h0, g0, o0⟩ := hI
    have hT0 : MT (a.2 k) S := by rw [g0 k hk6]; exact hT
    have hQ := h0.q hk hT0 hG
    obtain ⟨w1, G1, e1, F1, h1, g1, o1⟩ := po_in (b := b) (r2 := X13_putInOrder_2 E q) hk hc hG hr r (gN E) a.1 a.2 (sSort (fun x y => gwr b (tV S c x) (tV S c y)) r) (Nat.le_refl _) (by omega) h0 hT0 (fun i hi hx => o0 i (by omega)) (fun i hi => sSort_lt _ r (by omega) i (by omega))
    refine ⟨(w1, G1), ?_, F0.trans F1, h1, fun j hj => (g1 j hj).trans (g0 j hj), fun i hi => o1 i (by omega)⟩
    show X13_putInOrder_2_s E (X13_putInOrder_2 E q) m (nI c) _ (nI r) a.1.1 = _
    unfold X13_putInOrder_2_s
    rw [ob_e hQ.r, ob_e hQ.n1, if_neg (nI_ge hr (by omega))]
    exact e1
  · obtain ⟨F0, h0, g0, o0⟩ := hI
    have hQ := h0.q hk (by rw [g0 k hk6]; exact hT) hG
    show X13_putInOrder_2_s E (X13_putInOrder_2 E q) m (nI c) _ (nI (tR S)) a.1.1 = _
    unfold X13_putInOrder_2_s
    rw [ob_e hQ.r, ob_e hQ.n1, if_pos (nI_le (Nat.le_refl _) (by omega))]
theorem MS.runsO (h : MS E w m (m + k) fi G) (hN : 100000 ≤ gN E) (hk : k = 1 ∨ k = 2) (hT : MT (G k) S) (hG : GS S) {c : Nat} (hc : c < S.1) {s : Nat → Nat} (hO : ∀ i, i < tR S → G 6 i = nI (s i)) (hs : ∀ i, i < tR S → s i < tR S) : X13_runsInOrder_f E w.1 m (nI c) = some (nI (gruns (tV S c) s (tR S))) := by
  have hR : tR S ≤ 60 := hG.2.2.2.1
  have hQ := h.q hk hT hG
  have r5 : ∀ i, i < tR S → graI E 0 w.1 (m + 6) (nI i) = some (nI (s i)) := fun i hi => by
    rw [h.ld 6 (by omega) (by omega) (Nat.lt_of_lt_of_le (show i < 60 by omega) (by decide)), hO i hi]
  unfold X13_runsInOrder_f X13_runsInOrder X13_runsInOrder_14 gruns
  rw [ob_e hQ.r, ob_e hQ.n1]
  by_cases h0 : tR S = 0
  · obtain ⟨q, hq⟩ : ∃ q, gN E = q + 1 := ⟨gN E - 1, by omega⟩
    rw [h0, if_pos (by decide), hq]
    show X13_runsInOrder_17_s E w.1 (X13_runsInOrder_17 E w.1 q) m (nI c) 0 1 = _
    unfold X13_runsInOrder_17_s
    rw [ob_e hQ.r, ob_e hQ.n1, h0, if_pos (by decide)]
    rfl
  · rw [if_neg (nI_nle (by omega) (by omega))]
    refine lp (F := fun q a r => X13_runsInOrder_17 E w.1 q m (nI c) (nI a) (nI (r + 1))) (s := fun r => fb_ct (fun k => decide (k = 0 ∨ tV S c (s k) ≠ tV S c (s (k - 1)))) (r + 1)) (n := tR S - 1) (fun q r hr => ?_) (fun q => ?_) (tR S - 1) 0 (gN E) (by omega) (by omega)
    · show X13_runsInOrder_17_s E w.1 (X13_runsInOrder_17 E w.1 q) m (nI c) _ (nI (r + 1)) = _
      unfold X13_runsInOrder_17_s X13_runsInOrder_60
      rw [ob_e hQ.r, ob_e hQ.n1, if_neg (nI_ge (by omega) (by omega)), ob_e h.f5, ob_e (r5 (r + 1) (by omega)), ob_e hQ.cl, ob_e (hQ.at hc (hs _ (by omega))), ob_e h.f5, nI_sub1 (by omega), Nat.add_sub_cancel, ob_e (r5 r (by omega)), ob_e hQ.cl, ob_e (hQ.at hc (hs _ (by omega))), fb_ct_succ _ (r + 1), ← nI_succ (r + 1), Nat.add_sub_cancel]
      by_cases e : tV S c (s (r + 1)) = tV S c (s r)
      · rw [if_pos e, i_p0, decide_eq_false (by rintro (z | z); omega; exact z e), if_neg (by decide)]
        rfl
      · rw [if_neg e, nI_1, decide_eq_true (Or.inr e), if_pos rfl]
    · show X13_runsInOrder_17_s E w.1 (X13_runsInOrder_17 E w.1 q) m (nI c) _ (nI (tR S - 1 + 1)) = _
      unfold X13_runsInOrder_17_s
      rw [ob_e hQ.r, ob_e hQ.n1, if_pos (nI_le (by omega) (by omega)), show tR S - 1 + 1 = tR S by omega]
theorem MS.runsBy (h : MS E w m (m + k) fi G) (hN : 100000 ≤ gN E) (hk : k = 1 ∨ k = 2) (hT : MT (G k) S) (hG : GS S) {c : Nat} (hc : c < S.1) : ∃ w' G', X13_runsBy_f E m (nI c) w.1 = some (nI (grby S c), w'.1) ∧ FS E J30 w w' ∧ MS E w' m (m + k) fi G' ∧ ∀ j, j ≠ 6 → G' j = G j := by
  have hC : S.1 ≤ 6 := hG.2.1
  have hk6 : k ≠ 6 := by omega
  obtain ⟨w1, G1, e1, F1, h1, g1, o1⟩ := h.putO hN hk hT hG hc true
  have hT1 : MT (G1 k) S := by rw [g1 k hk6]; exact hT
  have hQ := h1.q hk hT1 hG
  refine ⟨w1, G1, ?_, F1, h1, g1⟩
  unfold X13_runsBy_f X13_runsBy grby
  rw [ob_e h.cl]
  rw [if_pos rfl] at e1
  rw [ob_e e1]
  refine lp (F := fun q a o => X13_runsBy_10 E q m (nI a) (nI o) w1.1) (s := fun o => fb_sm (fun o => gruns (tV S o) (gord S c true) (tR S)) o) (n := S.1) (fun q o ho => ?_) (fun q => ?_) S.1 0 (gN E) (by omega) (by omega)
  · show X13_runsBy_10_s E (X13_runsBy_10 E q) m _ (nI o) w1.1 = _
    unfold X13_runsBy_10_s
    rw [ob_e hQ.r, ob_e hQ.n0, if_neg (nI_ge ho (by omega)), ob_e hQ.cl, ob_e (h1.runsO hN hk hT1 hG ho o1 (fun i hi => gord_lt _ _ _ hi)), nI_add, fb_sm_succ, ← nI_succ]
  · show X13_runsBy_10_s E (X13_runsBy_10 E q) m _ (nI S.1) w1.1 = _
    unfold X13_runsBy_10_s
    rw [ob_e hQ.r, ob_e hQ.n0, if_pos (nI_le (Nat.le_refl _) (by omega))]
theorem MS.bestC (h : MS E w m (m + k) fi G) (hN : 100000 ≤ gN E) (hk : k = 1 ∨ k = 2) (hT : MT (G k) S) (hG : GS S) : ∃ w' G', X13_bestSortColumn_9 E (gN E) m 0 1 w.1 = some (nI (gbsc S S.1), w'.1) ∧ FS E J30 w w' ∧ MS E w' m (m + k) fi G' ∧ ∀ j, j ≠ 6 → G' j = G j := by
  have hC : S.1 ≤ 6 := hG.2.1
  have hC1 : 1 ≤ S.1 := hG.1
  have hk6 : k ≠ 6 := by omega
  have hl := lpe (F := fun q (a : gWd × (Nat → Nat → Int32)) r => X13_bestSortColumn_9 E q m (nI (gbsc S (r + 1))) (nI (r + 1)) a.1.1) (I := fun r a => FS E J30 w a.1 ∧ MS E a.1 m (m + k) fi a.2 ∧ ∀ j, j ≠ 6 → a.2 j = G j) (O := fun a => some (nI (gbsc S S.1), a.1.1)) (n := S.1 - 1) (fun q r a hr hI => ?_) (fun q a hI => ?_) (S.1 - 1) 0 (gN E) (w, G) (by omega) (by omega) ⟨FS.rf, h, fun _ _ => rfl⟩
  · obtain ⟨a, e1, F1, h1, g1⟩ := hl
    exact ⟨a.1, a.2, e1, F1, h1, g1⟩
  · obtain ⟨F0, h0, g0⟩ := hI
    have hT0 : MT (a.2 k) S := by rw [g0 k hk6]; exact hT
    have hQ := h0.q hk hT0 hG
    have hbl := gbsc_lt S (r + 1) (by omega)
    obtain ⟨w1, G1, e1, F1, h1, g1⟩ := h0.runsBy hN hk hT0 hG (c := r + 1) (by omega)
    have hT1 : MT (G1 k) S := by rw [g1 k hk6]; exact hT0
    obtain ⟨w2, G2, e2, F2, h2, g2⟩ := h1.runsBy hN hk hT1 hG (c := gbsc S (r + 1)) (by omega)
    refine ⟨(w2, G2), ?_, (F0.trans F1).trans F2, h2, fun j hj => ((g2 j hj).trans (g1 j hj)).trans (g0 j hj)⟩
    have hg : gbsc S (r + 1 + 1) = if r + 1 = 0 then 0 else if grby S (r + 1) < grby S (gbsc S (r + 1)) then r + 1 else gbsc S (r + 1) := rfl
    have b1 := grby_le hG (r + 1)
    have b2 := grby_le hG (gbsc S (r + 1))
    show X13_bestSortColumn_9_s E (X13_bestSortColumn_9 E q) m (nI (gbsc S (r + 1))) (nI (r + 1)) a.1.1 = X13_bestSortColumn_9 E q m (nI (gbsc S (r + 1 + 1))) (nI (r + 1 + 1)) w2.1
    unfold X13_bestSortColumn_9_s X13_bestSortColumn_37
    rw [ob_e hQ.r, ob_e hQ.n0, if_neg (nI_ge (by omega) (by omega)), ob_e hQ.cl, ob_e e1, ob_e h1.cl, ob_e e2, hg, if_neg (show ¬ r + 1 = 0 by omega), ← nI_succ (r + 1)]
    by_cases hlt : grby S (r + 1) < grby S (gbsc S (r + 1))
    · rw [if_neg (nI_ge hlt (by omega)), if_pos hlt]
    · rw [if_pos (nI_le (by omega) (by omega)), if_neg hlt]
  · obtain ⟨F0, h0, g0⟩ := hI
    have hQ := h0.q hk (by rw [g0 k hk6]; exact hT) hG
    show X13_bestSortColumn_9_s E (X13_bestSortColumn_9 E q) m _ (nI (S.1 - 1 + 1)) a.1.1 = _
    unfold X13_bestSortColumn_9_s
    rw [ob_e hQ.r, ob_e hQ.n0, if_pos (nI_le (by omega) (by omega)), show S.1 - 1 + 1 = S.1 by omega]
end MM
theorem mQ.gap2 {E : gE} {σ : gS} {m ro : Nat} {g : Nat → Int32} {S : gT} (h : mQ E σ m ro g S) (hN : 100000 ≤ gN E) {r : Nat} (hr : r < tR S) {r9 : Nat → Int32 → Int32 → gS → Option (Int32 × gS)} : X13_gap_42 E r9 (gN E) m 0 (nI r) 0 σ = r9 m 0 (nI (r + 1)) σ := by
  have hC := h.C
  refine lp (F := fun q (_ : Unit) c => X13_gap_42 E r9 q m 0 (nI r) (nI c) σ) (s := fun _ => ()) (n := S.1) (fun q c hc => ?_) (fun q => ?_) S.1 0 (gN E) (by omega) (by omega)
  · obtain ⟨hv, hd⟩ := h.G.2.2.2.2.1 c r hc hr
    show X13_gap_42_s E r9 (X13_gap_42 E r9 q) m 0 (nI r) (nI c) σ = _
    unfold X13_gap_42_s X13_gap_78
    rw [ob_e h.r, ob_e h.n0, if_neg (nI_ge hc (by omega)), ob_e h.cl, ob_e (h.code hN hc hr), ob_e h.cl, ob_e (h.valOf hN hc (px_lt hv) hd rfl), ob_e h.cl, ob_e (h.at hc hr), if_pos (xp_px hv), i_p0, ← nI_succ]
  · show X13_gap_42_s E r9 (X13_gap_42 E r9 q) m 0 (nI r) (nI S.1) σ = _
    unfold X13_gap_42_s
    rw [ob_e h.r, ob_e h.n0, if_pos (nI_le (Nat.le_refl _) (by omega)), ← nI_succ]
theorem mQ.gap {E : gE} {σ : gS} {m ro : Nat} {g : Nat → Int32} {S : gT} (h : mQ E σ m ro g S) (hN : 100000 ≤ gN E) : X13_gap_9 E (gN E) m 0 0 σ = some (0, σ) := by
  have hR := h.R
  refine lp (F := fun q (_ : Unit) r => X13_gap_9 E q m 0 (nI r) σ) (s := fun _ => ()) (n := tR S) (fun q r hr => ?_) (fun q => ?_) (tR S) 0 (gN E) (by omega) (by omega)
  · show X13_gap_9_s E (X13_gap_9 E q) m 0 (nI r) σ = _
    unfold X13_gap_9_s X13_gap_38
    rw [ob_e h.r, ob_e h.n1, if_neg (nI_ge hr (by omega)), ob_e h.cl, ob_e (h.sel hN hr), ob_e h.cl, ob_e (h.selc hN hr), if_pos rfl, i_p0]
    exact h.gap2 hN hr
  · show X13_gap_9_s E (X13_gap_9 E q) m 0 (nI (tR S)) σ = _
    unfold X13_gap_9_s
    rw [ob_e h.r, ob_e h.n1, if_pos (nI_le (Nat.le_refl _) (by omega))]
