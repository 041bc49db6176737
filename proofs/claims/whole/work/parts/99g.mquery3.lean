/-! pure: the reference's questions on its row: runs, conditions, selections -/
theorem dsel_ct {p : Nat → Bool} {v : Nat → Int32} : ∀ n, (∀ r, r < n → vIn (v r)) → dsz (dsel p v n) = fb_ct (fun r => p r && !dsel p v r (px (v r))) n
  | 0, _ => dsz_none
  | n + 1, hv => by
    have ih := dsel_ct (p := p) n fun r hr => hv r (by omega)
    rw [fb_ct_succ, ← ih, dsel_s]
    cases hp : p n with
    | false =>
      rw [if_neg (by decide), Bool.false_and, if_neg (by decide), Nat.add_zero]
    | true =>
      rw [if_pos (by decide : true = true), Bool.true_and]
      cases hb : dsel p v n (px (v n)) with
      | true => rw [dins_same hb, if_neg (by decide), Nat.add_zero]
      | false =>
        unfold dsz
        rw [dins_ct hb, if_pos (px_lt (hv n (by omega))), if_pos (by decide : (!false) = true)]
theorem dm_in {f : Nat → Bool} {v : Int32} (h : vIn v) : dmem f v = f (px v) := by
  unfold dmem
  rw [decide_eq_true (show -9999 ≤ v.toInt ∧ v.toInt ≤ 9999 from h), Bool.true_and]
section MM
variable {E : gE} {σ : gS} {m ro : Nat} {g : Nat → Int32} {S : gT}
theorem mQ.runs (h : mQ E σ m ro g S) (hN : 100000 ≤ gN E) {c : Nat} (hc : c < S.1) : X13_countRuns_f E σ m (nI c) = some (nI (gruns (tV S c) (fun k => k) (tR S))) := by
  have hR := h.R
  unfold X13_countRuns_f X13_countRuns X13_countRuns_14 gruns
  rw [ob_e h.r, ob_e h.n1]
  by_cases h0 : tR S = 0
  · obtain ⟨q, hq⟩ : ∃ q, gN E = q + 1 := ⟨gN E - 1, by omega⟩
    rw [h0, if_pos (by decide), hq]
    show X13_countRuns_17_s E σ (X13_countRuns_17 E σ q) m (nI c) 0 1 = _
    unfold X13_countRuns_17_s
    rw [ob_e h.r, ob_e h.n1, h0, if_pos (by decide)]
    rfl
  · rw [if_neg (nI_nle (by omega) (by omega))]
    refine lp (F := fun q a k => X13_countRuns_17 E σ q m (nI c) (nI a) (nI (k + 1))) (s := fun r => fb_ct (fun k => decide (k = 0 ∨ tV S c k ≠ tV S c (k - 1))) (r + 1)) (n := tR S - 1) (fun q r hr => ?_) (fun q => ?_) (tR S - 1) 0 (gN E) (by omega) (by omega)
    · show X13_countRuns_17_s E σ (X13_countRuns_17 E σ q) m (nI c) _ (nI (r + 1)) = _
      unfold X13_countRuns_17_s X13_countRuns_50
      rw [ob_e h.r, ob_e h.n1, if_neg (nI_ge (by omega) (by omega)), ob_e h.cl, ob_e (h.at hc (by omega)), ob_e h.cl, nI_sub1 (by omega), Nat.add_sub_cancel, ob_e (h.at hc (by omega)), fb_ct_succ _ (r + 1), ← nI_succ (r + 1), Nat.add_sub_cancel]
      by_cases e : tV S c (r + 1) = tV S c r
      · rw [if_pos e, i_p0, decide_eq_false (by rintro (z | z); omega; exact z e), if_neg (by decide)]
        rfl
      · rw [if_neg e, nI_1, decide_eq_true (Or.inr e), if_pos rfl]
    · show X13_countRuns_17_s E σ (X13_countRuns_17 E σ q) m (nI c) _ (nI (tR S - 1 + 1)) = _
      unfold X13_countRuns_17_s
      rw [ob_e h.r, ob_e h.n1, if_pos (nI_le (by omega) (by omega)), show tR S - 1 + 1 = tR S by omega]
theorem mQ.longest (h : mQ E σ m ro g S) (hN : 100000 ≤ gN E) {c : Nat} (hc : c < S.1) : X13_longestRun_21 E (gN E) m (nI c) 0 0 0 σ = some (nI (grun (tV S c) (tR S)).1, σ) := by
  have hR := h.R
  refine lp (F := fun q (a : Nat × Nat) k => X13_longestRun_21 E q m (nI c) (nI a.1) (nI a.2) (nI k) σ) (s := fun r => grun (tV S c) r) (n := tR S) (fun q r hr => ?_) (fun q => ?_) (tR S) 0 (gN E) (by omega) (by omega)
  · have hl := grun_le (tV S c) r
    have hst : ∀ x : Nat, x ≤ r + 1 → X13_longestRun_75 E (X13_longestRun_21 E q) m (nI c) (nI (grun (tV S c) r).1) (nI r) (nI x) σ = X13_longestRun_21 E q m (nI c) (nI (max (grun (tV S c) r).1 x)) (nI x) (nI (r + 1)) σ := fun x hx => by
      unfold X13_longestRun_75 X13_longestRun_86
      rw [← nI_succ]
      by_cases hm : x ≤ (grun (tV S c) r).1
      · rw [if_pos (nI_le hm (by omega)), Nat.max_eq_left hm]
      · rw [if_neg (nI_ge (by omega) (by omega)), Nat.max_eq_right (by omega)]
    show X13_longestRun_21_s E (X13_longestRun_21 E q) m (nI c) (nI (grun (tV S c) r).1) (nI (grun (tV S c) r).2) (nI r) σ = X13_longestRun_21 E q m (nI c) (nI (max (grun (tV S c) r).1 (if 0 < r ∧ tV S c r = tV S c (r - 1) then (grun (tV S c) r).2 + 1 else 1))) (nI (if 0 < r ∧ tV S c r = tV S c (r - 1) then (grun (tV S c) r).2 + 1 else 1)) (nI (r + 1)) σ
    unfold X13_longestRun_21_s X13_longestRun_60 X13_longestRun_61
    rw [ob_e h.r, ob_e h.n1, if_neg (nI_ge hr (by omega))]
    by_cases h0 : r = 0
    · rw [if_pos (by rw [h0]; decide), if_pos rfl, if_neg (show ¬ (0 < r ∧ tV S c r = tV S c (r - 1)) by omega)]
      exact hst 1 (by omega)
    · rw [if_neg (nI_nle (by omega) (by omega)), ob_e h.cl, ob_e (h.at hc hr), ob_e h.cl, nI_sub1 (by omega), ob_e (h.at hc (by omega))]
      by_cases e : tV S c r = tV S c (r - 1)
      · rw [if_pos e, if_neg i10, if_pos ⟨by omega, e⟩, nI_1]
        exact hst _ (by omega)
      · rw [if_neg e, if_pos rfl, if_neg (fun z => e z.2)]
        exact hst 1 (by omega)
  · show X13_longestRun_21_s E (X13_longestRun_21 E q) m (nI c) (nI _) _ (nI (tR S)) σ = _
    unfold X13_longestRun_21_s
    rw [ob_e h.r, ob_e h.n1, if_pos (nI_le (Nat.le_refl _) (by omega))]
theorem mQ.sorted (h : mQ E σ m ro g S) (hN : 100000 ≤ gN E) {c : Nat} (hc : c < S.1) : ∃ b : Int32, X13_isSorted_16 E (gN E) m (nI c) 1 σ = some (b, σ) ∧ (b = 1 ∧ gasc (tV S c) (tR S) ∨ b = 0 ∧ ¬ gasc (tV S c) (tR S)) := by
  have hR := h.R
  have hle := fa_first_le (fun k => decide (¬ tV S c k ≤ tV S c (k + 1))) (tR S - 1)
  by_cases hf : fa_first (fun k => decide (¬ tV S c k ≤ tV S c (k + 1))) (tR S - 1) < tR S - 1
  · have hy := of_decide_eq_true (fa_first_yes _ _ hf)
    refine ⟨0, ?_, Or.inr ⟨rfl, fun z => hy (by have := z (fa_first (fun k => decide (¬ tV S c k ≤ tV S c (k + 1))) (tR S - 1) + 1) (by omega) (by omega); rw [Nat.add_sub_cancel] at this; exact this)⟩⟩
    refine lp (F := fun q (_ : Unit) k => X13_isSorted_16 E q m (nI c) (nI (k + 1)) σ) (s := fun _ => ()) (n := fa_first (fun k => decide (¬ tV S c k ≤ tV S c (k + 1))) (tR S - 1)) (fun q k hk => ?_) (fun q => ?_) _ 0 (gN E) (Nat.zero_add _) (by omega)
    · have hn := Decidable.not_not.mp (of_decide_eq_false (fa_first_no _ _ k hk))
      show X13_isSorted_16_s E (X13_isSorted_16 E q) m (nI c) (nI (k + 1)) σ = _
      unfold X13_isSorted_16_s
      rw [ob_e h.r, ob_e h.n1, if_neg (nI_ge (by omega) (by omega)), ob_e h.cl, ob_e (h.at hc (by omega)), ob_e h.cl, nI_sub1 (by omega), Nat.add_sub_cancel, ob_e (h.at hc (by omega)), if_pos hn, ← nI_succ (k + 1)]
    · show X13_isSorted_16_s E (X13_isSorted_16 E q) m (nI c) (nI (fa_first _ _ + 1)) σ = _
      unfold X13_isSorted_16_s
      rw [ob_e h.r, ob_e h.n1, if_neg (nI_ge (by omega) (by omega)), ob_e h.cl, ob_e (h.at hc (by omega)), ob_e h.cl, nI_sub1 (by omega), Nat.add_sub_cancel, ob_e (h.at hc (by omega)), if_neg hy]
  · have hall : ∀ k, k < tR S - 1 → tV S c k ≤ tV S c (k + 1) := fun k hk => Decidable.not_not.mp (of_decide_eq_false (fa_first_no (fun k => decide (¬ tV S c k ≤ tV S c (k + 1))) (tR S - 1) k (by omega)))
    refine ⟨1, ?_, Or.inl ⟨rfl, fun r hr hr2 => by have := hall (r - 1) (by omega); rw [show r - 1 + 1 = r by omega] at this; exact this⟩⟩
    refine lp (F := fun q (_ : Unit) k => X13_isSorted_16 E q m (nI c) (nI (k + 1)) σ) (s := fun _ => ()) (n := tR S - 1) (fun q k hk => ?_) (fun q => ?_) _ 0 (gN E) (Nat.zero_add _) (by omega)
    · show X13_isSorted_16_s E (X13_isSorted_16 E q) m (nI c) (nI (k + 1)) σ = _
      unfold X13_isSorted_16_s
      rw [ob_e h.r, ob_e h.n1, if_neg (nI_ge (by omega) (by omega)), ob_e h.cl, ob_e (h.at hc (by omega)), ob_e h.cl, nI_sub1 (by omega), Nat.add_sub_cancel, ob_e (h.at hc (by omega)), if_pos (hall k hk), ← nI_succ (k + 1)]
    · show X13_isSorted_16_s E (X13_isSorted_16 E q) m (nI c) (nI (tR S - 1 + 1)) σ = _
      unfold X13_isSorted_16_s
      rw [ob_e h.r, ob_e h.n1, if_pos (nI_le (by omega) (by omega))]
theorem mQ.of0 (h : mQ E σ m ro g S) {i : Nat} (hi : i < tK S) : X13_of_f E σ m (nI i) 0 = some (nI (tFc S i)) := by
  have hK := h.K
  have e := h.1.2.2 (3 + 3 * i + 0) (by omega)
  rw [(h.2.1.2.2.2.1 i hi).1, ← co_i] at e
  unfold X13_of_f X13_of
  rw [ob_e h.r]
  exact (ob_e e).trans rfl
theorem mQ.of1 (h : mQ E σ m ro g S) {i : Nat} (hi : i < tK S) : X13_of_f E σ m (nI i) 1 = some (tFv S i) := by
  have hK := h.K
  have e := h.1.2.2 (3 + 3 * i + 1) (by omega)
  rw [(h.2.1.2.2.2.1 i hi).2.1, ← co_i] at e
  unfold X13_of_f X13_of
  rw [ob_e h.r]
  exact (ob_e e).trans rfl
theorem mQ.of2 (h : mQ E σ m ro g S) {i : Nat} (hi : i < tK S) : X13_of_f E σ m (nI i) 2 = some (tFd S i) := by
  have hK := h.K
  have e := h.1.2.2 (3 + 3 * i + 2) (by omega)
  rw [(h.2.1.2.2.2.1 i hi).2.2, ← co_i] at e
  unfold X13_of_f X13_of
  rw [ob_e h.r]
  exact (ob_e e).trans rfl
theorem mQ.lower (h : mQ E σ m ro g S) (hN : 100000 ≤ gN E) {i : Nat} (hi : i < tK S) : X13_lower_f E σ m (nI i) = some (nI (slo S i)) := by
  obtain ⟨k1, k2, k3⟩ := h.G.2.2.2.2.2.2 i hi
  unfold X13_lower_f X13_lower X13_lower_65 slo
  rw [ob_e h.cl, ob_e (h.of0 hi), ob_e h.cl, ob_e (h.of1 hi), ob_e h.cl, ob_e (h.less hN k1 k2), ob_e h.cl, ob_e (h.of2 hi)]
  rcases k3 with e | e | e
  · rw [e, if_neg (by decide), if_pos rfl]
    rfl
  · rw [e, if_pos (by decide), if_pos rfl, if_neg (by decide), if_neg (by decide)]
  · rw [e, if_pos (by decide), if_neg i10, if_neg (by decide), if_pos rfl, ob_e h.cl, ob_e (h.has k1 _), dm_in k2, fb_ct_succ]
    cases hb : tD S (tFc S i) (px (tFv S i)) with
    | true => rw [if_pos rfl, if_neg i10, nI_1, if_pos rfl]
    | false => rw [if_neg (by decide : ¬ false = true), if_pos rfl, i_p0, if_neg (by decide)]; rfl
theorem mQ.upper (h : mQ E σ m ro g S) (hN : 100000 ≤ gN E) {i : Nat} (hi : i < tK S) : X13_upper_f E σ m (nI i) = some (nI (shi S i)) := by
  obtain ⟨k1, k2, k3⟩ := h.G.2.2.2.2.2.2 i hi
  unfold X13_upper_f X13_upper X13_upper_57 X13_upper_58 shi
  rw [ob_e h.cl, ob_e (h.of0 hi), ob_e h.cl, ob_e (h.of1 hi), ob_e h.cl, ob_e (h.of2 hi)]
  rcases k3 with e | e | e
  · rw [e, if_pos (by decide), if_pos rfl, ob_e h.cl, ob_e (h.less hN k1 k2), if_neg (by decide), i_p0]
  · rw [e, if_pos (by decide), if_neg (by decide), if_neg (by decide), ob_e h.cl, ob_e (h.less hN k1 k2), if_pos rfl, ob_e h.cl, ob_e (h.has k1 _), dm_in k2, fb_ct_succ]
    cases hb : tD S (tFc S i) (px (tFv S i)) with
    | true => rw [if_pos rfl, if_neg i10, nI_1, if_pos rfl]
    | false => rw [if_neg (by decide : ¬ false = true), if_pos rfl, i_p0, if_neg (by decide)]; rfl
  · rw [e, if_neg (by decide), if_neg (by decide), if_pos rfl, ob_e h.cl, ob_e (h.size hN k1)]
theorem mQ.ful (h : mQ E σ m ro g S) {r i : Nat} (hr : r < tR S) (hi : i < tK S) : X13_fulfills_f E σ m (nI r) (nI i) = some (if sful S r i = true then 1 else 0) := by
  obtain ⟨k1, k2, k3⟩ := h.G.2.2.2.2.2.2 i hi
  unfold X13_fulfills_f X13_fulfills sful gful
  rw [ob_e h.cl, ob_e (h.of0 hi), ob_e h.cl, ob_e (h.at k1 hr), ob_e h.cl, ob_e (h.of1 hi), ob_e h.cl, ob_e (h.of2 hi)]
  rcases k3 with e | e | e
  · rw [e, if_neg (by decide), if_pos (by decide : (-1 : Int32) < 0)]
    by_cases z : tFv S i ≤ tV S (tFc S i) r
    · rw [if_pos z, decide_eq_false (fun y => (fa_of_lt y).2.1 z)]
      rfl
    · rw [if_neg z, decide_eq_true (fa_of_nle z)]
      rfl
  · rw [e, if_pos (by decide), if_pos (by decide), if_neg (by decide : ¬ (0 : Int32) < 0), if_neg (by decide : ¬ (0 : Int32) < 0)]
    by_cases z : tV S (tFc S i) r = tFv S i
    · rw [if_pos z, decide_eq_true z]
      rfl
    · rw [if_neg z, decide_eq_false z]
      rfl
  · rw [e, if_pos (by decide), if_neg (by decide), if_neg (by decide : ¬ (1 : Int32) < 0), if_pos (by decide : (0 : Int32) < 1)]
    by_cases z : tV S (tFc S i) r ≤ tFv S i
    · rw [if_pos z, decide_eq_false (fun y => (fa_of_lt y).2.1 z)]
      rfl
    · rw [if_neg z, decide_eq_true (fa_of_nle z)]
      rfl
theorem mQ.rej (h : mQ E σ m ro g S) (hN : 100000 ≤ gN E) {r : Nat} (hr : r < tR S) : X13_rejection_f E σ m (nI r) = some (if srej S r < tK S then nI (srej S r) else -1) := by
  have hK := h.K
  have hle : srej S r ≤ tK S := fa_first_le _ _
  unfold X13_rejection_f X13_rejection
  refine lp (F := fun q (_ : Unit) k => X13_rejection_2 E σ q m (nI r) (nI k)) (s := fun _ => ()) (n := srej S r) (fun q k hk => ?_) (fun q => ?_) _ 0 (gN E) (Nat.zero_add _) (Nat.lt_of_le_of_lt hle (by omega))
  · have hlt : k < tK S := Nat.lt_of_lt_of_le hk hle
    have hn := fa_first_no _ _ k hk
    have hn2 : sful S r k = true := by
      cases hb : sful S r k with
      | true => rfl
      | false => rw [hb] at hn; exact absurd hn (by decide)
    show X13_rejection_2_s E σ (X13_rejection_2 E σ q) m (nI r) (nI k) = _
    unfold X13_rejection_2_s
    rw [ob_e h.r, ob_e h.n2, if_neg (nI_ge hlt (by omega)), ob_e h.cl, ob_e (h.ful hr hlt), hn2, if_pos rfl, if_neg i10, ← nI_succ]
  · show X13_rejection_2_s E σ (X13_rejection_2 E σ q) m (nI r) (nI (srej S r)) = _
    unfold X13_rejection_2_s
    rw [ob_e h.r, ob_e h.n2]
    by_cases hf : srej S r < tK S
    · have hy := fa_first_yes (fun i => !sful S r i) (tK S) hf
      have hy2 : sful S r (srej S r) = false := by
        cases hb : sful S r (srej S r) with
        | false => rfl
        | true => 
          have : (!sful S r (srej S r)) = true := hy
          rw [hb] at this
          exact absurd this (by decide)
      rw [if_neg (nI_ge hf (by omega)), ob_e h.cl, ob_e (h.ful hr hf), hy2, if_neg (by decide : ¬ false = true), if_pos rfl, if_pos hf]
    · rw [if_pos (nI_le (by omega) (by omega)), if_neg hf]
theorem mQ.sel (h : mQ E σ m ro g S) (hN : 100000 ≤ gN E) {r : Nat} (hr : r < tR S) : X13_selects_f E σ m (nI r) = some (if ssel S r = true then 1 else 0) := by
  have hK := h.K
  have hle : srej S r ≤ tK S := fa_first_le _ _
  unfold X13_selects_f X13_selects ssel
  rw [ob_e h.cl, ob_e (h.rej hN hr)]
  by_cases hf : srej S r < tK S
  · rw [if_pos hf, if_neg (show ¬ nI (srej S r) = -1 from by rw [fa_eq, nI_toInt (by omega)]; show ¬ _ = (-1 : Int); omega), decide_eq_false (by omega)]
    rfl
  · rw [if_neg hf, if_pos rfl, decide_eq_true (by omega)]
    rfl
theorem mQ.nsel (h : mQ E σ m ro g S) (hN : 100000 ≤ gN E) : X13_countSelected_f E σ m = some (nI (fb_ct (ssel S) (tR S))) := by
  have hR := h.R
  unfold X13_countSelected_f X13_countSelected
  refine lp (F := fun q a k => X13_countSelected_4 E σ q m (nI a) (nI k)) (s := fun k => fb_ct (ssel S) k) (n := tR S) (fun q k hk => ?_) (fun q => ?_) (tR S) 0 (gN E) (by omega) (by omega)
  · show X13_countSelected_4_s E σ (X13_countSelected_4 E σ q) m _ (nI k) = _
    unfold X13_countSelected_4_s X13_countSelected_28
    rw [ob_e h.r, ob_e h.n1, if_neg (nI_ge hk (by omega)), ob_e h.cl, ob_e (h.sel hN hk), fb_ct_succ, ← nI_succ k]
    cases hb : ssel S k with
    | true => rw [if_pos rfl, if_neg i10, nI_1, if_pos rfl]
    | false => rw [if_neg (by decide : ¬ false = true), if_pos rfl, i_p0, if_neg (by decide)]; rfl
  · show X13_countSelected_4_s E σ (X13_countSelected_4 E σ q) m _ (nI (tR S)) = _
    unfold X13_countSelected_4_s
    rw [ob_e h.r, ob_e h.n1, if_pos (nI_le (Nat.le_refl _) (by omega))]
theorem mQ.nmat (h : mQ E σ m ro g S) (hN : 100000 ≤ gN E) {i : Nat} (hi : i < tK S) : X13_countMatches_f E σ m (nI i) = some (nI (fb_ct (fun r => sful S r i) (tR S))) := by
  have hR := h.R
  unfold X13_countMatches_f X13_countMatches
  refine lp (F := fun q a k => X13_countMatches_4 E σ q m (nI i) (nI a) (nI k)) (s := fun k => fb_ct (fun r => sful S r i) k) (n := tR S) (fun q k hk => ?_) (fun q => ?_) (tR S) 0 (gN E) (by omega) (by omega)
  · show X13_countMatches_4_s E σ (X13_countMatches_4 E σ q) m (nI i) _ (nI k) = _
    unfold X13_countMatches_4_s X13_countMatches_29
    rw [ob_e h.r, ob_e h.n1, if_neg (nI_ge hk (by omega)), ob_e h.cl, ob_e (h.ful hk hi), fb_ct_succ, ← nI_succ k]
    cases hb : sful S k i with
    | true => rw [if_pos rfl, if_neg i10, nI_1, if_pos rfl]
    | false => rw [if_neg (by decide : ¬ false = true), if_pos rfl, i_p0, if_neg (by decide)]; rfl
  · show X13_countMatches_4_s E σ (X13_countMatches_4 E σ q) m (nI i) _ (nI (tR S)) = _
    unfold X13_countMatches_4_s
    rw [ob_e h.r, ob_e h.n1, if_pos (nI_le (Nat.le_refl _) (by omega))]
end MM
