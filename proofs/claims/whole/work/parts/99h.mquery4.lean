/-! pure: the reference's questions on its row: what is selected -/
theorem i_m1 {n : Nat} (hn : n < 2 ^ 31) : (nI n - (1 : Int32)).toInt = (n : Int) - 1 := by
  have h1 := nI_toInt hn
  have h2 : (1 : Int32).toInt = 1 := rfl
  rw [fb_subI (by omega) (by omega), h1, h2]
theorem sg_le {d x y : Int32} (hd : d = 1 ∨ d = -1) (hx : -10000 ≤ x.toInt ∧ x.toInt ≤ 10000) (hy : -10000 ≤ y.toInt ∧ y.toInt ≤ 10000) : d * x ≤ d * y ↔ d.toInt * x.toInt ≤ d.toInt * y.toInt := by
  have e1 : (1 : Int32).toInt = 1 := rfl
  have e2 : (-1 : Int32).toInt = -1 := rfl
  rw [fa_le]
  rcases hd with rfl | rfl
  · rw [fb_mulI (by rw [e1]; omega) (by rw [e1]; omega), fb_mulI (by rw [e1]; omega) (by rw [e1]; omega)]
  · rw [fb_mulI (by rw [e2]; omega) (by rw [e2]; omega), fb_mulI (by rw [e2]; omega) (by rw [e2]; omega)]
theorem gplc_n {S : gT} {p : Int32} (h : p < 0) : gplc S p = -1 := by
  have := (fa_lt _ _).mp h
  rw [toI0] at this
  unfold gplc
  rw [if_neg (by omega)]
section MM
variable {E : gE} {σ : gS} {m ro : Nat} {g : Nat → Int32} {S : gT}
theorem mQ.strict (h : mQ E σ m ro g S) (hN : 100000 ≤ gN E) : X13_strictestCondition_9 E (gN E) m (-1) 0 σ = some (if tK S = 0 then -1 else nI (gstr S (tK S)), σ) := by
  have hK := h.K
  have hR := h.R
  refine lp (F := fun q (a : Int32) k => X13_strictestCondition_9 E q m a (nI k) σ) (s := fun k => if k = 0 then -1 else nI (gstr S k)) (n := tK S) (fun q k hk => ?_) (fun q => ?_) (tK S) 0 (gN E) (by omega) (by omega)
  · have hg : gstr S (k + 1) = if k = 0 then 0 else if fb_ct (fun r => sful S r k) (tR S) < fb_ct (fun r => sful S r (gstr S k)) (tR S) then k else gstr S k := rfl
    show X13_strictestCondition_9_s E (X13_strictestCondition_9 E q) m (if k = 0 then -1 else nI (gstr S k)) (nI k) σ = X13_strictestCondition_9 E q m (if k + 1 = 0 then -1 else nI (gstr S (k + 1))) (nI (k + 1)) σ
    unfold X13_strictestCondition_9_s X13_strictestCondition_37 X13_strictestCondition_42
    rw [ob_e h.r, ob_e h.n2, if_neg (nI_ge hk (by omega)), if_neg (show ¬ k + 1 = 0 by omega), hg, ← nI_succ]
    by_cases h0 : k = 0
    · rw [if_pos h0, if_pos rfl, if_pos h0, h0]
    · have hb := gstr_lt S k (by omega)
      have hn1 : ¬ nI (gstr S k) = (-1 : Int32) := by
        rw [fa_eq, nI_toInt (by omega)]
        show ¬ _ = (-1 : Int)
        omega
      have c1 : fb_ct (fun r => sful S r k) (tR S) ≤ tR S := fb_ct_le _ _
      have c2 : fb_ct (fun r => sful S r (gstr S k)) (tR S) ≤ tR S := fb_ct_le _ _
      rw [if_neg h0, if_neg hn1, if_neg h0, ob_e h.cl, ob_e (h.nmat hN hk), ob_e h.cl, ob_e (h.nmat hN (by omega))]
      by_cases hlt : fb_ct (fun r => sful S r k) (tR S) < fb_ct (fun r => sful S r (gstr S k)) (tR S)
      · rw [if_neg (nI_ge hlt (by omega)), if_pos hlt]
      · rw [if_pos (nI_le (by omega) (by omega)), if_neg hlt]
  · show X13_strictestCondition_9_s E (X13_strictestCondition_9 E q) m _ (nI (tK S)) σ = _
    unfold X13_strictestCondition_9_s
    rw [ob_e h.r, ob_e h.n2, if_pos (nI_le (Nat.le_refl _) (by omega))]
theorem mQ.srow (h : mQ E σ m ro g S) (hN : 100000 ≤ gN E) (p : Int32) : X13_selectedRow_9 E (gN E) m p 0 σ = some (gplc S p, σ) := by
  have hR := h.R
  have hst : ∀ (a n q k : Nat), a < 2 ^ 31 → n ≤ tR S → (∀ j, j < n → fb_ct (ssel S) (j + 1) ≤ a) → k < n → X13_selectedRow_9 E (q + 1) m (nI (a - fb_ct (ssel S) k)) (nI k) σ = X13_selectedRow_9 E q m (nI (a - fb_ct (ssel S) (k + 1))) (nI (k + 1)) σ := fun a n q k ha hn H hk => by
    have hH := H k hk
    rw [fb_ct_succ] at hH ⊢
    show X13_selectedRow_9_s E (X13_selectedRow_9 E q) m (nI (a - fb_ct (ssel S) k)) (nI k) σ = _
    unfold X13_selectedRow_9_s X13_selectedRow_40
    rw [ob_e h.r, ob_e h.n1, if_neg (nI_ge (by omega) (by omega)), if_neg (nI_pos (by omega)), ob_e h.cl, ob_e (h.sel hN (by omega)), ← nI_succ]
    cases hb : ssel S k with
    | false => rw [if_neg (by decide : ¬ false = true), if_pos rfl, if_neg (by decide : ¬ false = true)]; rfl
    | true =>
      rw [hb, if_pos rfl] at hH
      rw [if_pos rfl, if_neg i10, if_neg (nI_ne0 (by omega) (by omega)), if_pos rfl, show a - fb_ct (ssel S) k = (a - (fb_ct (ssel S) k + 1)) + 1 by omega, nI_dec]
  by_cases hp : p < 0
  · rw [gplc_n hp]
    obtain ⟨q, hq⟩ : ∃ q, gN E = q + 1 := ⟨gN E - 1, by omega⟩
    rw [hq]
    show X13_selectedRow_9_s E (X13_selectedRow_9 E q) m p 0 σ = _
    unfold X13_selectedRow_9_s X13_selectedRow_46
    rw [ob_e h.r, ob_e h.n1, if_pos hp, ite_self]
  · obtain ⟨a, ha, rfl⟩ := nI_of hp
    unfold gplc
    rw [nI_toInt ha, Int.toNat_natCast]
    by_cases hc : a < fb_ct (ssel S) (tR S)
    · obtain ⟨k1, k2, k3⟩ := kth_ok hc
      rw [if_pos (by omega)]
      have H : ∀ j, j < kth (ssel S) (tR S) a → fb_ct (ssel S) (j + 1) ≤ a := fun j hj => by
        have := fb_ct_mono (ssel S) (m := j + 1) (n := kth (ssel S) (tR S) a) hj
        omega
      refine lp (F := fun q b k => X13_selectedRow_9 E q m (nI b) (nI k) σ) (s := fun k => a - fb_ct (ssel S) k) (n := kth (ssel S) (tR S) a) (fun q k hk => hst a _ q k ha (by omega) H hk) (fun q => ?_) _ 0 (gN E) (Nat.zero_add _) (by omega)
      show X13_selectedRow_9_s E (X13_selectedRow_9 E q) m (nI (a - fb_ct (ssel S) (kth (ssel S) (tR S) a))) (nI (kth (ssel S) (tR S) a)) σ = _
      unfold X13_selectedRow_9_s
      rw [k3, Nat.sub_self, ob_e h.r, ob_e h.n1, if_neg (nI_ge (by omega) (by omega)), if_neg (by decide), ob_e h.cl, ob_e (h.sel hN k1), k2, if_pos rfl, if_neg i10, if_pos (by decide)]
    · rw [if_neg (by omega)]
      have H : ∀ j, j < tR S → fb_ct (ssel S) (j + 1) ≤ a := fun j hj => by
        have := fb_ct_mono (ssel S) (m := j + 1) (n := tR S) hj
        omega
      refine lp (F := fun q b k => X13_selectedRow_9 E q m (nI b) (nI k) σ) (s := fun k => a - fb_ct (ssel S) k) (n := tR S) (fun q k hk => hst a _ q k ha (Nat.le_refl _) H hk) (fun q => ?_) _ 0 (gN E) (Nat.zero_add _) (by omega)
      show X13_selectedRow_9_s E (X13_selectedRow_9 E q) m _ (nI (tR S)) σ = _
      unfold X13_selectedRow_9_s X13_selectedRow_46
      rw [ob_e h.r, ob_e h.n1, if_pos (nI_le (Nat.le_refl _) (by omega))]
theorem mQ.sum (h : mQ E σ m ro g S) (hN : 100000 ≤ gN E) {c : Nat} (hc : c < S.1) : X13_sumOf_f E σ m (nI c) = some (gsumL S c (tR S)) := by
  have hR := h.R
  unfold X13_sumOf_f X13_sumOf
  refine lp (F := fun q (a : Int64) k => X13_sumOf_5 E σ q m (nI c) a (nI k)) (s := fun k => gsumL S c k) (n := tR S) (fun q k hk => ?_) (fun q => ?_) (tR S) 0 (gN E) (by omega) (by omega)
  · have hg : gsumL S c (k + 1) = if ssel S k = true then gsumL S c k + (tV S c k).toInt64 else gsumL S c k := rfl
    show X13_sumOf_5_s E σ (X13_sumOf_5 E σ q) m (nI c) _ (nI k) = _
    unfold X13_sumOf_5_s X13_sumOf_38
    rw [ob_e h.r, ob_e h.n1, if_neg (nI_ge hk (by omega)), ob_e h.cl, ob_e (h.sel hN hk), hg, ← nI_succ]
    cases hb : ssel S k with
    | true => rw [if_pos rfl, if_neg i10, ob_e h.cl, ob_e (h.at hc hk), if_pos rfl]
    | false =>
      rw [if_neg (by decide : ¬ false = true), if_pos rfl, if_neg (by decide : ¬ false = true), show gsumL S c k + (0 : Int64) = gsumL S c k from by simp]
  · show X13_sumOf_5_s E σ (X13_sumOf_5 E σ q) m (nI c) _ (nI (tR S)) = _
    unfold X13_sumOf_5_s
    rw [ob_e h.r, ob_e h.n1, if_pos (nI_le (Nat.le_refl _) (by omega))]
theorem mQ.ext (h : mQ E σ m ro g S) (hN : 100000 ≤ gN E) {c : Nat} (hc : c < S.1) {d : Int32} (hd : d = 1 ∨ d = -1) : ∃ a, X13_extreme_f E σ m (nI c) d = some a ∧ (∀ k, k < tR S → ssel S k = true → d.toInt * a.toInt ≤ d.toInt * (tV S c k).toInt) ∧ ((∀ k, k < tR S → ssel S k = false) ∨ ∃ k, k < tR S ∧ ssel S k = true ∧ tV S c k = a) := by
  have hR := h.R
  have hdd : d.toInt = 1 ∧ (d * (10000 : Int32)).toInt = 10000 ∨ d.toInt = -1 ∧ (d * (10000 : Int32)).toInt = -10000 := by
    rcases hd with rfl | rfl
    · exact Or.inl ⟨rfl, rfl⟩
    · exact Or.inr ⟨rfl, by decide⟩
  unfold X13_extreme_f X13_extreme
  have hl := lpe (F := fun q (a : Int32) k => X13_extreme_9 E σ q m (nI c) d a (nI k)) (I := fun r a => (-10000 ≤ a.toInt ∧ a.toInt ≤ 10000) ∧ (∀ k, k < r → ssel S k = true → d.toInt * a.toInt ≤ d.toInt * (tV S c k).toInt) ∧ ((a = d * (10000 : Int32) ∧ ∀ k, k < r → ssel S k = false) ∨ ∃ k, k < r ∧ ssel S k = true ∧ tV S c k = a)) (O := fun a => some a) (n := tR S) (fun q r a hr hI => ?_) (fun q a hI => ?_) (tR S) 0 (gN E) (d * (10000 : Int32)) (by omega) (by omega) ⟨by rcases hdd with ⟨-, e⟩ | ⟨-, e⟩ <;> rw [e] <;> omega, fun k hk => absurd hk (Nat.not_lt_zero _), Or.inl ⟨rfl, fun k hk => absurd hk (Nat.not_lt_zero _)⟩⟩
  · obtain ⟨a, e1, -, I2, I3⟩ := hl
    refine ⟨a, e1, I2, ?_⟩
    rcases I3 with ⟨-, z⟩ | z
    · exact Or.inl z
    · exact Or.inr z
  · obtain ⟨i1, i2, i3⟩ := hI
    have hv := (h.G.2.2.2.2.1 c r hc hr).1
    have v1 := hv.1
    have v2 := hv.2
    have keep : ssel S r = true → d.toInt * a.toInt ≤ d.toInt * (tV S c r).toInt → ((-10000 ≤ a.toInt ∧ a.toInt ≤ 10000) ∧ (∀ k, k < r + 1 → ssel S k = true → d.toInt * a.toInt ≤ d.toInt * (tV S c k).toInt) ∧ ((a = d * (10000 : Int32) ∧ ∀ k, k < r + 1 → ssel S k = false) ∨ ∃ k, k < r + 1 ∧ ssel S k = true ∧ tV S c k = a)) := fun hs hle => by
      refine ⟨i1, fun k hk hks => ?_, ?_⟩
      · by_cases e : k = r
        · rw [e]; exact hle
        · exact i2 k (by omega) hks
      · rcases i3 with ⟨y1, y2⟩ | ⟨k, y1, y2, y3⟩
        · exfalso
          rw [y1] at hle
          rcases hdd with ⟨z1, z2⟩ | ⟨z1, z2⟩ <;> rw [z1, z2] at hle <;> omega
        · exact Or.inr ⟨k, by omega, y2, y3⟩
    cases hb : ssel S r with
    | false =>
      refine ⟨a, ?_, i1, fun k hk hks => ?_, ?_⟩
      · show X13_extreme_9_s E σ (X13_extreme_9 E σ q) m (nI c) d a (nI r) = _
        unfold X13_extreme_9_s X13_extreme_48 X13_extreme_49 X13_extreme_67
        rw [ob_e h.r, ob_e h.n1, if_neg (nI_ge hr (by omega)), ob_e h.cl, ob_e (h.sel hN hr), hb, if_neg (by decide : ¬ false = true), if_pos rfl, if_pos rfl, ← nI_succ]
      · by_cases e : k = r
        · rw [e, hb] at hks
          exact absurd hks (by decide)
        · exact i2 k (by omega) hks
      · rcases i3 with ⟨y1, y2⟩ | ⟨k, y1, y2, y3⟩
        · refine Or.inl ⟨y1, fun k hk => ?_⟩
          by_cases e : k = r
          · rw [e]; exact hb
          · exact y2 k (by omega)
        · exact Or.inr ⟨k, by omega, y2, y3⟩
    | true =>
      have hcmp := sg_le (x := a) (y := tV S c r) hd i1 ⟨by omega, by omega⟩
      by_cases hle : d.toInt * a.toInt ≤ d.toInt * (tV S c r).toInt
      · refine ⟨a, ?_, keep hb hle⟩
        show X13_extreme_9_s E σ (X13_extreme_9 E σ q) m (nI c) d a (nI r) = _
        unfold X13_extreme_9_s X13_extreme_48 X13_extreme_49 X13_extreme_67
        rw [ob_e h.r, ob_e h.n1, if_neg (nI_ge hr (by omega)), ob_e h.cl, ob_e (h.sel hN hr), hb, if_pos rfl, if_neg i10, ob_e h.cl, ob_e (h.at hc hr), if_pos (hcmp.mpr hle), if_pos rfl, ← nI_succ]
      · refine ⟨tV S c r, ?_, ⟨by omega, by omega⟩, fun k hk hks => ?_, Or.inr ⟨r, by omega, hb, rfl⟩⟩
        · show X13_extreme_9_s E σ (X13_extreme_9 E σ q) m (nI c) d a (nI r) = _
          unfold X13_extreme_9_s X13_extreme_48 X13_extreme_49 X13_extreme_67
          rw [ob_e h.r, ob_e h.n1, if_neg (nI_ge hr (by omega)), ob_e h.cl, ob_e (h.sel hN hr), hb, if_pos rfl, if_neg i10, ob_e h.cl, ob_e (h.at hc hr), if_neg (fun z => hle (hcmp.mp z)), if_neg i10, ob_e h.cl, ob_e (h.at hc hr), ← nI_succ]
        · by_cases e : k = r
          · rw [e]; exact Int.le_refl _
          · have := i2 k (by omega) hks
            omega
  · show X13_extreme_9_s E σ (X13_extreme_9 E σ q) m (nI c) d a (nI (tR S)) = _
    unfold X13_extreme_9_s
    rw [ob_e h.r, ob_e h.n1, if_pos (nI_le (Nat.le_refl _) (by omega))]
theorem mQ.least (h : mQ E σ m ro g S) (hN : 100000 ≤ gN E) {c p : Nat} (hc : c < S.1) (hp : p < 19999) (h1 : gsel S c p = true) (h2 : fb_ct (gsel S c) p = 0) : X13_extreme_f E σ m (nI c) 1 = some (xp p) := by
  obtain ⟨a, e, i1, i2⟩ := h.ext hN hc (Or.inl (rfl : (1 : Int32) = 1))
  obtain ⟨k, k1, k2, k3⟩ := (dsel_iff _ _ _ _).mp h1
  rcases i2 with z | ⟨j, j1, j2, j3⟩
  · rw [z k k1] at k2
    exact absurd k2 (by decide)
  · have hvk := (h.G.2.2.2.2.1 c k hc k1).1
    have hvj := (h.G.2.2.2.2.1 c j hc j1).1
    have hle := i1 k k1 k2
    rw [show (1 : Int32).toInt = 1 from rfl, Int.one_mul, Int.one_mul, ← j3] at hle
    have hge : ¬ px (tV S c j) < p := fun y => by
      have := fb_ct_zero.mp h2 _ y
      rw [show gsel S c (px (tV S c j)) = true from (dsel_iff _ _ _ _).mpr ⟨j, j1, j2, rfl⟩] at this
      exact absurd this (by decide)
    have hpk : px (tV S c j) = p := by
      rw [← k3] at hge ⊢
      unfold px at hge ⊢
      omega
    rw [e, ← j3, ← hpk, xp_px hvj]
theorem mQ.most (h : mQ E σ m ro g S) (hN : 100000 ≤ gN E) {c p : Nat} (hc : c < S.1) (hp : p < 19999) (h1 : gsel S c p = true) (h2 : fb_ct (gsel S c) p = dsz (gsel S c) - 1) : X13_extreme_f E σ m (nI c) (-1) = some (xp p) := by
  obtain ⟨a, e, i1, i2⟩ := h.ext hN hc (Or.inr (rfl : (-1 : Int32) = -1))
  obtain ⟨k, k1, k2, k3⟩ := (dsel_iff _ _ _ _).mp h1
  rcases i2 with z | ⟨j, j1, j2, j3⟩
  · rw [z k k1] at k2
    exact absurd k2 (by decide)
  · have hvk := (h.G.2.2.2.2.1 c k hc k1).1
    have hvj := (h.G.2.2.2.2.1 c j hc j1).1
    have hle := i1 k k1 k2
    rw [show (-1 : Int32).toInt = -1 from rfl, ← j3] at hle
    have hj : gsel S c (px (tV S c j)) = true := (dsel_iff _ _ _ _).mpr ⟨j, j1, j2, rfl⟩
    have hge : ¬ p < px (tV S c j) := fun y => by
      have a1 : fb_ct (gsel S c) (p + 1) = fb_ct (gsel S c) p + 1 := by rw [fb_ct_succ, h1]; rfl
      have a2 : fb_ct (gsel S c) (px (tV S c j) + 1) = fb_ct (gsel S c) (px (tV S c j)) + 1 := by rw [fb_ct_succ, hj]; rfl
      have a3 := fb_ct_mono (gsel S c) (m := p + 1) (n := px (tV S c j)) y
      have a4 : fb_ct (gsel S c) (px (tV S c j) + 1) ≤ dsz (gsel S c) := fb_ct_mono (gsel S c) (px_lt hvj)
      omega
    have hpk : px (tV S c j) = p := by
      rw [← k3] at hge ⊢
      unfold px at hge ⊢
      omega
    rw [e, ← j3, ← hpk, xp_px hvj]
theorem mQ.firstSel (h : mQ E σ m ro g S) (hN : 100000 ≤ gN E) {c r : Nat} (hc : c < S.1) (hr : r < tR S) : X13_isFirstSelected_f E σ m (nI c) (nI r) = some (if (ssel S r && !dsel (ssel S) (tV S c) r (px (tV S c r))) = true then 1 else 0) := by
  have hR := h.R
  have hv := fun k (hk : k < tR S) => (h.G.2.2.2.2.1 c k hc hk).1
  have hle := fa_first_le (fun k => ssel S k && decide (tV S c k = tV S c r)) r
  unfold X13_isFirstSelected_f X13_isFirstSelected
  refine lp (F := fun q (_ : Unit) k => X13_isFirstSelected_2 E σ q m (nI c) (nI r) (nI k)) (s := fun _ => ()) (n := fa_first (fun k => ssel S k && decide (tV S c k = tV S c r)) r) (fun q k hk => ?_) (fun q => ?_) _ 0 (gN E) (Nat.zero_add _) (by omega)
  · have e : (ssel S k && decide (tV S c k = tV S c r)) = false := fa_first_no _ r k hk
    show X13_isFirstSelected_2_s E σ (X13_isFirstSelected_2 E σ q) m (nI c) (nI r) (nI k) = _
    unfold X13_isFirstSelected_2_s X13_isFirstSelected_32
    rw [if_neg (nI_ge (by omega) (by omega)), ob_e h.cl, ob_e (h.sel hN (by omega)), ← nI_succ]
    cases hb : ssel S k with
    | false => rw [if_neg (by decide : ¬ false = true), if_pos rfl]
    | true =>
      rw [hb, Bool.true_and] at e
      rw [if_pos rfl, if_neg i10, ob_e h.cl, ob_e (h.at hc (by omega)), ob_e h.cl, ob_e (h.at hc hr), if_neg (of_decide_eq_false e)]
  · show X13_isFirstSelected_2_s E σ (X13_isFirstSelected_2 E σ q) m (nI c) (nI r) (nI (fa_first _ r)) = _
    unfold X13_isFirstSelected_2_s
    by_cases hf : fa_first (fun k => ssel S k && decide (tV S c k = tV S c r)) r < r
    · have e : (ssel S (fa_first (fun k => ssel S k && decide (tV S c k = tV S c r)) r) && decide (tV S c (fa_first (fun k => ssel S k && decide (tV S c k = tV S c r)) r) = tV S c r)) = true := fa_first_yes _ r hf
      obtain ⟨x1, x2⟩ := Bool.and_eq_true_iff.mp e
      have e2 := of_decide_eq_true x2
      have hd : dsel (ssel S) (tV S c) r (px (tV S c r)) = true := (dsel_iff _ _ _ _).mpr ⟨_, hf, x1, congrArg px e2⟩
      rw [if_neg (nI_ge hf (by omega)), ob_e h.cl, ob_e (h.sel hN (by omega)), x1, if_pos rfl, if_neg i10, ob_e h.cl, ob_e (h.at hc (by omega)), ob_e h.cl, ob_e (h.at hc hr), if_pos e2, hd, Bool.not_true, Bool.and_false]
      rfl
    · have e : fa_first (fun k => ssel S k && decide (tV S c k = tV S c r)) r = r := by omega
      have hd : dsel (ssel S) (tV S c) r (px (tV S c r)) = false := by
        refine ts_nt fun z => ?_
        obtain ⟨k, k1, k2, k3⟩ := (dsel_iff _ _ _ _).mp z
        have e2 : (ssel S k && decide (tV S c k = tV S c r)) = false := fa_first_no (fun k => ssel S k && decide (tV S c k = tV S c r)) r k (by omega)
        rw [k2, Bool.true_and] at e2
        exact (of_decide_eq_false e2) (px_inj (hv k (by omega)) (hv r hr) k3)
      rw [e, if_pos (nI_le (Nat.le_refl _) (by omega)), ob_e h.cl, ob_e (h.sel hN hr), hd, Bool.not_false, Bool.and_true, ob_e (gzb _)]
theorem mQ.dist (h : mQ E σ m ro g S) (hN : 100000 ≤ gN E) {c : Nat} (hc : c < S.1) : X13_distinctSelected_18 E (gN E) m (nI c) 0 0 σ = some (nI (dsz (gsel S c)), σ) := by
  have hR := h.R
  rw [dsel_ct _ fun r hr => (h.G.2.2.2.2.1 c r hc hr).1]
  refine lp (F := fun q a k => X13_distinctSelected_18 E q m (nI c) (nI a) (nI k) σ) (s := fun k => fb_ct (fun r => ssel S r && !dsel (ssel S) (tV S c) r (px (tV S c r))) k) (n := tR S) (fun q k hk => ?_) (fun q => ?_) (tR S) 0 (gN E) (by omega) (by omega)
  · show X13_distinctSelected_18_s E (X13_distinctSelected_18 E q) m (nI c) _ (nI k) σ = _
    unfold X13_distinctSelected_18_s X13_distinctSelected_43
    rw [ob_e h.r, ob_e h.n1, if_neg (nI_ge hk (by omega)), ob_e h.cl, ob_e (h.firstSel hN hc hk), fb_ct_succ, ← nI_succ k]
    cases hb : (ssel S k && !dsel (ssel S) (tV S c) k (px (tV S c k))) with
    | true => rw [if_pos rfl, if_neg i10, nI_1, if_pos rfl]
    | false => rw [if_neg (by decide : ¬ false = true), if_pos rfl, i_p0, if_neg (by decide)]; rfl
  · show X13_distinctSelected_18_s E (X13_distinctSelected_18 E q) m (nI c) _ (nI (tR S)) σ = _
    unfold X13_distinctSelected_18_s
    rw [ob_e h.r, ob_e h.n1, if_pos (nI_le (Nat.le_refl _) (by omega))]
theorem mQ.selc (h : mQ E σ m ro g S) (hN : 100000 ≤ gN E) {r : Nat} (hr : r < tR S) : X13_selectsByCodes_f E σ m (nI r) = some (if ssel S r = true then 1 else 0) := by
  have hK := h.K
  have hle : srej S r ≤ tK S := fa_first_le _ _
  have hin : ∀ k, k < tK S → X13_inRange_f E σ (nI (fb_ct (tD S (tFc S k)) (px (tV S (tFc S k) r)))) (nI (slo S k)) (nI (shi S k) - (1 : Int32)) = some (if sful S r k = true then 1 else 0) := fun k hk => by
    obtain ⟨k1, k2, k3⟩ := h.G.2.2.2.2.2.2 k hk
    have hb := byCode h.G hr hk
    have hd := dsz_le (tD S (tFc S k))
    have hc1 : ∀ p, fb_ct (tD S (tFc S k)) p ≤ 19999 := fun p => Nat.le_trans (ct_le (h.2.1.2.2.2.2.2 _ k1).1 p) hd
    have a1 := hc1 (px (tV S (tFc S k) r))
    have a2 : slo S k ≤ 19999 := by
      unfold slo
      split
      · omega
      · split <;> exact hc1 _
    have a3 : shi S k ≤ 19999 := by
      unfold shi
      split
      · exact hc1 _
      · split
        · exact hd
        · exact hc1 _
    rw [in_f, i_m1 (by omega), nI_toInt (by omega), nI_toInt (by omega)]
    by_cases hs : sful S r k = true
    · have := hb.mpr hs
      rw [if_pos (by omega), if_pos hs]
    · have : ¬ (slo S k ≤ fb_ct (tD S (tFc S k)) (px (tV S (tFc S k) r)) ∧ fb_ct (tD S (tFc S k)) (px (tV S (tFc S k) r)) < shi S k) := fun z => hs (hb.mp z)
      rw [if_neg (by omega), if_neg hs]
  unfold X13_selectsByCodes_f X13_selectsByCodes
  refine lp (F := fun q (_ : Unit) k => X13_selectsByCodes_2 E σ q m (nI r) (nI k)) (s := fun _ => ()) (n := srej S r) (fun q k hk => ?_) (fun q => ?_) _ 0 (gN E) (Nat.zero_add _) (by omega)
  · have hlt : k < tK S := Nat.lt_of_lt_of_le hk hle
    have hn := fa_first_no _ _ k hk
    have hn2 : sful S r k = true := by
      cases hb : sful S r k with
      | true => rfl
      | false => rw [hb] at hn; exact absurd hn (by decide)
    obtain ⟨k1, k2, k3⟩ := h.G.2.2.2.2.2.2 k hlt
    show X13_selectsByCodes_2_s E σ (X13_selectsByCodes_2 E σ q) m (nI r) (nI k) = _
    unfold X13_selectsByCodes_2_s
    rw [ob_e h.r, ob_e h.n2, if_neg (nI_ge hlt (by omega)), ob_e h.cl, ob_e (h.of0 hlt), ob_e h.cl, ob_e (h.code hN k1 hr), ob_e h.cl, ob_e (h.lower hN hlt), ob_e h.cl, ob_e (h.upper hN hlt), ob_e (hin k hlt), hn2, if_pos rfl, if_neg i10, ← nI_succ]
  · show X13_selectsByCodes_2_s E σ (X13_selectsByCodes_2 E σ q) m (nI r) (nI (srej S r)) = _
    unfold X13_selectsByCodes_2_s ssel
    rw [ob_e h.r, ob_e h.n2]
    by_cases hf : srej S r < tK S
    · have hy := fa_first_yes (fun i => !sful S r i) (tK S) hf
      have hy2 : sful S r (srej S r) = false := by
        cases hb : sful S r (srej S r) with
        | false => rfl
        | true =>
          have : (!sful S r (srej S r)) = true := hy
          rw [hb] at this
          exact absurd this (by decide)
      obtain ⟨k1, k2, k3⟩ := h.G.2.2.2.2.2.2 _ hf
      rw [if_neg (nI_ge hf (by omega)), ob_e h.cl, ob_e (h.of0 hf), ob_e h.cl, ob_e (h.code hN k1 hr), ob_e h.cl, ob_e (h.lower hN hf), ob_e h.cl, ob_e (h.upper hN hf), ob_e (hin _ hf), hy2, if_neg (by decide : ¬ false = true), if_pos rfl, decide_eq_false (by omega)]
      rfl
    · rw [if_pos (nI_le (by omega) (by omega)), decide_eq_true (by omega)]
      rfl
end MM
