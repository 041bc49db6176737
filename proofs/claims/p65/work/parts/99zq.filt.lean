/-! the law: isFilter -/
/-- the first place from j on where p holds -/
def rjn (p : Nat → Bool) (n j : Nat) : Nat := j + fa_first (fun t => p (j + t)) (n - j)
theorem rjn_end (p : Nat → Bool) (n : Nat) : rjn p n n = n := by
  unfold rjn
  have := fa_first_le (fun t => p (n + t)) (n - n)
  omega
theorem rjn_le {p : Nat → Bool} {n j : Nat} (h : j ≤ n) : rjn p n j ≤ n := by
  unfold rjn
  have := fa_first_le (fun t => p (j + t)) (n - j)
  omega
theorem rjn_0 (p : Nat → Bool) (n : Nat) : rjn p n 0 = fa_first p n := by
  unfold rjn
  have e : (fun t => p (0 + t)) = p := funext fun t => by rw [Nat.zero_add]
  rw [e, Nat.zero_add, Nat.sub_zero]
theorem rjn_yes {p : Nat → Bool} {n j : Nat} (hp : p j = true) : rjn p n j = j := by
  unfold rjn
  by_cases h : 0 < fa_first (fun t => p (j + t)) (n - j)
  · have h1 := fa_first_no (fun t => p (j + t)) (n - j) 0 h
    rw [Nat.add_zero, hp] at h1
    cases h1
  · omega
theorem rjn_no {p : Nat → Bool} {n j : Nat} (hj : j < n) (hp : p j = false) : rjn p n j = rjn p n (j + 1) := by
  unfold rjn
  have h1 := fa_first_le (fun t => p (j + 1 + t)) (n - (j + 1))
  have h2 : fa_first (fun t => p (j + t)) (n - j) = fa_first (fun t => p (j + 1 + t)) (n - (j + 1)) + 1 := by
    apply fa_first_succ
    · intro i hi
      cases i with
      | zero => exact hp
      | succ t =>
        have h3 := fa_first_no (fun t => p (j + 1 + t)) (n - (j + 1)) t (by omega)
        rw [← h3]
        show p (j + (t + 1)) = p (j + 1 + t)
        congr 1
        omega
    · by_cases h4 : fa_first (fun t => p (j + 1 + t)) (n - (j + 1)) < n - (j + 1)
      · left
        have h5 := fa_first_yes (fun t => p (j + 1 + t)) (n - (j + 1)) h4
        rw [← h5]
        show p (j + (fa_first (fun t => p (j + 1 + t)) (n - (j + 1)) + 1)) = p (j + 1 + fa_first (fun t => p (j + 1 + t)) (n - (j + 1)))
        congr 1
        omega
      · right
        omega
    · omega
  rw [h2]
  omega
theorem gsel_iff (S : gT) (c q : Nat) : gsel S c q = true ↔ ∃ r, r < tR S ∧ ssel S r = true ∧ px (tV S c r) = q := dsel_iff _ _ _ _
theorem gsel_lo {S : gT} (hG : GS S) {c p r : Nat} (hc : c < S.1) (hr : r < tR S) (hs : ssel S r = true) (hp : p < 19999) (h0 : fb_ct (gsel S c) p = 0) : (xp p).toInt ≤ (tV S c r).toInt := by
  have hv := (hG.2.2.2.2.1 c r hc hr).1
  have h1 := xp_px hv
  have hq := px_lt hv
  by_cases hlt : px (tV S c r) < p
  · have h2 := fb_ct_zero.mp h0 _ hlt
    rw [(gsel_iff S c _).mpr ⟨r, hr, hs, rfl⟩] at h2
    cases h2
  · rw [← h1, xp_int (by omega), xp_int (by omega)]
    omega
theorem gsel_hi {S : gT} (hG : GS S) {c p r : Nat} (hc : c < S.1) (hr : r < tR S) (hs : ssel S r = true) (hp : p < 19999) (hg : gsel S c p = true) (h0 : fb_ct (gsel S c) p = dsz (gsel S c) - 1) : (tV S c r).toInt ≤ (xp p).toInt := by
  have hv := (hG.2.2.2.2.1 c r hc hr).1
  have h1 := xp_px hv
  have hq := px_lt hv
  have hgq := (gsel_iff S c _).mpr ⟨r, hr, hs, rfl⟩
  by_cases hlt : p < px (tV S c r)
  · have h2 := (ct_lt (q := px (tV S c r)) hg).mpr hlt
    have h3 : fb_ct (gsel S c) (px (tV S c r)) < dsz (gsel S c) := (ct_lt hgq).mpr hq
    omega
  · rw [← h1, xp_int (by omega), xp_int (by omega)]
    omega
theorem gsum_bd {S : gT} (hG : GS S) {c : Nat} (hc : c < S.1) {lo hi : Int} (hb : ∀ r, r < tR S → ssel S r = true → lo ≤ (tV S c r).toInt ∧ (tV S c r).toInt ≤ hi) : ∀ r, r ≤ tR S → lo * (fb_ct (ssel S) r : Int) ≤ (gsumL S c r).toInt ∧ (gsumL S c r).toInt ≤ hi * (fb_ct (ssel S) r : Int) := by
  intro r
  induction r with
  | zero =>
    intro _
    show lo * 0 ≤ (0 : Int64).toInt ∧ (0 : Int64).toInt ≤ hi * 0
    rw [Int.mul_zero, Int.mul_zero]
    exact ⟨Int.le_refl _, Int.le_refl _⟩
  | succ r ih =>
    intro hr
    obtain ⟨i1, i2⟩ := ih (by omega)
    have hle := gsumL_le hG hc r (by omega)
    have hv := (hG.2.2.2.2.1 c r hc (by omega)).1
    have h60 := hG.2.2.2.1
    have e0 : gsumL S c (r + 1) = if ssel S r = true then gsumL S c r + (tV S c r).toInt64 else gsumL S c r := rfl
    rw [e0, fb_ct_succ]
    by_cases hs : ssel S r = true
    · obtain ⟨b1, b2⟩ := hb r (by omega) hs
      simp only [hs, if_true]
      have e : ((tV S c r).toInt64).toInt = (tV S c r).toInt := Int32.toInt_toInt64 _
      have hv1 := hv.1
      have hv2 := hv.2
      rw [fb_addL (by rw [e]; omega) (by rw [e]; omega), e]
      constructor
      · rw [Int.natCast_add, Int.mul_add]
        have : lo * ((1 : Nat) : Int) = lo := by simp
        omega
      · rw [Int.natCast_add, Int.mul_add]
        have : hi * ((1 : Nat) : Int) = hi := by simp
        omega
    · have hs2 : ssel S r = false := by
        cases z : ssel S r with
        | true => exact absurd z hs
        | false => rfl
      simp only [hs2, Bool.false_eq_true, if_false, Nat.add_zero]
      exact ⟨i1, i2⟩
theorem dsel_le (p : Nat → Bool) (v : Nat → Int32) : ∀ n, (∀ r, r < n → vIn (v r)) → dsz (dsel p v n) ≤ fb_ct p n := by
  intro n
  induction n with
  | zero => intro _; exact Nat.le_of_eq dsz_none
  | succ n ih =>
    intro hv
    have h1 := ih (fun r hr => hv r (by omega))
    rw [dsel_s, fb_ct_succ]
    by_cases hp : p n = true
    · rw [if_pos hp, if_pos hp, dsz_dins (px_lt (hv n (by omega)))]
      split <;> omega
    · rw [if_neg hp, if_neg hp]
      exact h1
theorem gsel_le {S : gT} (hG : GS S) {c : Nat} (hc : c < S.1) : dsz (gsel S c) ≤ fb_ct (ssel S) (tR S) := dsel_le _ _ _ (fun r hr => (hG.2.2.2.2.1 c r hc hr).1)
theorem gsel_one {S : gT} {c p q : Nat} (hp : p < 19999) (hq : q < 19999) (h1 : gsel S c p = true) (h2 : fb_ct (gsel S c) p = 0) (h3 : gsel S c q = true) (h4 : fb_ct (gsel S c) q = dsz (gsel S c) - 1) : xp p = xp q ↔ dsz (gsel S c) = 1 := by
  have h5 : fb_ct (gsel S c) p < dsz (gsel S c) := (ct_lt h1).mpr hp
  constructor
  · intro h
    have h6 : p = q := by
      have := congrArg px h
      rwa [px_xp (by omega), px_xp (by omega)] at this
    subst h6
    omega
  · intro h
    have h6 := fb_ct_kth_one h1 h3 (by omega)
    rw [h6]
theorem gful_one (x y d : Int32) : (if 0 ≤ d then (if d ≤ 0 then (if x = y then (1 : Int32) else 0) else (if x ≤ y then 0 else 1)) else (if y ≤ x then 0 else 1)) = if gful x y d = true then 1 else 0 := by
  unfold gful
  by_cases h1 : d < 0
  · have h2 : ¬ 0 ≤ d := by rw [fa_le]; rw [fa_lt] at h1; omega
    rw [if_neg h2, if_pos h1]
    by_cases h3 : y ≤ x
    · have h4 : ¬ x < y := by rw [fa_lt]; rw [fa_le] at h3; omega
      rw [if_pos h3, if_neg (by simpa using h4)]
    · have h4 : x < y := by rw [fa_lt]; rw [fa_le] at h3; omega
      rw [if_neg h3, if_pos (by simpa using h4)]
  · have h2 : 0 ≤ d := by rw [fa_le]; rw [fa_lt] at h1; omega
    rw [if_pos h2, if_neg h1]
    by_cases h3 : d ≤ 0
    · have h4 : ¬ 0 < d := by rw [fa_lt]; rw [fa_le] at h3; omega
      rw [if_pos h3, if_neg h4]
      by_cases h5 : x = y
      · rw [if_pos h5, if_pos (by simpa using h5)]
      · rw [if_neg h5, if_neg (by simpa using h5)]
    · have h4 : 0 < d := by rw [fa_lt]; rw [fa_le] at h3; omega
      rw [if_neg h3, if_pos h4]
      by_cases h5 : x ≤ y
      · have h6 : ¬ y < x := by rw [fa_lt]; rw [fa_le] at h5; omega
        rw [if_pos h5, if_neg (by simpa using h6)]
      · have h6 : y < x := by rw [fa_lt]; rw [fa_le] at h5; omega
        rw [if_neg h5, if_pos (by simpa using h6)]
theorem slo_shi {S : gT} (hG : GS S) {i : Nat} (hi : i < tK S) : slo S i ≤ shi S i ∧ shi S i ≤ dsz (tD S (tFc S i)) := by
  have hp := px_lt (hG.2.2.2.2.2.2 i hi).2.1
  unfold slo shi
  by_cases h1 : tFd S i = -1
  · simp only [h1, if_true]
    exact ⟨Nat.zero_le _, fb_ct_mono _ (by omega)⟩
  · simp only [h1, if_false]
    by_cases h2 : tFd S i = 1
    · simp only [h2, if_true]
      exact ⟨fb_ct_mono _ hp, Nat.le_refl _⟩
    · simp only [h2, if_false]
      exact ⟨fb_ct_mono _ (Nat.le_succ _), fb_ct_mono _ hp⟩
theorem ssel_ful {S : gT} {r i : Nat} (h : ssel S r = true) (hi : i < tK S) : sful S r i = true := by
  have h1 : srej S r = tK S := of_decide_eq_true h
  have h2 := fa_first_no (fun i => !sful S r i) (tK S) i (by unfold srej at h1; omega)
  simpa using h2
section IFS
variable {E : gE} {l : Nat} {ad : Nat → Nat} {Q : gQ} {k sel : Nat}
/-- the conditions of one row, from the last down -/
theorem if_conds (hN : 100000 ≤ gN E) (hG : GQ Q) (hk : k < tR (qS Q)) (hsel : sel = fb_ct (ssel (qS Q)) k) {r_9 : Nat → Int32 → Int32 → Int32 → gS → Option (Int32 × gS)}
    (kk : ∀ w, RW E l ad Q w → LG E l ad Q 1 w (r_9 l (nI (tK (qS Q))) (nI (fb_ct (ssel (qS Q)) (k + 1))) (nI k + 1) w.1)) :
    ∀ (j m : Nat) (w : gWd), j ≤ tK (qS Q) → j < m → RW E l ad Q w → LG E l ad Q 1 w (L_isFilter_28 E r_9 m l (nI (tK (qS Q))) (nI sel) (nI k) (if rjn (fun i => !sful (qS Q) k i) (tK (qS Q)) j = tK (qS Q) then 1 else 0) (if rjn (fun i => !sful (qS Q) k i) (tK (qS Q)) j < tK (qS Q) then nI (rjn (fun i => !sful (qS Q) k i) (tK (qS Q)) j) else -1) (nI j - 1) w.1) := by
  have h60 := hG.1.2.2.2.1
  have hK8 := hG.1.2.2.2.2.2.1
  intro j
  induction j with
  | zero =>
    intro m w hj hm h
    obtain ⟨m, rfl⟩ : ∃ q, m = q + 1 := ⟨m - 1, by omega⟩
    rw [rjn_0]
    show LG E l ad Q 1 w (L_isFilter_28_s E r_9 (L_isFilter_28 E r_9 m) l (nI (tK (qS Q))) (nI sel) (nI k) (if srej (qS Q) k = tK (qS Q) then 1 else 0) (if srej (qS Q) k < tK (qS Q) then nI (srej (qS Q) k) else -1) (nI 0 - 1) w.1)
    unfold L_isFilter_28_s
    refine LG.it (by decide) ?_
    refine LG.call h (K_isSelected hN h.1 hG hk) fun w1 _ h1 => ?_
    have hs : (if ssel (qS Q) k = true then (1 : Int32) else 0) = if srej (qS Q) k = tK (qS Q) then 1 else 0 := by
      unfold ssel
      by_cases z : srej (qS Q) k = tK (qS Q)
      · rw [if_pos z, if_pos (decide_eq_true z)]
      · rw [if_neg z, if_neg (by simpa using z)]
    refine LG.it hs ?_
    refine LG.call h1 (K_rejectedBy hN h1.1 hG hk) fun w2 _ h2 => ?_
    refine LG.it rfl ?_
    have hct := fb_ct_succ (ssel (qS Q)) k
    rw [← hs]
    by_cases hz : ssel (qS Q) k = true
    · refine LG.ie (by rw [if_pos hz]; decide) ?_
      refine LG.ask h2 (K_selectedRow hN h2.1 hG _) ?_
      have hlt : fb_ct (ssel (qS Q)) k < fb_ct (ssel (qS Q)) (tR (qS Q)) := (ct_lt hz).mpr hk
      have hle : fb_ct (ssel (qS Q)) (tR (qS Q)) ≤ tR (qS Q) := fb_ct_le _ _
      refine LG.it ?_ ?_
      · unfold gplc
        rw [nI_toInt (by omega), if_pos ⟨by omega, by omega⟩, Int.toNat_natCast, hsel, kth_uq hk hz]
      · unfold L_isFilter_240
        rw [if_pos hz, ← hsel] at hct
        have h9 := kk w2 h2
        rw [hct, nI_succ] at h9
        exact h9
    · refine LG.it (by rw [if_neg hz]) ?_
      unfold L_isFilter_240
      rw [if_neg hz, ← hsel, Nat.add_zero] at hct
      have h9 := kk w2 h2
      rw [hct] at h9
      exact h9
  | succ j ih =>
    intro m w hj hm h
    obtain ⟨m, rfl⟩ : ∃ q, m = q + 1 := ⟨m - 1, by omega⟩
    have hji : j < tK (qS Q) := by omega
    obtain ⟨f1, f2, f3⟩ := hG.1.2.2.2.2.2.2 j hji
    show LG E l ad Q 1 w (L_isFilter_28_s E r_9 (L_isFilter_28 E r_9 m) l (nI (tK (qS Q))) (nI sel) (nI k) (if rjn (fun i => !sful (qS Q) k i) (tK (qS Q)) (j + 1) = tK (qS Q) then 1 else 0) (if rjn (fun i => !sful (qS Q) k i) (tK (qS Q)) (j + 1) < tK (qS Q) then nI (rjn (fun i => !sful (qS Q) k i) (tK (qS Q)) (j + 1)) else -1) (nI (j + 1) - 1) w.1)
    rw [show nI (j + 1) - 1 = nI j from nI_sub1 (Nat.succ_pos _)]
    generalize hbc : (if rjn (fun i => !sful (qS Q) k i) (tK (qS Q)) (j + 1) = tK (qS Q) then (1 : Int32) else 0) = bc
    generalize hfi : (if rjn (fun i => !sful (qS Q) k i) (tK (qS Q)) (j + 1) < tK (qS Q) then nI (rjn (fun i => !sful (qS Q) k i) (tK (qS Q)) (j + 1)) else -1) = fi
    have hm1 : nI j + -1 = nI j - 1 := by rw [Int32.sub_eq_add_neg]
    -- what is done once the two tests agree
    have hgo : ∀ w1, RW E l ad Q w1 → LG E l ad Q 1 w1 (L_isFilter_156 E r_9 (L_isFilter_28 E r_9 m) l (nI (tK (qS Q))) (nI sel) (nI k) bc fi (nI j) (if sful (qS Q) k j = true then 1 else 0) (if sful (qS Q) k j = true then 1 else 0) w1.1) := by
      intro w1 h1
      have h9 := ih m w1 (by omega) (by omega) h1
      unfold L_isFilter_156
      refine LG.it rfl ?_
      by_cases hf : sful (qS Q) k j = true
      · rw [rjn_no hji (by simp [hf]), hbc, hfi, ← hm1] at h9
        rw [if_pos hf]
        by_cases hb0 : bc = 0
        · refine LG.it hb0 ?_
          unfold L_isFilter_181 L_isFilter_182
          refine LG.ie (by decide) ?_
          unfold L_isFilter_193
          rw [hb0] at h9
          exact h9
        · refine LG.ie hb0 ?_
          refine LG.ie (by decide) ?_
          unfold L_isFilter_182
          refine LG.ie (by decide) ?_
          unfold L_isFilter_193
          have hb1 : bc = 1 := by
            rw [← hbc] at hb0 ⊢
            split
            · rfl
            · rename_i z
              rw [if_neg z] at hb0
              exact absurd rfl hb0
          rw [hb1] at h9
          exact h9
      · rw [rjn_yes (by simp [hf]), if_neg (by omega), if_pos hji, ← hm1] at h9
        rw [if_neg hf]
        have hd : LG E l ad Q 1 w1 (L_isFilter_181 E r_9 (L_isFilter_28 E r_9 m) l (nI (tK (qS Q))) (nI sel) (nI k) fi (nI j) 0 w1.1) := by
          unfold L_isFilter_181 L_isFilter_182
          refine LG.it rfl ?_
          unfold L_isFilter_193
          exact h9
        by_cases hb0 : bc = 0
        · exact LG.it hb0 hd
        · refine LG.ie hb0 ?_
          exact LG.it rfl hd
    -- the value's own test
    have hval : ∀ w1, RW E l ad Q w1 → LG E l ad Q 1 w1 (L_isFilter_77 E r_9 (L_isFilter_28 E r_9 m) l (nI (tK (qS Q))) (nI sel) (nI k) bc fi (nI j) (nI (tFc (qS Q) j)) (if sful (qS Q) k j = true then 1 else 0) w1.1) := by
      intro w1 h1
      have hgf := gful_one (tV (qS Q) (tFc (qS Q) j) k) (tFv (qS Q) j) (tFd (qS Q) j)
      rw [show gful (tV (qS Q) (tFc (qS Q) j) k) (tFv (qS Q) j) (tFd (qS Q) j) = sful (qS Q) k j from rfl] at hgf
      unfold L_isFilter_77
      refine LG.call h1 (K_value hN h1.1 hG f1 hk) fun w2 _ h2 => ?_
      refine LG.call h2 (K_conditionValue hN h2.1 hG hji) fun w3 _ h3 => ?_
      refine LG.call h3 (K_conditionDirection hN h3.1 hG hji) fun w4 _ h4 => ?_
      by_cases c1 : 0 ≤ tFd (qS Q) j
      · refine LG.it c1 ?_
        rw [if_pos c1] at hgf
        refine LG.call h4 (K_conditionDirection hN h4.1 hG hji) fun w5 _ h5 => ?_
        by_cases c2 : tFd (qS Q) j ≤ 0
        · refine LG.it c2 ?_
          rw [if_pos c2] at hgf
          by_cases c3 : tV (qS Q) (tFc (qS Q) j) k = tFv (qS Q) j
          · refine LG.it c3 ?_
            rw [if_pos c3] at hgf
            have h9 := hgo w5 h5
            rw [← hgf] at h9 ⊢
            exact h9
          · refine LG.ie c3 ?_
            rw [if_neg c3] at hgf
            have h9 := hgo w5 h5
            rw [← hgf] at h9 ⊢
            exact h9
        · refine LG.ie c2 ?_
          rw [if_neg c2] at hgf
          by_cases c3 : tV (qS Q) (tFc (qS Q) j) k ≤ tFv (qS Q) j
          · refine LG.it c3 ?_
            rw [if_pos c3] at hgf
            have h9 := hgo w5 h5
            rw [← hgf] at h9 ⊢
            exact h9
          · refine LG.ie c3 ?_
            rw [if_neg c3] at hgf
            have h9 := hgo w5 h5
            rw [← hgf] at h9 ⊢
            exact h9
      · refine LG.ie c1 ?_
        rw [if_neg c1] at hgf
        by_cases c3 : tFv (qS Q) j ≤ tV (qS Q) (tFc (qS Q) j) k
        · refine LG.it c3 ?_
          rw [if_pos c3] at hgf
          have h9 := hgo w4 h4
          rw [← hgf] at h9 ⊢
          exact h9
        · refine LG.ie c3 ?_
          rw [if_neg c3] at hgf
          have h9 := hgo w4 h4
          rw [← hgf] at h9 ⊢
          exact h9
    have hbyc := byCode hG.1 hk hji
    have hdl : shi (qS Q) j ≤ 19999 := Nat.le_trans (slo_shi hG.1 hji).2 (dsz_le _)
    have hsl := (slo_shi hG.1 hji).1
    have hcl : cdr (qS Q) (tFc (qS Q) j) k < dsz (tD (qS Q) (tFc (qS Q) j)) := cd_lt hG.1 f1 hk
    have hdz := dsz_le (tD (qS Q) (tFc (qS Q) j))
    have hno : ∀ w1, RW E l ad Q w1 → ¬ sful (qS Q) k j = true → LG E l ad Q 1 w1 (L_isFilter_76 E r_9 (L_isFilter_28 E r_9 m) l (nI (tK (qS Q))) (nI sel) (nI k) bc fi (nI j) (nI (tFc (qS Q) j)) w1.1) := by
      intro w1 h1 hf
      unfold L_isFilter_76
      have h9 := hval w1 h1
      rw [if_neg hf] at h9
      exact h9
    unfold L_isFilter_28_s
    refine LG.ie (nI_pos (by omega)) ?_
    refine LG.call h (K_conditionColumn hN h.1 hG hji) fun w1 _ h1 => ?_
    refine LG.call h1 (K_code hN h1.1 hG f1 hk) fun w2 _ h2 => ?_
    refine LG.call h2 (K_lowerCode hN h2.1 hG hji) fun w3 _ h3 => ?_
    by_cases c1 : cdr (qS Q) (tFc (qS Q) j) k < slo (qS Q) j
    · refine LG.it (nI_lt c1 (by omega)) ?_
      refine hno w3 h3 (fun z => ?_)
      have := (hbyc.mpr z).1
      unfold cdr at c1
      omega
    · refine LG.ie (nI_nlt (Nat.le_of_not_lt c1) (by unfold cdr at hcl; omega)) ?_
      refine LG.call h3 (K_upperCode hN h3.1 hG hji) fun w4 _ h4 => ?_
      by_cases c2 : shi (qS Q) j ≤ cdr (qS Q) (tFc (qS Q) j) k
      · refine LG.it (nI_le c2 (by unfold cdr at hcl; omega)) ?_
        refine hno w4 h4 (fun z => ?_)
        have := (hbyc.mpr z).2
        unfold cdr at c2
        omega
      · refine LG.ie (nI_ge (Nat.lt_of_not_le c2) (by omega)) ?_
        have hf : sful (qS Q) k j = true := hbyc.mp ⟨Nat.le_of_not_lt c1, Nat.lt_of_not_le c2⟩
        have h9 := hval w4 h4
        rw [if_pos hf] at h9
        exact h9
end IFS
