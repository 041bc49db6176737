/-! pure: codes, dictionaries, runs of one column -/
theorem fb_ct_lt1 (f : Nat → Nat) (k n : Nat) : fb_ct (fun r => decide (f r < k + 1)) n = fb_ct (fun r => decide (f r < k)) n + fb_ct (fun r => decide (f r = k)) n := by
  rw [← fb_ct_or (p := fun r => decide (f r < k)) (q := fun r => decide (f r = k)) (fun i _ h => by
    have h1 := of_decide_eq_true h.1
    have h2 := of_decide_eq_true h.2
    omega)]
  refine fb_ct_cong (fun i _ => ?_)
  by_cases h1 : f i < k
  · simp [h1]; omega
  · by_cases h2 : f i = k
    · simp [h2]
    · simp [h1, h2]; omega
/-- the code of a row -/
def cdr (S : gT) (c r : Nat) : Nat := fb_ct (tD S c) (px (tV S c r))
theorem cd_lt {S : gT} (hG : GS S) {c r : Nat} (hc : c < S.1) (hr : r < tR S) : cdr S c r < dsz (tD S c) := by
  obtain ⟨h1, h2⟩ := hG.2.2.2.2.1 c r hc hr
  exact (ct_lt h2).mpr (px_lt h1)
theorem cd_eq {S : gT} (hG : GS S) {c r p : Nat} (hc : c < S.1) (hr : r < tR S) (hp : p < 19999) (hD : tD S c p = true) : tV S c r = xp p ↔ cdr S c r = fb_ct (tD S c) p := by
  obtain ⟨h1, h2⟩ := hG.2.2.2.2.1 c r hc hr
  unfold cdr
  constructor
  · intro h
    rw [h, px_xp (by omega)]
  · intro h
    have h3 := fb_ct_kth_one h2 hD h
    rw [← h3, xp_px h1]
theorem fq_eq {S : gT} (hG : GS S) {c p : Nat} (hc : c < S.1) (hp : p < 19999) (hD : tD S c p = true) : fb_ct (fun r => decide (tV S c r = xp p)) (tR S) = fb_ct (fun r => decide (cdr S c r = fb_ct (tD S c) p)) (tR S) :=
  fb_ct_cong (fun r hr => decide_eq_decide.mpr (cd_eq hG hc hr hp hD))
/-- a code that a row has -/
def usd (S : gT) (c k : Nat) : Bool := decide (0 < fb_ct (fun r => decide (cdr S c r = k)) (tR S))
theorem usd_ct {S : gT} (hG : GS S) {c : Nat} (hc : c < S.1) : ∀ p, p ≤ 19999 → fb_ct (dcol (tV S c) (tR S)) p = fb_ct (usd S c) (fb_ct (tD S c) p) := by
  intro p
  induction p with
  | zero => intro _; rfl
  | succ p ih =>
    intro hp
    rw [fb_ct_succ, ih (by omega), fb_ct_succ]
    by_cases hD : tD S c p = true
    · rw [if_pos hD, fb_ct_succ]
      congr 1
      have e : dcol (tV S c) (tR S) p = usd S c (fb_ct (tD S c) p) := by
        rw [Bool.eq_iff_iff, dcol_iff]
        unfold usd
        rw [decide_eq_true_eq, fb_ct_pos]
        constructor
        · rintro ⟨r, h1, h2⟩
          refine ⟨r, h1, decide_eq_true ?_⟩
          unfold cdr
          rw [h2]
        · rintro ⟨r, h1, h2⟩
          have h3 := (cd_eq hG hc h1 (by omega) hD).mpr (of_decide_eq_true h2)
          exact ⟨r, h1, by rw [h3, px_xp (by omega)]⟩
      rw [e]
    · rw [if_neg hD, if_neg]
      · rfl
      · intro h
        obtain ⟨r, h1, h2⟩ := (dcol_iff _ _ _).mp h
        exact hD (by rw [← h2]; exact (hG.2.2.2.2.1 c r hc h1).2)
theorem dcol_usd {S : gT} (hG : GS S) {c : Nat} (hc : c < S.1) : dsz (dcol (tV S c) (tR S)) = fb_ct (usd S c) (dsz (tD S c)) := usd_ct hG hc 19999 (Nat.le_refl _)
theorem dcol_le {S : gT} (hG : GS S) {c : Nat} (hc : c < S.1) : dsz (dcol (tV S c) (tR S)) ≤ dsz (tD S c) := by
  rw [dcol_usd hG hc]
  exact fb_ct_le _ _
/-- stale entries, told by their codes -/
theorem stale_ct {S : gT} (hG : GS S) {c : Nat} (hc : c < S.1) : fb_ct (fun k => !usd S c k) (dsz (tD S c)) = dsz (tD S c) - dsz (dcol (tV S c) (tR S)) := by
  have := fb_ct_not (usd S c) (dsz (tD S c))
  rw [dcol_usd hG hc]
  omega
theorem all_ct {S : gT} (hG : GS S) {c : Nat} (hc : c < S.1) : fb_ct (fun r => decide (cdr S c r < dsz (tD S c))) (tR S) = tR S :=
  fb_ct_all.mpr (fun r hr => decide_eq_true (cd_lt hG hc hr))
theorem gwid_mono {m n : Nat} (h : m ≤ n) (hn : n ≤ 2 ^ 30) : gwid m ≤ gwid n := by
  by_cases hlt : gwid n < gwid m
  · have h1 := gwid_no hlt
    have h2 := (gwid_yes hn).1
    omega
  · omega
theorem dsz_dins {f : Nat → Bool} {p : Nat} (hp : p < 19999) : dsz (dins f p) = dsz f + if f p = true then 0 else 1 := by
  cases h : f p with
  | true => rw [dins_same h]; simp
  | false =>
    unfold dsz
    rw [dins_ct h, if_pos hp]
    simp
theorem dcol_s (v : Nat → Int32) (n : Nat) : dcol v (n + 1) = dins (dcol v n) (px (v n)) := rfl
/-- equal values stand side by side -/
def grpd (v : Nat → Int32) (n : Nat) : Prop := ∀ i j k, i ≤ j → j ≤ k → k < n → v i = v k → v j = v k
theorem runs_grp {v : Nat → Int32} : ∀ n, (∀ r, r < n → vIn (v r)) → grpd v n → gruns v (fun k => k) n = dsz (dcol v n) := by
  intro n
  induction n with
  | zero => intro _ _; exact dsz_none.symm
  | succ n ih =>
    intro hv hg
    have h1 := ih (fun r hr => hv r (by omega)) (fun i j k a b c d => hg i j k a b (by omega) d)
    rw [dcol_s, dsz_dins (px_lt (hv n (by omega))), ← h1]
    unfold gruns
    rw [fb_ct_succ]
    congr 1
    have e : (dcol v n (px (v n)) = true) ↔ ¬ (n = 0 ∨ v n ≠ v (n - 1)) := by
      rw [dcol_iff]
      constructor
      · rintro ⟨r, h2, h3⟩ h4
        have h5 : v r = v n := by rw [← xp_px (hv r (by omega)), h3, xp_px (hv n (by omega))]
        have h6 := hg r (n - 1) n (by omega) (by omega) (by omega) h5
        rcases h4 with h4 | h4
        · omega
        · exact h4 h6.symm
      · intro h4
        have h5 : n ≠ 0 := fun z => h4 (Or.inl z)
        have h6 : v n = v (n - 1) := by
          by_cases z : v n = v (n - 1)
          · exact z
          · exact absurd (Or.inr z) h4
        exact ⟨n - 1, by omega, by rw [← h6]⟩
    by_cases hd : dcol v n (px (v n)) = true
    · rw [if_pos hd, if_neg]
      intro z
      exact (e.mp hd) (of_decide_eq_true z)
    · rw [if_neg hd, if_pos]
      apply decide_eq_true
      by_cases z : n = 0 ∨ v n ≠ v (n - 1)
      · exact z
      · exact absurd (e.mpr z) hd
theorem asc_le {v : Nat → Int32} {n : Nat} (h : gasc v n) : ∀ d i, i + d < n → (v i).toInt ≤ (v (i + d)).toInt := by
  intro d
  induction d with
  | zero => intro i _; exact Int.le_refl _
  | succ d ih =>
    intro i hi
    have h1 := ih i (by omega)
    have h2 := h (i + d + 1) (by omega) (by omega)
    rw [Nat.add_sub_cancel, fa_le] at h2
    exact Int.le_trans h1 h2
theorem asc_grp {v : Nat → Int32} {n : Nat} (h : gasc v n) : grpd v n := by
  intro i j k h1 h2 h3 h4
  have a1 := asc_le h (j - i) i (by omega)
  have a2 := asc_le h (k - j) j (by omega)
  rw [show i + (j - i) = j by omega] at a1
  rw [show j + (k - j) = k by omega] at a2
  rw [h4] at a1
  rw [fa_eq]
  omega
theorem runs_asc {v : Nat → Int32} {n : Nat} (hv : ∀ r, r < n → vIn (v r)) (h : gasc v n) : gruns v (fun k => k) n = dsz (dcol v n) := runs_grp n hv (asc_grp h)
/-- the longest run is no longer than the commonest value is frequent -/
theorem grun_cur (v : Nat → Int32) : ∀ r, (grun v (r + 1)).2 ≤ fb_ct (fun i => decide (v i = v r)) (r + 1) := by
  intro r
  induction r with
  | zero =>
    show (if 0 < 0 ∧ v 0 = v (0 - 1) then (grun v 0).2 + 1 else 1) ≤ _
    rw [if_neg (by omega), fb_ct_succ]
    simp
  | succ r ih =>
    show (if 0 < r + 1 ∧ v (r + 1) = v (r + 1 - 1) then (grun v (r + 1)).2 + 1 else 1) ≤ _
    rw [fb_ct_succ]
    have e : (if decide (v (r + 1) = v (r + 1)) = true then 1 else 0) = 1 := by simp
    rw [e]
    split
    · rename_i h
      have h2 : v (r + 1) = v r := h.2
      rw [h2]
      omega
    · omega
theorem grun_max {v : Nat → Int32} {M n : Nat} (hM : ∀ i, i < n → gocc v n (v i) ≤ M) : ∀ r, r ≤ n → (grun v r).1 ≤ M := by
  intro r
  induction r with
  | zero => intro _; exact Nat.zero_le _
  | succ r ih =>
    intro hr
    have h1 := ih (by omega)
    have h2 := grun_cur v r
    have h3 := hM r (by omega)
    have h4 : fb_ct (fun i => decide (v i = v r)) (r + 1) ≤ gocc v n (v r) := fb_ct_mono _ hr
    show max (grun v r).1 (grun v (r + 1)).2 ≤ M
    omega
theorem gbest_max (v : Nat → Int32) (n : Nat) : ∀ r, ∀ i, i < r → gocc v n (v i) ≤ gocc v n (v (gbest v n r)) := by
  intro r
  induction r with
  | zero => intro i hi; omega
  | succ r ih =>
    intro i hi
    rw [gbest_s]
    by_cases h0 : r = 0
    · rw [if_pos h0]
      rw [show i = 0 by omega]
      exact Nat.le_refl _
    · rw [if_neg h0]
      split
      · rename_i hb
        by_cases hir : i = r
        · rw [hir]
          exact Nat.le_refl _
        · have := ih i (by omega)
          rcases hb with hb | hb
          · omega
          · have := hb.1
            omega
      · rename_i hb
        by_cases hir : i = r
        · rw [hir]
          by_cases z : gocc v n (v (gbest v n r)) < gocc v n (v r)
          · exact absurd (Or.inl z) hb
          · omega
        · exact ih i (by omega)
theorem gbsc_min (S : gT) : ∀ k i, i < k → grby S (gbsc S k) ≤ grby S i := by
  intro k
  induction k with
  | zero => intro i hi; omega
  | succ k ih =>
    intro i hi
    show grby S (if k = 0 then 0 else if grby S k < grby S (gbsc S k) then k else gbsc S k) ≤ _
    by_cases h0 : k = 0
    · rw [if_pos h0, show i = 0 by omega]
      exact Nat.le_refl _
    · rw [if_neg h0]
      split
      · by_cases hik : i = k
        · rw [hik]
          exact Nat.le_refl _
        · have := ih i (by omega)
          omega
      · by_cases hik : i = k
        · rw [hik]
          omega
        · exact ih i (by omega)
theorem gstr_min (S : gT) : ∀ k i, i < k → fb_ct (fun r => sful S r (gstr S k)) (tR S) ≤ fb_ct (fun r => sful S r i) (tR S) := by
  intro k
  induction k with
  | zero => intro i hi; omega
  | succ k ih =>
    intro i hi
    show fb_ct (fun r => sful S r (if k = 0 then 0 else if fb_ct (fun r => sful S r k) (tR S) < fb_ct (fun r => sful S r (gstr S k)) (tR S) then k else gstr S k)) (tR S) ≤ _
    by_cases h0 : k = 0
    · simp only [if_pos h0]
      rw [show i = 0 by omega]
      exact Nat.le_refl _
    · simp only [if_neg h0]
      by_cases hlt : fb_ct (fun r => sful S r k) (tR S) < fb_ct (fun r => sful S r (gstr S k)) (tR S)
      · simp only [if_pos hlt]
        by_cases hik : i = k
        · rw [hik]
          exact Nat.le_refl _
        · have := ih i (by omega)
          omega
      · simp only [if_neg hlt]
        by_cases hik : i = k
        · rw [hik]
          omega
        · exact ih i (by omega)
theorem pb_at {wd n k i : Nat} {cd : Nat → Nat} (hi : i < wd) (hk : k < n) : pb wd cd n (k * wd + i) = (cd k).testBit i := by
  unfold pb
  have e1 : (k * wd + i) / wd = k := by
    rw [Nat.mul_comm, Nat.mul_add_div (by omega), Nat.div_eq_of_lt (by omega), Nat.add_zero]
  have e2 : (k * wd + i) % wd = i := by
    rw [Nat.mul_comm, Nat.mul_add_mod, Nat.mod_eq_of_lt (by omega)]
  rw [e1, e2]
  simp [hk]
theorem shl1 {i : Nat} (hi : i < 31) : (1 : Int32) <<< (nI i &&& 31) = nI (2 ^ i) := by
  apply Int32.toBitVec_inj.mp
  rw [nf_sh i (by omega)]
  apply BitVec.eq_of_toNat_eq
  rw [BitVec.toNat_twoPow]
  show 2 ^ i % 2 ^ 32 = (BitVec.ofNat 32 (2 ^ i)).toNat
  rw [BitVec.toNat_ofNat]
theorem shl0 (i : Nat) (hi : i < 31) : (0 : Int32) <<< (nI i &&& 31) = 0 := by
  apply b_ext
  intro j hj
  rw [b_shl i (by omega) (0 : Int32) hj, b_0, b_0]
  simp
/-- a further bit of a code -/
theorem bit_in (x i : Nat) (hi : i < 30) : nI (x % 2 ^ i) ||| ((if x.testBit i = true then (1 : Int64) else 0).toInt32 <<< (nI i &&& 31)) = nI (x % 2 ^ (i + 1)) := by
  have hms := ms_bit x i
  have h5 : x % 2 ^ i < 2 ^ i := Nat.mod_lt _ (Nat.two_pow_pos _)
  cases htb : x.testBit i with
  | true =>
    rw [htb] at hms
    rw [if_pos rfl, show (1 : Int64).toInt32 = 1 from rfl, shl1 (by omega), fa_or, hms]
    congr 1
    have h6 := Nat.two_pow_add_eq_or_of_lt h5 1
    simp only [Nat.mul_one] at h6
    rw [Nat.or_comm, ← h6]
    simp
    omega
  | false =>
    rw [htb] at hms
    rw [if_neg (by decide), show (0 : Int64).toInt32 = 0 from rfl, shl0 i (by omega), show x % 2 ^ (i + 1) = x % 2 ^ i by rw [hms]; simp]
    simp
