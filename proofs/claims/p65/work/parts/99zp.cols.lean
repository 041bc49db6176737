/-! the law: areColumns -/
section ACS
variable {E : gE} {l : Nat} {ad : Nat → Nat} {Q : gQ} {c k : Nat} {x1 x2 x4 x6 x7 : Int32}
/-- the bits of one code -/
theorem ac_bits (hN : 100000 ≤ gN E) (hG : GQ Q) (hc : c < (qS Q).1) (hk : k < tR (qS Q)) {r_9 : Nat → Int32 → Int32 → Int32 → gS → Option (Int32 × gS)} {r_138 : Nat → Int32 → Int32 → Int32 → Int32 → Int32 → Int32 → Int32 → Int32 → gS → Option (Int32 × gS)}
    (kk : ∀ w, RW E l ad Q w → LG E l ad Q 1 w (r_138 l x1 x2 (nI c) x4 (nI (gwid (dsz (tD (qS Q) c)))) x6 x7 (nI k + 1) w.1)) :
    ∀ (d i m : Nat) (w : gWd), i + d = gwid (dsz (tD (qS Q) c)) → d < m → RW E l ad Q w → LG E l ad Q 1 w (L_areColumns_150 E r_9 r_138 m l x1 x2 (nI c) x4 (nI (gwid (dsz (tD (qS Q) c)))) x6 x7 (nI k) (nI (cdr (qS Q) c k % 2 ^ i)) (nI i) w.1) := by
  have h15 := wid15 (tD (qS Q) c)
  have h60 := hG.1.2.2.2.1
  have hcl := cd_lt hG.1 hc hk
  generalize hwd : gwid (dsz (tD (qS Q) c)) = wd at *
  have hkw : k * wd + wd ≤ tR (qS Q) * wd := by
    rw [← Nat.succ_mul]
    exact Nat.mul_le_mul_right _ hk
  have hm : tR (qS Q) * wd ≤ 60 * 15 := Nat.mul_le_mul h60 h15.1
  intro d
  induction d with
  | zero =>
    intro i m w hi hm2 h
    obtain ⟨m, rfl⟩ : ∃ q, m = q + 1 := ⟨m - 1, by omega⟩
    show LG E l ad Q 1 w (L_areColumns_150_s E r_9 r_138 (L_areColumns_150 E r_9 r_138 m) l x1 x2 (nI c) x4 (nI wd) x6 x7 (nI k) (nI (cdr (qS Q) c k % 2 ^ i)) (nI i) w.1)
    unfold L_areColumns_150_s
    have hi2 : i = wd := by omega
    subst hi2
    rw [Nat.mod_eq_of_lt (by omega)]
    refine LG.it (nI_le (Nat.le_refl _) (by omega)) ?_
    refine LG.call h (K_code hN h.1 hG hc hk) fun w1 _ h1 => ?_
    refine LG.it rfl ?_
    obtain ⟨p, p1, p2, p3, hv⟩ := K_dictionaryValue hN h1.1 hG hc hcl
    refine LG.call h1 hv fun w2 _ h2 => ?_
    refine LG.call h2 (K_value hN h2.1 hG hc hk) fun w3 _ h3 => ?_
    refine LG.it ((cd_eq hG.1 hc hk p1 p2).mpr p3.symm).symm ?_
    exact kk w3 h3
  | succ d ih =>
    intro i m w hi hm2 h
    obtain ⟨m, rfl⟩ : ∃ q, m = q + 1 := ⟨m - 1, by omega⟩
    show LG E l ad Q 1 w (L_areColumns_150_s E r_9 r_138 (L_areColumns_150 E r_9 r_138 m) l x1 x2 (nI c) x4 (nI wd) x6 x7 (nI k) (nI (cdr (qS Q) c k % 2 ^ i)) (nI i) w.1)
    unfold L_areColumns_150_s
    refine LG.ie (nI_ge (by omega) (by omega)) ?_
    rw [nI_mul, nI_add, rem64 (n := k * wd + i) (by omega), div64 (n := k * wd + i) (by omega)]
    have hq : (k * wd + i) / 64 < (tR (qS Q) * gwid (dsz (tD (qS Q) c)) + 63) / 64 := by rw [hwd]; omega
    obtain ⟨W, hW, hX⟩ := K_packedWord hN h.1 hG hc hq
    refine LG.call h hX fun w1 _ h1 => ?_
    rw [bit_at W (Nat.mod_lt _ (by decide))]
    have hb := hW ((k * wd + i) % 64) (Nat.mod_lt _ (by decide))
    rw [Nat.div_add_mod, hwd, pb_at (by omega) hk] at hb
    have hg : gcd (tD (qS Q) c) (tV (qS Q) c) (tR (qS Q)) k = cdr (qS Q) c k := if_pos hk
    rw [hg] at hb
    rw [hb, bit_in _ _ (by omega), ← nI_succ]
    exact ih (i + 1) m w1 (by omega) (by omega) h1
/-- the rest of a column: runs -/
theorem ac_last (hN : 100000 ≤ gN E) (hG : GQ Q) (hc : c < (qS Q).1) {r_9 : Nat → Int32 → Int32 → Int32 → gS → Option (Int32 × gS)}
    (kk : ∀ w, RW E l ad Q w → LG E l ad Q 1 w (r_9 l (nI (tR (qS Q))) x2 (nI c + 1) w.1)) {w : gWd} (h : RW E l ad Q w) {a b : Nat} (hab : b ≤ a) (ha : a < 2 ^ 31) :
    LG E l ad Q 1 w (L_areColumns_361 E r_9 l (nI (tR (qS Q))) x2 (nI c) (nI a) (nI b) w.1) := by
  have hC := hG.1.1
  unfold L_areColumns_361
  refine LG.ie (nI_nlt hab ha) ?_
  refine LG.call h (K_runsIfSorted hN h.1 hG hc) fun w1 _ h1 => ?_
  refine LG.two h1 (K_bestSortColumn hN h1.1 hG) JK20 fun w2 _ h2 => ?_
  have hb := gbsc_lt (qS Q) (qS Q).1 (by omega)
  refine LG.call h2 (K_runsIfSorted hN h2.1 hG hb) fun w3 _ h3 => ?_
  refine LG.it (nI_le (gbsc_min _ _ _ hc) (by have := grby_le hG.1 c; omega)) ?_
  exact kk w3 h3
theorem ac_runs (hN : 100000 ≤ gN E) (hG : GQ Q) (hc : c < (qS Q).1) {r_9 : Nat → Int32 → Int32 → Int32 → gS → Option (Int32 × gS)}
    (kk : ∀ w, RW E l ad Q w → LG E l ad Q 1 w (r_9 l (nI (tR (qS Q))) x2 (nI c + 1) w.1)) {w : gWd} (h : RW E l ad Q w) :
    LG E l ad Q 1 w (L_areColumns_338 E r_9 l (nI (tR (qS Q))) x2 (nI c) w.1) := by
  have h60 := hG.1.2.2.2.1
  unfold L_areColumns_338
  refine LG.call h (K_longestRun hN h.1 hG hc) fun w1 _ h1 => ?_
  by_cases h0 : tR (qS Q) = 0
  · refine LG.it (by rw [h0]; rfl) ?_
    refine ac_last hN hG hc kk h1 (a := 0) ?_ (by omega)
    rw [h0]
    exact Nat.le_refl _
  · refine LG.ie (nI_ne0 (by omega) (by omega)) ?_
    have hb := gbest_lt (tV (qS Q) c) (tR (qS Q)) (tR (qS Q)) (by omega)
    have hcl := cd_lt hG.1 hc hb
    have hv := K_commonestCode hN h1.1 hG hc
    rw [if_neg h0] at hv
    refine LG.call h1 hv fun w2 _ h2 => ?_
    obtain ⟨p, p1, p2, p3, hf⟩ := K_frequency hN h2.1 hG hc hcl
    refine LG.call h2 hf fun w3 _ h3 => ?_
    have hx : tV (qS Q) c (gbest (tV (qS Q) c) (tR (qS Q)) (tR (qS Q))) = xp p := (cd_eq hG.1 hc hb p1 p2).mpr p3.symm
    have hle : fb_ct (fun r => decide (tV (qS Q) c r = xp p)) (tR (qS Q)) ≤ tR (qS Q) := fb_ct_le _ _
    refine ac_last hN hG hc kk h3 (b := (grun (tV (qS Q) c) (tR (qS Q))).1) ?_ (by omega)
    rw [← hx]
    exact grun_max (n := tR (qS Q)) (fun i hi => gbest_max _ _ _ i hi) _ (Nat.le_refl _)
theorem ac_widths (hN : 100000 ≤ gN E) (hG : GQ Q) (hc : c < (qS Q).1) {r_9 : Nat → Int32 → Int32 → Int32 → gS → Option (Int32 × gS)}
    (kk : ∀ w, RW E l ad Q w → LG E l ad Q 1 w (r_9 l (nI (tR (qS Q))) x2 (nI c + 1) w.1)) {w : gWd} (h : RW E l ad Q w) :
    LG E l ad Q 1 w (L_areColumns_280 E r_9 l (nI (tR (qS Q))) x2 (nI c) (nI (dsz (tD (qS Q) c))) (nI (gwid (dsz (tD (qS Q) c)))) (nI (dsz (tD (qS Q) c) - dsz (dcol (tV (qS Q) c) (tR (qS Q))))) w.1) := by
  have h60 := hG.1.2.2.2.1
  have h15 := wid15 (tD (qS Q) c)
  have hd := dsz_le (tD (qS Q) c)
  have hdc := dcol_le hG.1 hc
  have hm : tR (qS Q) * gwid (dsz (tD (qS Q) c)) ≤ 60 * 15 := Nat.mul_le_mul h60 h15.1
  unfold L_areColumns_280
  refine LG.call h (K_wordCount hN h.1 hG hc) fun w1 _ h1 => ?_
  refine LG.it (by rw [nI_mul, show (63 : Int32) = nI 63 from rfl, nI_add, div64 (by omega)]) ?_
  refine LG.call h1 (K_bitWidthCompacted hN h1.1 hG h1.2 hc) fun w2 _ h2 => ?_
  refine LG.ie (nI_nlt (gwid_mono hdc (by omega)) (by omega)) ?_
  refine LG.call h2 (K_runCount hN h2.1 hG hc) fun w3 _ h3 => ?_
  refine LG.ie (nI_nlt (gruns_le _ _ _) (by omega)) ?_
  obtain ⟨b, hb, hv⟩ := K_isSorted hN h3.1 hG hc
  refine LG.call h3 hv fun w4 _ h4 => ?_
  rcases hb with ⟨hb, ha⟩ | ⟨hb, -⟩
  · refine LG.ie (by rw [hb]; decide) ?_
    refine LG.call h4 (K_runCount hN h4.1 hG hc) fun w5 _ h5 => ?_
    refine LG.it ?_ (ac_runs hN hG hc kk h5)
    rw [nI_sub (by omega), runs_asc (fun r hr => (hG.1.2.2.2.2.1 c r hc hr).1) ha]
    congr 1
    omega
  · exact LG.it hb (ac_runs hN hG hc kk h4)
/-- the rows of a column -/
theorem ac_rows (hN : 100000 ≤ gN E) (hG : GQ Q) (hc : c < (qS Q).1) {r_9 : Nat → Int32 → Int32 → Int32 → gS → Option (Int32 × gS)}
    (kk : ∀ w, RW E l ad Q w → LG E l ad Q 1 w (r_9 l (nI (tR (qS Q))) x2 (nI c + 1) w.1)) :
    ∀ (d k m : Nat) (w : gWd), k + d = tR (qS Q) → d < m → RW E l ad Q w → LG E l ad Q 1 w (L_areColumns_138 E r_9 m l (nI (tR (qS Q))) x2 (nI c) (nI (dsz (tD (qS Q) c))) (nI (gwid (dsz (tD (qS Q) c)))) (nI (tR (qS Q))) (nI (dsz (tD (qS Q) c) - dsz (dcol (tV (qS Q) c) (tR (qS Q))))) (nI k) w.1) := by
  have h60 := hG.1.2.2.2.1
  have h15 := wid15 (tD (qS Q) c)
  have hd := dsz_le (tD (qS Q) c)
  have hdc := dcol_le hG.1 hc
  intro d
  induction d with
  | zero =>
    intro k m w hk hm h
    obtain ⟨m, rfl⟩ : ∃ q, m = q + 1 := ⟨m - 1, by omega⟩
    show LG E l ad Q 1 w (L_areColumns_138_s E r_9 (L_areColumns_138 E r_9 m) l (nI (tR (qS Q))) x2 (nI c) (nI (dsz (tD (qS Q) c))) (nI (gwid (dsz (tD (qS Q) c)))) (nI (tR (qS Q))) (nI (dsz (tD (qS Q) c) - dsz (dcol (tV (qS Q) c) (tR (qS Q))))) (nI k) w.1)
    unfold L_areColumns_138_s
    refine LG.it (nI_le (by omega) (by omega)) ?_
    refine LG.it rfl ?_
    refine LG.call h (K_staleCount hN h.1 hG h.2 hc) fun w1 _ h1 => ?_
    refine LG.it (by rw [nI_sub hdc]) ?_
    have hp : 2 ^ gwid (dsz (tD (qS Q) c)) ≤ 2 ^ 15 := Nat.pow_le_pow_right (by omega) h15.1
    refine LG.ie (by rw [shl1 (by omega)]; exact nI_nlt h15.2 (by omega)) ?_
    by_cases h0 : gwid (dsz (tD (qS Q) c)) = 0
    · refine LG.it (by rw [h0]; decide) ?_
      exact ac_widths hN hG hc kk h1
    · refine LG.ie (nI_nle (by omega) (by omega)) ?_
      refine LG.ie ?_ (ac_widths hN hG hc kk h1)
      rw [nI_sub1 (by omega), shl1 (by omega)]
      have hlt := gwid_no (n := dsz (tD (qS Q) c)) (i := gwid (dsz (tD (qS Q) c)) - 1) (by omega)
      exact nI_ge hlt (by omega)
  | succ d ih =>
    intro k m w hk hm h
    obtain ⟨m, rfl⟩ : ∃ q, m = q + 1 := ⟨m - 1, by omega⟩
    show LG E l ad Q 1 w (L_areColumns_138_s E r_9 (L_areColumns_138 E r_9 m) l (nI (tR (qS Q))) x2 (nI c) (nI (dsz (tD (qS Q) c))) (nI (gwid (dsz (tD (qS Q) c)))) (nI (tR (qS Q))) (nI (dsz (tD (qS Q) c) - dsz (dcol (tV (qS Q) c) (tR (qS Q))))) (nI k) w.1)
    unfold L_areColumns_138_s
    refine LG.ie (nI_ge (by omega) (by omega)) ?_
    have hb := ac_bits (x1 := nI (tR (qS Q))) (x2 := x2) (x4 := nI (dsz (tD (qS Q) c))) (x6 := nI (tR (qS Q))) (x7 := nI (dsz (tD (qS Q) c) - dsz (dcol (tV (qS Q) c) (tR (qS Q))))) (k := k) (r_9 := r_9) (r_138 := L_areColumns_138 E r_9 m) hN hG hc (by omega) (fun w1 h1 => by
      rw [← nI_succ]
      exact ih (k + 1) m w1 (by omega) (by omega) h1) (gwid (dsz (tD (qS Q) c))) 0 (gN E) w (Nat.zero_add _) (by omega) h
    rw [show cdr (qS Q) c k % 2 ^ 0 = 0 from Nat.mod_one _] at hb
    exact hb
/-- the dictionary of a column -/
theorem ac_dict (hN : 100000 ≤ gN E) (hG : GQ Q) (hc : c < (qS Q).1) {r_9 : Nat → Int32 → Int32 → Int32 → gS → Option (Int32 × gS)}
    (kk : ∀ w, RW E l ad Q w → LG E l ad Q 1 w (r_9 l (nI (tR (qS Q))) x2 (nI c + 1) w.1)) :
    ∀ (d k m : Nat) (w : gWd), k + d = dsz (tD (qS Q) c) → d < m → RW E l ad Q w → LG E l ad Q 1 w (L_areColumns_47 E r_9 m l (nI (tR (qS Q))) x2 (nI c) (nI (dsz (tD (qS Q) c))) (nI (gwid (dsz (tD (qS Q) c)))) (nI (fb_ct (fun r => decide (cdr (qS Q) c r < k)) (tR (qS Q)))) (nI (fb_ct (fun j => !usd (qS Q) c j) k)) (nI k) w.1) := by
  have h60 := hG.1.2.2.2.1
  have hd := dsz_le (tD (qS Q) c)
  intro d
  induction d with
  | zero =>
    intro k m w hk hm h
    obtain ⟨m, rfl⟩ : ∃ q, m = q + 1 := ⟨m - 1, by omega⟩
    show LG E l ad Q 1 w (L_areColumns_47_s E r_9 (L_areColumns_47 E r_9 m) l (nI (tR (qS Q))) x2 (nI c) (nI (dsz (tD (qS Q) c))) (nI (gwid (dsz (tD (qS Q) c)))) (nI (fb_ct (fun r => decide (cdr (qS Q) c r < k)) (tR (qS Q)))) (nI (fb_ct (fun j => !usd (qS Q) c j) k)) (nI k) w.1)
    unfold L_areColumns_47_s
    refine LG.it (nI_le (by omega) (by omega)) ?_
    have hk2 : k = dsz (tD (qS Q) c) := by omega
    rw [hk2, all_ct hG.1 hc, stale_ct hG.1 hc]
    exact ac_rows hN hG hc kk (tR (qS Q)) 0 (gN E) w (Nat.zero_add _) (by omega) h
  | succ d ih =>
    intro k m w hk hm h
    obtain ⟨m, rfl⟩ : ∃ q, m = q + 1 := ⟨m - 1, by omega⟩
    show LG E l ad Q 1 w (L_areColumns_47_s E r_9 (L_areColumns_47 E r_9 m) l (nI (tR (qS Q))) x2 (nI c) (nI (dsz (tD (qS Q) c))) (nI (gwid (dsz (tD (qS Q) c)))) (nI (fb_ct (fun r => decide (cdr (qS Q) c r < k)) (tR (qS Q)))) (nI (fb_ct (fun j => !usd (qS Q) c j) k)) (nI k) w.1)
    have hkl : k < dsz (tD (qS Q) c) := by omega
    have hnext : ∀ w1, RW E l ad Q w1 → ∀ s7 : Int32, s7 = nI (fb_ct (fun j => !usd (qS Q) c j) (k + 1)) → LG E l ad Q 1 w1 (L_areColumns_83 E r_9 (L_areColumns_47 E r_9 m) l (nI (tR (qS Q))) x2 (nI c) (nI (dsz (tD (qS Q) c))) (nI (gwid (dsz (tD (qS Q) c)))) (nI (fb_ct (fun r => decide (cdr (qS Q) c r < k + 1)) (tR (qS Q)))) (nI k) (if usd (qS Q) c k = true then 0 else 1) (nI (fb_ct (fun j => !usd (qS Q) c j) k)) w1.1) := by
      intro w1 h1 s7 hs7
      have hsum : nI (fb_ct (fun j => !usd (qS Q) c j) k) + (if usd (qS Q) c k = true then (0 : Int32) else 1) = nI (fb_ct (fun j => !usd (qS Q) c j) (k + 1)) := by
        rw [fb_ct_succ]
        cases usd (qS Q) c k with
        | true => simp
        | false => simp [nI_succ]
      have hgo : ∀ w2, RW E l ad Q w2 → LG E l ad Q 1 w2 (L_areColumns_110 E r_9 (L_areColumns_47 E r_9 m) l (nI (tR (qS Q))) x2 (nI c) (nI (dsz (tD (qS Q) c))) (nI (gwid (dsz (tD (qS Q) c)))) (nI (fb_ct (fun r => decide (cdr (qS Q) c r < k + 1)) (tR (qS Q)))) (nI (fb_ct (fun j => !usd (qS Q) c j) (k + 1))) (nI k) w2.1) := by
        intro w2 h2
        unfold L_areColumns_110
        obtain ⟨p, p1, p2, p3, hv⟩ := K_dictionaryValue hN h2.1 hG hc hkl
        refine LG.call h2 hv fun w3 _ h3 => ?_
        have hf := K_findCode hN h3.1 hG hc (xp p)
        rw [if_pos (dmem_in (vIn_xp p1) (by rw [px_xp (by omega)]; exact p2)), px_xp (by omega), p3] at hf
        refine LG.call h3 hf fun w4 _ h4 => ?_
        refine LG.it rfl ?_
        rw [← nI_succ]
        exact ih (k + 1) m w4 (by omega) (by omega) h4
      unfold L_areColumns_83
      rw [hsum]
      by_cases h0 : k = 0
      · refine LG.it (by rw [h0]; decide) ?_
        exact hgo w1 h1
      · refine LG.ie (nI_nle (by omega) (by omega)) ?_
        rw [nI_sub1 (by omega)]
        obtain ⟨p, p1, p2, p3, hv⟩ := K_dictionaryValue hN h1.1 hG hc (i := k - 1) (by omega)
        refine LG.call h1 hv fun w2 _ h2 => ?_
        obtain ⟨q, q1, q2, q3, hv2⟩ := K_dictionaryValue hN h2.1 hG hc hkl
        refine LG.call h2 hv2 fun w3 _ h3 => ?_
        refine LG.ie ?_ (hgo w3 h3)
        have hpq : p < q := (ct_lt p2).mp (by omega)
        rw [fa_le, xp_int (by omega), xp_int (by omega)]
        omega
    unfold L_areColumns_47_s
    refine LG.ie (nI_ge (by omega) (by omega)) ?_
    obtain ⟨p, p1, p2, p3, hf⟩ := K_frequency hN h.1 hG hc hkl
    rw [fq_eq hG.1 hc p1 p2, p3] at hf
    refine LG.call h hf fun w1 _ h1 => ?_
    obtain ⟨q, q1, q2, q3, hf2⟩ := K_frequency hN h1.1 hG hc hkl
    rw [fq_eq hG.1 hc q1 q2, q3] at hf2
    refine LG.call h1 hf2 fun w2 _ h2 => ?_
    have hle : fb_ct (fun r => decide (cdr (qS Q) c r = k)) (tR (qS Q)) ≤ tR (qS Q) := fb_ct_le _ _
    rw [nI_add, ← fb_ct_lt1]
    by_cases hz : fb_ct (fun r => decide (cdr (qS Q) c r = k)) (tR (qS Q)) = 0
    · refine LG.it (by rw [hz]; rfl) ?_
      have hu : usd (qS Q) c k = false := by
        unfold usd
        rw [hz]
        rfl
      have h9 := hnext w2 h2 _ rfl
      rw [hu] at h9
      exact h9
    · refine LG.ie (nI_ne0 (by omega) (by omega)) ?_
      have hu : usd (qS Q) c k = true := decide_eq_true (by omega)
      have h9 := hnext w2 h2 _ rfl
      rw [hu] at h9
      exact h9
theorem ac_cols (hN : 100000 ≤ gN E) (hG : GQ Q) :
    ∀ (d c m : Nat) (w : gWd), c + d = (qS Q).1 → d < m → RW E l ad Q w → LG E l ad Q 1 w (L_areColumns_9 E m l (nI (tR (qS Q))) (nI (fb_sm (fun c => gwid (dsz (tD (qS Q) c))) c * tR (qS Q))) (nI c) w.1) := by
  have h60 := hG.1.2.2.2.1
  have hC6 := hG.1.2.1
  intro d
  induction d with
  | zero =>
    intro c m w hc hm h
    obtain ⟨m, rfl⟩ : ∃ q, m = q + 1 := ⟨m - 1, by omega⟩
    show LG E l ad Q 1 w (L_areColumns_9_s E (L_areColumns_9 E m) l (nI (tR (qS Q))) (nI (fb_sm (fun c => gwid (dsz (tD (qS Q) c))) c * tR (qS Q))) (nI c) w.1)
    unfold L_areColumns_9_s
    refine LG.ask h (K_columnCount hN h.1 hG) ?_
    refine LG.it (nI_le (by omega) (by omega)) ?_
    refine LG.ask h (K_packedBits hN h.1 hG) ?_
    refine LG.it ?_ (LG.ret h)
    rw [show c = (qS Q).1 by omega]
    rfl
  | succ d ih =>
    intro c m w hc hm h
    obtain ⟨m, rfl⟩ : ∃ q, m = q + 1 := ⟨m - 1, by omega⟩
    have hcl : c < (qS Q).1 := by omega
    show LG E l ad Q 1 w (L_areColumns_9_s E (L_areColumns_9 E m) l (nI (tR (qS Q))) (nI (fb_sm (fun c => gwid (dsz (tD (qS Q) c))) c * tR (qS Q))) (nI c) w.1)
    unfold L_areColumns_9_s
    refine LG.ask h (K_columnCount hN h.1 hG) ?_
    refine LG.ie (nI_ge (by omega) (by omega)) ?_
    refine LG.call h (K_dictionarySize hN h.1 hG hcl) fun w1 _ h1 => ?_
    refine LG.call h1 (K_bitWidth hN h1.1 hG hcl) fun w2 _ h2 => ?_
    have hd := dsz_le (tD (qS Q) c)
    have h9 := ac_dict (x2 := nI (fb_sm (fun c => gwid (dsz (tD (qS Q) c))) (c + 1) * tR (qS Q))) (r_9 := L_areColumns_9 E m) hN hG hcl (fun w3 h3 => by
      rw [← nI_succ]
      exact ih (c + 1) m w3 (by omega) (by omega) h3) (dsz (tD (qS Q) c)) 0 (gN E) w2 (Nat.zero_add _) (by omega) h2
    rw [nI_mul, nI_add, ← Nat.add_mul, ← fb_sm_succ (fun c => gwid (dsz (tD (qS Q) c)))]
    have e0 : fb_ct (fun r => decide (cdr (qS Q) c r < 0)) (tR (qS Q)) = 0 := fb_ct_zero.mpr (fun k _ => decide_eq_false (Nat.not_lt_zero _))
    rw [e0] at h9
    exact h9
theorem K_areColumns (hN : 100000 ≤ gN E) (hG : GQ Q) {w : gWd} (h : RW E l ad Q w) : LG E l ad Q 1 w (L_areColumns_f E l w.1) := by
  have hC6 := hG.1.2.1
  unfold L_areColumns_f L_areColumns
  refine LG.ask h (K_rowCount hN h.1 hG) ?_
  have h9 := ac_cols (l := l) (ad := ad) hN hG (qS Q).1 0 (gN E) w (Nat.zero_add _) (by omega) h
  rw [show fb_sm (fun c => gwid (dsz (tD (qS Q) c))) 0 * tR (qS Q) = 0 from Nat.zero_mul _] at h9
  exact h9
end ACS
