/-! pure: a dictionary is a set of places p, whose values are p - 9999; its entries stand in order -/
def xp (p : Nat) : Int32 := Int32.ofInt ((p : Int) - 9999)
def px (v : Int32) : Nat := (v.toInt + 9999).toNat
def vIn (v : Int32) : Prop := -9999 ≤ v.toInt ∧ v.toInt ≤ 9999
theorem xp_int {p : Nat} (h : p < 100000) : (xp p).toInt = (p : Int) - 9999 := by
  unfold xp
  exact Int32.toInt_ofInt_of_le (by omega) (by omega)
theorem px_xp {p : Nat} (h : p < 100000) : px (xp p) = p := by
  unfold px
  rw [xp_int h]
  omega
theorem xp_px {v : Int32} (h : vIn v) : xp (px v) = v := by
  have h1 := h.1
  have h2 := h.2
  apply Int32.toInt_inj.mp
  have hp : px v < 100000 := by unfold px; omega
  rw [xp_int hp]
  unfold px
  omega
theorem vIn_xp {p : Nat} (h : p < 19999) : vIn (xp p) := by
  unfold vIn
  rw [xp_int (by omega)]
  omega
theorem px_lt {v : Int32} (h : vIn v) : px v < 19999 := by
  have h1 := h.1
  have h2 := h.2
  unfold px
  omega
/-- the set has nothing beyond -/
def sOK (f : Nat → Bool) : Prop := ∀ p, 19999 ≤ p → f p = false
def dsz (f : Nat → Bool) : Nat := fb_ct f 19999
def dmem (f : Nat → Bool) (v : Int32) : Bool := decide (-9999 ≤ v.toInt ∧ v.toInt ≤ 9999) && f (px v)
theorem dsz_le (f : Nat → Bool) : dsz f ≤ 19999 := fb_ct_le f 19999
theorem ct_le {f : Nat → Bool} (h : sOK f) (p : Nat) : fb_ct f p ≤ dsz f := by
  by_cases hp : p ≤ 19999
  · exact fb_ct_mono f hp
  · have e : fb_ct f p = fb_ct f 19999 + fb_ct (fun k => f (19999 + k)) (p - 19999) :=
      (congrArg (fb_ct f) (show p = 19999 + (p - 19999) by omega)).trans (fb_ct_split f 19999 (p - 19999))
    have z : fb_ct (fun k => f (19999 + k)) (p - 19999) = 0 := fb_ct_zero.mpr fun k _ => h _ (by omega)
    unfold dsz
    omega
/-- what the entries hold -/
def enOK (f : Nat → Bool) (g : Nat → Int32) : Prop := ∀ i, i < dsz f → ∃ p, p < 19999 ∧ f p = true ∧ fb_ct f p = i ∧ g i = xp p
theorem en_lt {f : Nat → Bool} {g : Nat → Int32} (h : enOK f g) {i : Nat} (hi : i < dsz f) (v : Int32) : g i < v ↔ i < fb_ct f (px v) := by
  obtain ⟨p, hp, hf, hc, hg⟩ := h i hi
  rw [hg, fa_lt, xp_int (by omega)]
  have hs := fb_ct_succ f p
  rw [hf] at hs
  simp only [if_true] at hs
  constructor
  · intro hlt
    have h2 : p + 1 ≤ px v := by unfold px; omega
    have := fb_ct_mono f h2
    omega
  · intro hlt
    by_cases h3 : (p : Int) - 9999 < v.toInt
    · exact h3
    · exfalso
      have h2 : px v ≤ p := by unfold px; omega
      have := fb_ct_mono f h2
      omega
theorem en_eq {f : Nat → Bool} {g : Nat → Int32} (h : enOK f g) (v : Int32) : (fb_ct f (px v) < dsz f ∧ g (fb_ct f (px v)) = v) ↔ dmem f v = true := by
  unfold dmem
  simp only [Bool.and_eq_true, decide_eq_true_eq]
  constructor
  · rintro ⟨h1, h2⟩
    obtain ⟨p, hp, hf, hc, hg⟩ := h _ h1
    have e : v = xp p := by rw [← h2, hg]
    have e2 : px v = p := by rw [e]; exact px_xp (by omega)
    refine ⟨?_, by rw [e2]; exact hf⟩
    rw [e]
    exact vIn_xp hp
  · rintro ⟨h1, h2⟩
    have h3 : px v < 19999 := px_lt h1
    have hs := fb_ct_succ f (px v)
    rw [h2] at hs
    simp only [if_true] at hs
    have h4 : fb_ct f (px v + 1) ≤ dsz f := fb_ct_mono f (by omega)
    have h5 : fb_ct f (px v) < dsz f := by omega
    refine ⟨h5, ?_⟩
    obtain ⟨p, hp, hf, hc, hg⟩ := h _ h5
    have e : p = px v := fb_ct_kth_one hf h2 hc
    rw [hg, e, xp_px h1]
/-- one value more -/
def dins (f : Nat → Bool) (p : Nat) : Nat → Bool := fun k => if k = p then true else f k
theorem dins_ok {f : Nat → Bool} {p : Nat} (h : sOK f) (hp : p < 19999) : sOK (dins f p) := by
  intro k hk
  unfold dins
  rw [if_neg (by omega)]
  exact h k hk
theorem dins_same {f : Nat → Bool} {p : Nat} (h : f p = true) : dins f p = f := by
  funext k
  unfold dins
  by_cases hk : k = p
  · rw [if_pos hk, hk, h]
  · rw [if_neg hk]
theorem dins_ct {f : Nat → Bool} {p : Nat} (h : f p = false) (n : Nat) : fb_ct (dins f p) n = fb_ct f n + (if p < n then 1 else 0) := by
  by_cases hn : p < n
  · have := fb_ct_upd f true hn
    rw [h] at this
    simp only [Bool.false_eq_true, if_false, if_true] at this
    rw [if_pos hn]
    exact this
  · rw [if_neg hn]
    exact fb_ct_out f true (by omega)
/-- the entries with one more at its place -/
theorem en_ins {f : Nat → Bool} {g : Nat → Int32} {v : Int32} {m : Nat} (h : enOK f g) (hv : vIn v) (hm : dmem f v = false) (hg2 : m = fb_ct f (px v)) :
    dsz (dins f (px v)) = dsz f + 1 ∧ enOK (dins f (px v)) (upd (va_cpy g g m (m + 1) (dsz f - m)) m v) := by
  have hp := px_lt hv
  have hfp : f (px v) = false := by
    cases hq : f (px v) with
    | false => rfl
    | true =>
      exfalso
      have hd : decide (-9999 ≤ v.toInt ∧ v.toInt ≤ 9999) = true := decide_eq_true (show -9999 ≤ v.toInt ∧ v.toInt ≤ 9999 from hv)
      unfold dmem at hm
      rw [hq, hd] at hm
      cases hm
  have hsz : dsz (dins f (px v)) = dsz f + 1 := by
    unfold dsz
    rw [dins_ct hfp, if_pos hp]
  have hmle : m ≤ dsz f := by
    rw [hg2]
    exact fb_ct_mono f (by omega)
  refine ⟨hsz, fun i hi => ?_⟩
  rw [hsz] at hi
  by_cases h1 : i = m
  · refine ⟨px v, hp, by simp [dins], ?_, ?_⟩
    · rw [dins_ct hfp, if_neg (Nat.lt_irrefl _), h1, hg2]
      rfl
    · simp [upd, h1, xp_px hv]
  · by_cases h2 : i < m
    · obtain ⟨p, hp2, hf2, hc2, hg3⟩ := h i (by omega)
      have hlt : p < px v := by
        by_cases hq : p < px v
        · exact hq
        · exfalso
          have := fb_ct_mono f (show px v ≤ p by omega)
          omega
      refine ⟨p, hp2, by unfold dins; rw [if_neg (by omega)]; exact hf2, ?_, ?_⟩
      · rw [dins_ct hfp, if_neg (by omega)]
        exact hc2
      · simp only [upd, if_neg h1, va_cpy]
        rw [if_neg (by omega)]
        exact hg3
    · obtain ⟨p, hp2, hf2, hc2, hg3⟩ := h (i - 1) (by omega)
      have hlt : px v < p := by
        by_cases hq : px v < p
        · exact hq
        · exfalso
          have hne : p ≠ px v := fun e => by rw [e, hfp] at hf2; cases hf2
          have h5 := fb_ct_mono f (show p + 1 ≤ px v by omega)
          have h6 := fb_ct_succ f p
          rw [hf2] at h6
          simp only [if_true] at h6
          omega
      refine ⟨p, hp2, by unfold dins; rw [if_neg (by omega)]; exact hf2, ?_, ?_⟩
      · rw [dins_ct hfp, if_pos hlt, hc2]
        omega
      · simp only [upd, if_neg h1, va_cpy]
        rw [if_pos (by omega)]
        rw [show m + (i - (m + 1)) = i - 1 by omega]
        exact hg3
def capOK (n : Nat) : Prop := ∃ k, k ≤ 11 ∧ n = 16 * 2 ^ k
theorem capOK.le {n : Nat} (h : capOK n) : 16 ≤ n ∧ n ≤ 32768 := by
  obtain ⟨k, hk, rfl⟩ := h
  have h1 : 2 ^ 0 ≤ 2 ^ k := Nat.pow_le_pow_right (by decide) (Nat.zero_le k)
  have h2 : 2 ^ k ≤ 2 ^ 11 := Nat.pow_le_pow_right (by decide) hk
  omega
theorem capOK.dbl {n : Nat} (h : capOK n) (h2 : n ≤ 19999) : capOK (2 * n) ∧ 2 * n ≤ 32768 := by
  obtain ⟨k, hk, rfl⟩ := h
  have hk2 : k + 1 ≤ 11 := by
    by_cases h3 : k + 1 ≤ 11
    · exact h3
    · exfalso
      have : 2 ^ 11 ≤ 2 ^ k := Nat.pow_le_pow_right (by decide) (by omega)
      omega
  have e : 2 * (16 * 2 ^ k) = 16 * 2 ^ (k + 1) := by rw [Nat.pow_succ]; omega
  refine ⟨⟨k + 1, hk2, e⟩, ?_⟩
  rw [e]
  exact (capOK.le ⟨k + 1, hk2, rfl⟩).2
theorem capOK.lt {a b : Nat} (ha : capOK a) (hb : capOK b) (h : a < b) : 2 * a ≤ b := by
  obtain ⟨k, hk, rfl⟩ := ha
  obtain ⟨l, hl, rfl⟩ := hb
  have h1 : k < l := by
    by_cases h3 : k < l
    · exact h3
    · exfalso
      have : 2 ^ l ≤ 2 ^ k := Nat.pow_le_pow_right (by decide) (by omega)
      omega
  have h2 : 2 ^ (k + 1) ≤ 2 ^ l := Nat.pow_le_pow_right (by decide) h1
  rw [Nat.pow_succ] at h2
  omega
/-- dictionary (j, c) at a holds the set f -/
def RD (E : gE) (w : gWd) (a j c : Nat) (f : Nat → Bool) : Prop :=
  sOK f ∧ ∃ (en : Nat) (g : Nat → Int32), Ob w (8, j, c) a 2 [.ref en, .int (nI (dsz f))] ∧ ArI E w (9, j, c) en (w.2.2 j c) g ∧ capOK (w.2.2 j c) ∧ dsz f ≤ w.2.2 j c ∧ enOK f g
theorem RD.fr {E : gE} {J : Nat × Nat × Nat → Prop} {w w' : gWd} {a j c : Nat} {f : Nat → Bool} (h : RD E w a j c f) (hF : FS E J w w') (h8 : ¬ J (8, j, c)) (h9 : ¬ J (9, j, c)) : RD E w' a j c f := by
  obtain ⟨h0, en, g, h1, h2, h3, h4, h5⟩ := h
  have e := hF.2.2.1 j c h9
  exact ⟨h0, en, g, h1.fr hF h8, by rw [e]; exact h2.fr hF h9, by rw [e]; exact h3, by rw [e]; exact h4, h5⟩
theorem RD.size {E : gE} {w : gWd} {a j c : Nat} {f : Nat → Bool} (h : RD E w a j c f) : X3_size_f E w.1 a = some (nI (dsz f)) := by
  obtain ⟨h0, en, g, h1, h2, h3, h4, h5⟩ := h
  unfold X3_size_f X3_size
  rw [ob_e (gfI_o h1.2.2 rfl)]
theorem cb_loop {E : gE} {w : gWd} {a j c : Nat} {f : Nat → Bool} {en : Nat} {g : Nat → Int32} (h1 : Ob w (8, j, c) a 2 [.ref en, .int (nI (dsz f))]) (h2 : ArI E w (9, j, c) en (w.2.2 j c) g) (h3 : w.2.2 j c ≤ 32768) (h4 : dsz f ≤ w.2.2 j c) (h5 : enOK f g) (v : Int32) :
    ∀ (k lo hi n : Nat), hi - lo ≤ k → k < n → lo ≤ fb_ct f (px v) → fb_ct f (px v) ≤ hi → hi ≤ dsz f → X3_countBelow_7 E w.1 n a v (nI lo) (nI hi) = some (nI (fb_ct f (px v))) := by
  intro k
  induction k with
  | zero =>
    intro lo hi n hk hn ha hb hc
    obtain ⟨n, rfl⟩ : ∃ m, n = m + 1 := ⟨n - 1, by omega⟩
    show X3_countBelow_7_s E w.1 (X3_countBelow_7 E w.1 n) a v (nI lo) (nI hi) = _
    unfold X3_countBelow_7_s
    rw [if_pos (nI_le (by omega) (by omega))]
    rw [show lo = fb_ct f (px v) by omega]
  | succ k ih =>
    intro lo hi n hk hn ha hb hc
    obtain ⟨n, rfl⟩ : ∃ m, n = m + 1 := ⟨n - 1, by omega⟩
    show X3_countBelow_7_s E w.1 (X3_countBelow_7 E w.1 n) a v (nI lo) (nI hi) = _
    unfold X3_countBelow_7_s
    by_cases hlt : hi ≤ lo
    · rw [if_pos (nI_le hlt (by omega))]
      rw [show lo = fb_ct f (px v) by omega]
    · rw [if_neg (nI_ge (by omega) (by omega)), ob_e (gfR_o h1.2.2 rfl)]
      have hm : (nI lo + nI hi) / (2 : Int32) = nI ((lo + hi) / 2) := by
        rw [nI_add, show (2 : Int32) = nI 2 from rfl, pk_div (by omega) (by omega) (by omega)]
      rw [hm, ob_e (h2.2.2.ld (show (lo + hi) / 2 < w.2.2 j c by omega) (by omega))]
      have hq := en_lt h5 (show (lo + hi) / 2 < dsz f by omega) v
      by_cases hle : v ≤ g ((lo + hi) / 2)
      · rw [if_pos hle]
        have h6 : ¬ (lo + hi) / 2 < fb_ct f (px v) := fun z => by
          have := hq.mpr z
          rw [fa_lt] at this
          rw [fa_le] at hle
          omega
        exact ih lo ((lo + hi) / 2) n (by omega) (by omega) ha (by omega) (by omega)
      · rw [if_neg hle]
        have h6 : (lo + hi) / 2 < fb_ct f (px v) := hq.mp (by rw [fa_le] at hle; rw [fa_lt]; omega)
        rw [← nI_succ]
        exact ih ((lo + hi) / 2 + 1) hi n (by omega) (by omega) (by omega) hb hc
theorem RD.below {E : gE} {w : gWd} {a j c : Nat} {f : Nat → Bool} (hN : 100000 ≤ gN E) (h : RD E w a j c f) (v : Int32) : X3_countBelow_f E w.1 a v = some (nI (fb_ct f (px v))) := by
  obtain ⟨h0, en, g, h1, h2, h3, h4, h5⟩ := h
  unfold X3_countBelow_f X3_countBelow
  rw [ob_e (gfI_o h1.2.2 rfl)]
  have h7 := dsz_le f
  exact cb_loop h1 h2 h3.le.2 h4 h5 v (dsz f) 0 (dsz f) (gN E) (by omega) (by omega) (Nat.zero_le _) (ct_le h0 _) (Nat.le_refl _)
theorem RD.find {E : gE} {w : gWd} {a j c : Nat} {f : Nat → Bool} (hN : 100000 ≤ gN E) (h : RD E w a j c f) (v : Int32) : X3_find_f E w.1 a v = some (if dmem f v = true then nI (fb_ct f (px v)) else -1) := by
  have hB := h.below hN v
  obtain ⟨h0, en, g, h1, h2, h3, h4, h5⟩ := h
  have h7 := dsz_le f
  have h8 := ct_le h0 (px v)
  have h9 := en_eq h5 v
  unfold X3_find_f X3_find
  rw [ob_e (gcl_o h1.2.2), ob_e hB, ob_e (gfI_o h1.2.2 rfl)]
  by_cases hlt : dsz f ≤ fb_ct f (px v)
  · rw [if_pos (nI_le hlt (by omega)), if_neg (fun z => by have := h9.mpr z; omega)]
    rfl
  · have h10 := h3.le
    rw [if_neg (nI_ge (by omega) (by omega)), ob_e (gfR_o h1.2.2 rfl), ob_e (h2.2.2.ld (by omega) (by omega))]
    by_cases he : g (fb_ct f (px v)) = v
    · rw [if_pos he, if_pos (h9.mp ⟨by omega, he⟩)]
    · rw [if_neg he, if_neg (fun z => he (h9.mpr z).2)]
      rfl
theorem RD.holds {E : gE} {w : gWd} {a j c : Nat} {f : Nat → Bool} (hN : 100000 ≤ gN E) (h : RD E w a j c f) (v : Int32) : X3_holds_f E w.1 a v = some (if dmem f v = true then 1 else 0) := by
  have hB := h.find hN v
  have h8 := ct_le h.1 (px v)
  have h7 := dsz_le f
  obtain ⟨h0, en, g, h1, h2, h3, h4, h5⟩ := h
  unfold X3_holds_f X3_holds
  rw [ob_e (gcl_o h1.2.2), ob_e hB]
  by_cases hm : dmem f v = true
  · rw [if_pos hm, if_pos hm, if_neg (nI_pos (by omega))]
  · rw [if_neg hm, if_neg hm, if_pos (by decide)]
theorem RD.entry {E : gE} {w : gWd} {a j c i : Nat} {f : Nat → Bool} (h : RD E w a j c f) (hi : i < dsz f) : ∃ p, p < 19999 ∧ f p = true ∧ fb_ct f p = i ∧ X3_entry_f E w.1 a (nI i) = some (xp p) := by
  obtain ⟨h0, en, g, h1, h2, h3, h4, h5⟩ := h
  obtain ⟨p, hp, hf, hc, hg⟩ := h5 i hi
  refine ⟨p, hp, hf, hc, ?_⟩
  have h10 := h3.le
  unfold X3_entry_f X3_entry
  rw [ob_e (gfR_o h1.2.2 rfl), ob_e (h2.2.2.ld (by omega) (by omega)), hg]
