/-! the law: its table -/
def tv (n : Nat) (g : Nat → Int32) (r c : Nat) : Int32 := nI (mo ((cv n g (1 + r) >>> ((nI c * (2 : Int32)) &&& 31)) + ((3 : Int32) * nI c)) 9) - 4
theorem sm9 {m : Nat} (hm : m < 9) : smI (nI m - 4) ∧ vSm (nI m - 4) := by
  have : (nI m - 4).toInt = (m : Int) - 4 := by
    have e3 : (4 : Int32).toInt = 4 := rfl
    rw [fb_subI (by rw [nI_toInt (by omega), e3]; omega) (by rw [nI_toInt (by omega), e3]; omega), nI_toInt (by omega), e3]
  unfold vSm
  rw [this]
  omega
theorem tv_sm (n : Nat) (g : Nat → Int32) (r c : Nat) : smI (tv n g r c) := (sm9 (mo_lt _ (by omega))).1
theorem tv_v (n : Nat) (g : Nat → Int32) (r c : Nat) : vSm (tv n g r c) := (sm9 (mo_lt _ (by omega))).2
theorem tbS_len {x : Nat → Nat → Int32} {C : Nat} (hC : C ≤ 4) : ∀ k r, (tbS x C k r).length ≤ 13 * k
  | 0, _ => Nat.le_refl _
  | k + 1, r => by
    have h1 := tbS_len (x := x) hC k (r + 1)
    have h2 := rwS_len (x := x r) C 0
    have h3 : ([59] : List Nat).length = 1 := rfl
    show (_ ++ _ ++ _ : List Nat).length ≤ _
    rw [List.length_append, List.length_append, h3]
    omega
theorem tbS_lt {x : Nat → Nat → Int32} {C : Nat} (hx : ∀ r i, smI (x r i)) : ∀ k r, lt128 (tbS x C k r)
  | 0, _ => lt128_nil
  | k + 1, r => lt128_ap (lt128_ap (rwS_lt (hx r) C 0) (lt128_1 (by omega))) (tbS_lt hx k (r + 1))
theorem hdS_lt {C : Nat} (hC : C ≤ 6) : lt128 (hdS C) := fun i => by
  match i with
  | 0 => show 116 < 128; omega
  | 1 => show 97 < 128; omega
  | 2 => show 98 < 128; omega
  | 3 => show 108 < 128; omega
  | 4 => show 101 < 128; omega
  | 5 => show 32 < 128; omega
  | 6 => show 48 + C < 128; omega
  | 7 => show 59 < 128; omega
  | i + 8 =>
    rw [getD_out (by show 8 ≤ i + 8; omega)]
    omega
section TBL
variable {E : gE} {l b a a0 n y : Nat} {ad : Nat → Nat} {w0 w : gWd} {g : Nat → Int32} {C R : Nat}
theorem tb_one (hO : gOK E) (hro : gro E a0 = true) (hg : gcs E a0 = .inl (0, n, .inl g)) (hn : n < 2 ^ 31) {r c sa mm : Nat} {tx s : List Nat} {r62 : Nat → Nat → Nat → Int32 → Int32 → Nat → Int32 → gS → Option (Int32 × gS)} {r72 : Nat → Nat → Nat → Int32 → Int32 → Nat → Int32 → Int32 → gS → Option (Int32 × gS)} (hr : r < 1000) (hS : sOf E sa s) (hF : FT E w0 w) (hB : SB E w w0.1.2.1 a mm tx) (hR : RM E w (y + 602)) (hl : tx.length + s.length + 2 ≤ 900) :
    ∃ w' mm', L_law_93 E r62 r72 a0 l b (nI C) (nI R) a (nI r) (nI c) sa a w.1 = r72 a0 l b (nI C) (nI R) a (nI r) (nI (c + 1)) w'.1 ∧ FT E w0 w' ∧ SB E w' w0.1.2.1 a mm' (tx ++ s ++ dcT (tv n g r c).toInt) ∧ ∀ y, RM E w (y + 602) → RM E w' y := by
  obtain ⟨w1, m1, e1, K1, F1, B1⟩ := hB.strB hS hF (by omega) (show RM E w (y + 301 + 301) from hR)
  have hR1 := K1 (y + 301) hR
  obtain ⟨w2, m2, e2, K2, F2, B2⟩ := B1.num hO (tv_sm n g r c).1 (tv_sm n g r c).2 F1 (by rw [List.length_append]; omega) hR1
  refine ⟨w2, m2, ?_, F2, B2, fun y hy => K2 y (K1 (y + 301) hy)⟩
  unfold L_law_93
  rw [ob_e hB.cl, ob_e e1, show (1 : Int32) + nI r = nI (1 + r) from nI_add 1 r]
  show ob (L_cell_f E w1.1 a0 (nI (1 + r))) _ = _
  rw [ob_e (K_cell hro hg hn (by omega))]
  rw [ob_e (show L_most_f E w1.1 ((cv n g (1 + r) >>> ((nI c * (2 : Int32)) &&& 31)) + ((3 : Int32) * nI c)) (9 : Int32) = _ from K_most _ (n := 9) (by omega) (by omega))]
  show ob (gcl w1.1 a 11) _ = _
  rw [ob_e B1.cl]
  show ob (J4_append_bf812_f E a (tv n g r c) w1.1) _ = _
  rw [ob_e e2, nI_succ]
/-- a row of the table -/
theorem tb_row (hO : gOK E) (hro : gro E a0 = true) (hg : gcs E a0 = .inl (0, n, .inl g)) (hn : n < 2 ^ 31) (hC : C ≤ 6) {r : Nat} (hr : r < 1000) {r62 : Nat → Nat → Nat → Int32 → Int32 → Nat → Int32 → gS → Option (Int32 × gS)} :
    ∀ (k c m : Nat) (w : gWd) (tx : List Nat) (mm : Nat), c + k = C → k < m → FT E w0 w → SB E w w0.1.2.1 a mm tx → RM E w (y + 602 * k + 301) → tx.length + 3 * k + 1 ≤ 900 →
    ∃ w' mm', L_law_72 E r62 m a0 l b (nI C) (nI R) a (nI r) (nI c) w.1 = r62 a0 l b (nI C) (nI R) a (nI (r + 1)) w'.1 ∧ FT E w0 w' ∧ SB E w' w0.1.2.1 a mm' (tx ++ rwS (tv n g r) k c ++ [59]) ∧ ∀ y, RM E w (y + 602 * k + 301) → RM E w' y := by
  intro k
  induction k with
  | zero =>
    intro c m w tx mm hc hm hF hB hR hl
    obtain ⟨m, rfl⟩ : ∃ q, m = q + 1 := ⟨m - 1, by omega⟩
    obtain ⟨w1, m1, e1, K1, F1, B1⟩ := hB.chr (c := 59) (by omega) hF (by omega) (y := y) (hR.dn (by omega))
    refine ⟨w1, m1, ?_, F1, ?_, fun y hy => K1 y (hy.dn (by omega))⟩
    · show L_law_72_s E r62 (L_law_72 E r62 m) a0 l b (nI C) (nI R) a (nI r) (nI c) w.1 = _
      unfold L_law_72_s
      rw [if_pos (nI_le (by omega) (by omega)), ob_e hB.cl, ob_e (show J4_append_cf468_f E a (59 : Int32) w.1 = _ from e1), nI_succ]
    · show SB E w1 w0.1.2.1 a m1 (tx ++ [] ++ [59])
      rw [List.append_nil]
      exact B1
  | succ k ih =>
    intro c m w tx mm hc hm hF hB hR hl
    obtain ⟨m, rfl⟩ : ∃ q, m = q + 1 := ⟨m - 1, by omega⟩
    have hsl : (if c = 0 then ([] : List Nat) else [32]).length ≤ 1 := by
      by_cases z : c = 0
      · rw [if_pos z]; exact Nat.zero_le _
      · rw [if_neg z]; exact Nat.le_refl _
    have key : ∃ sa, sOf E sa (if c = 0 then ([] : List Nat) else [32]) ∧ L_law_72 E r62 (m + 1) a0 l b (nI C) (nI R) a (nI r) (nI c) w.1 = L_law_93 E r62 (L_law_72 E r62 m) a0 l b (nI C) (nI R) a (nI r) (nI c) sa a w.1 := by
      by_cases z : c = 0
      · refine ⟨gst E 2, by rw [if_pos z]; exact hO.2.1 2 (by omega), ?_⟩
        show L_law_72_s E r62 (L_law_72 E r62 m) a0 l b (nI C) (nI R) a (nI r) (nI c) w.1 = _
        unfold L_law_72_s
        rw [if_neg (nI_ge (by omega) (by omega)), if_pos (show nI c ≤ (0 : Int32) from (le_lit (a := c) (k := 0) (by omega) (by omega)).mpr (by omega))]
      · refine ⟨gst E 1, by rw [if_neg z]; exact hO.2.1 1 (by omega), ?_⟩
        show L_law_72_s E r62 (L_law_72 E r62 m) a0 l b (nI C) (nI R) a (nI r) (nI c) w.1 = _
        unfold L_law_72_s
        rw [if_neg (nI_ge (by omega) (by omega)), if_neg (show ¬ nI c ≤ (0 : Int32) from fun y => by
          have := (le_lit (a := c) (k := 0) (by omega) (by omega)).mp y
          omega)]
    obtain ⟨sa, hS, e0⟩ := key
    obtain ⟨w1, m1, e1, F1, B1, K1⟩ := tb_one (r62 := r62) (r72 := L_law_72 E r62 m) (l := l) (b := b) (C := C) (R := R) (c := c) hO hro hg hn hr hS hF hB (y := y + 602 * k + 301) (hR.dn (by omega)) (by omega)
    have hlen : (tx ++ (if c = 0 then ([] : List Nat) else [32]) ++ dcT (tv n g r c).toInt).length + 3 * k + 1 ≤ 900 := by
      have h2 := dcT_len (tv n g r c).toInt
      have h4 : (if (tv n g r c).toInt < 0 then 2 else 1) ≤ 2 := by split <;> omega
      rw [List.length_append, List.length_append, h2]
      omega
    obtain ⟨w2, m2, e2, F2, B2, K2⟩ := ih (c + 1) m w1 _ m1 (by omega) (by omega) F1 B1 (K1 (y + 602 * k + 301) (hR.dn (by omega))) hlen
    refine ⟨w2, m2, e0.trans (e1.trans e2), F2, ?_, fun y hy => K2 y (K1 (y + 602 * k + 301) (hy.dn (by omega)))⟩
    have e : tx ++ rwS (tv n g r) (k + 1) c ++ [59] = tx ++ (if c = 0 then ([] : List Nat) else [32]) ++ dcT (tv n g r c).toInt ++ rwS (tv n g r) k (c + 1) ++ [59] := by
      show tx ++ ((if c = 0 then ([] : List Nat) else [32]) ++ dcT (tv n g r c).toInt ++ rwS (tv n g r) k (c + 1)) ++ [59] = _
      simp only [List.append_assoc]
    rw [e]
    exact B2
/-- all rows of the table -/
theorem tb_rows (hO : gOK E) (hro : gro E a0 = true) (hg : gcs E a0 = .inl (0, n, .inl g)) (hn : n < 2 ^ 31) (hC : C ≤ 4) (hR12 : R ≤ 12) :
    ∀ (k r m : Nat) (w : gWd) (tx : List Nat) (mm : Nat), r + k = R → k < m → FT E w0 w → SB E w w0.1.2.1 a mm tx → RM E w (y + 2709 * k) → tx.length + 13 * k ≤ 900 →
    ∃ w' mm' m', L_law_62 E m a0 l b (nI C) (nI R) a (nI r) w.1 = L_law_62_s E (L_law_62 E m') a0 l b (nI C) (nI R) a (nI R) w'.1 ∧ FT E w0 w' ∧ SB E w' w0.1.2.1 a mm' (tx ++ tbS (tv n g) C k r) ∧ ∀ y, RM E w (y + 2709 * k) → RM E w' y := by
  intro k
  induction k with
  | zero =>
    intro r m w tx mm hr hm hF hB hR hl
    obtain ⟨m, rfl⟩ : ∃ q, m = q + 1 := ⟨m - 1, by omega⟩
    refine ⟨w, mm, m, ?_, hF, ?_, fun y hy => hy⟩
    · rw [show r = R by omega]
      rfl
    · show SB E w w0.1.2.1 a mm (tx ++ [])
      rw [List.append_nil]
      exact hB
  | succ k ih =>
    intro r m w tx mm hr hm hF hB hR hl
    obtain ⟨m, rfl⟩ : ∃ q, m = q + 1 := ⟨m - 1, by omega⟩
    have hN := hO.1
    obtain ⟨w1, m1, e1, F1, B1, K1⟩ := tb_row (r62 := L_law_62 E m) (l := l) (b := b) (R := R) (y := y + 2709 * k) hO hro hg hn (show C ≤ 6 by omega) (show r < 1000 by omega) C 0 (gN E) w tx mm (by omega) (by omega) hF hB (hR.dn (by omega)) (by omega)
    have hlr := rwS_len (x := tv n g r) C 0
    have hlen : (tx ++ rwS (tv n g r) C 0 ++ [59]).length + 13 * k ≤ 900 := by
      have h3 : ([59] : List Nat).length = 1 := rfl
      rw [List.length_append, List.length_append, h3]
      omega
    obtain ⟨w2, m2, q2, e2, F2, B2, K2⟩ := ih (r + 1) m w1 _ m1 (by omega) (by omega) F1 B1 (K1 (y + 2709 * k) (hR.dn (by omega))) hlen
    refine ⟨w2, m2, q2, ?_, F2, ?_, fun y hy => K2 y (K1 (y + 2709 * k) (hy.dn (by omega)))⟩
    · show L_law_62_s E (L_law_62 E m) a0 l b (nI C) (nI R) a (nI r) w.1 = _
      unfold L_law_62_s
      rw [if_neg (nI_ge (by omega) (by omega))]
      exact e1.trans e2
    · have e : tx ++ tbS (tv n g) C (k + 1) r = tx ++ rwS (tv n g r) C 0 ++ [59] ++ tbS (tv n g) C k (r + 1) := by
        show tx ++ (rwS (tv n g r) C 0 ++ [59] ++ tbS (tv n g) C k (r + 1)) = _
        simp only [List.append_assoc]
      rw [e]
      exact B2
end TBL
