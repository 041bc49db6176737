/-! the law's texts are read -/
/-- the text s lies at p -/
def AT (u : Nat → Nat) (L p : Nat) (s : List Nat) : Prop := p + s.length ≤ L ∧ ∀ i, i < s.length → u (p + i) = s.getD i 0
/-- the values i .. i+k of a row -/
def rwS (x : Nat → Int32) : Nat → Nat → List Nat
  | 0, _ => []
  | k + 1, i => (if i = 0 then [] else [32]) ++ dcT (x i).toInt ++ rwS x k (i + 1)
/-- the rows r .. r+k of a table -/
def tbS (x : Nat → Nat → Int32) (C : Nat) : Nat → Nat → List Nat
  | 0, _ => []
  | k + 1, r => rwS (x r) C 0 ++ [59] ++ tbS x C k (r + 1)
section PRS
variable {u : Nat → Nat} {L p : Nat} {s t : List Nat} {d : Int} {x : Nat → Int32}
theorem AT.fst (h : AT u L p (s ++ t)) : AT u L p s := by
  obtain ⟨h1, h2⟩ := h
  rw [List.length_append] at h1 h2
  exact ⟨by omega, fun i hi => by rw [h2 i (by omega), ap_lo hi]⟩
theorem AT.snd (h : AT u L p (s ++ t)) : AT u L (p + s.length) t := by
  obtain ⟨h1, h2⟩ := h
  rw [List.length_append] at h1 h2
  refine ⟨by omega, fun i hi => ?_⟩
  have := h2 (s.length + i) (by omega)
  rw [ap_hi (by omega), show s.length + i - s.length = i by omega, ← Nat.add_assoc] at this
  exact this
theorem AT.bkd (h : AT u L p s) {i : Nat} (hi : i < s.length) : kd u L (p + i) = bk (s.getD i 0) := by
  unfold kd
  rw [if_pos (by have := h.1; omega), h.2 i hi]
theorem AT.kd0 {c : Nat} (h : AT u L p (c :: s)) : kd u L p = bk c := h.bkd (i := 0) (Nat.succ_pos _)
theorem tS_0 (h : kd u L p ≠ 1) : tS u L p = p := by
  unfold tS
  rw [fa_first_succ (k := 0) (fun i hi => absurd hi (Nat.not_lt_zero _)) (by
    by_cases z : L - p = 0
    · exact .inr z.symm
    · exact .inl (by simpa using h)) (Nat.zero_le _)]
  rfl
theorem kd_ltL (h : kd u L p ≠ 0) : p < L := by
  by_cases z : p < L
  · exact z
  · unfold kd at h
    rw [if_neg z] at h
    exact absurd rfl h
theorem tS_1 (h : kd u L p = 1) (h2 : kd u L (p + 1) ≠ 1) : tS u L p = p + 1 := by
  have hp := kd_ltL (u := u) (L := L) (p := p) (by omega)
  unfold tS
  rw [fa_first_succ (k := 1) (fun i hi => by
    rw [show i = 0 by omega]
    simp [h]) (by
    by_cases z : L - p = 1
    · exact .inr z.symm
    · exact .inl (by simpa using h2)) (by omega)]
theorem tE_d (h : kd u L p = 3) (h2 : kd u L (p + 1) ≠ 3) : tE u L p = p + 1 := by
  have hp := kd_ltL (u := u) (L := L) (p := p) (by omega)
  unfold tE
  rw [if_pos (.inr h), fa_first_succ (k := 1) (fun i hi => by
    rw [show i = 0 by omega]
    simp) (by
    by_cases z : L - p = 1
    · exact .inr z.symm
    · exact .inl (by rw [h]; simpa using h2)) (by omega)]
theorem tE_c (h2 : kd u L p ≠ 2) (h3 : kd u L p ≠ 3) (hp : p < L) : tE u L p = p + 1 := by
  unfold tE
  rw [if_neg (by omega)]
  omega
theorem pNum_d {lo hi n : Nat} (hn : n < 10) (h1 : lo ≤ n) (h2 : n ≤ hi) (h : kd u L p = 3) (he : kd u L (p + 1) ≠ 3) (hu : u p = 48 + n) : pNum u L lo hi p = .inr (n, tS u L (p + 1)) := by
  have ht : tNum u L p = n := by
    unfold tNum
    rw [if_pos h, tE_d h he, show p + 1 - p = 1 by omega]
    show (if (0 : Nat) < 100000 then 10 * 0 + (u (p + 0) - 48) else 0) = n
    rw [if_pos (by omega), Nat.add_zero, hu]
    omega
  unfold pNum
  rw [if_pos h, ht, if_neg (by omega)]
  unfold tN
  rw [tE_d h he]
theorem bk_d {n : Nat} (hn : n < 10) : bk (48 + n) = 3 := by
  unfold bk
  rw [if_neg (by omega), if_pos (by omega)]
/-- a small number -/
theorem pInt_dc {v : Int32} (h1 : -10 < v.toInt) (h2 : v.toInt < 10) (h : AT u L p (dcT v.toInt)) (he : kd u L (p + (dcT v.toInt).length) ≠ 3) :
    kd u L p ≠ 1 ∧ kd u L p ≠ 0 ∧ pInt u L p = .inr (v, tS u L (p + (dcT v.toInt).length)) := by
  by_cases z : v.toInt < 0
  · rw [dcT_len, if_pos z] at he ⊢
    have e : dcT v.toInt = [45, 48 + v.toInt.natAbs] := by unfold dcT; rw [if_pos z]
    rw [e] at h
    have k0 : kd u L p = 5 := h.bkd (i := 0) (by show 0 < 2; omega)
    have k1 : kd u L (p + 1) = 3 := by
      have := h.bkd (i := 1) (by show 1 < 2; omega)
      rw [this]
      exact bk_d (n := v.toInt.natAbs) (by omega)
    have u1 : u (p + 1) = 48 + v.toInt.natAbs := h.2 1 (by show 1 < 2; omega)
    refine ⟨by omega, by omega, ?_⟩
    have ht : tN u L p = p + 1 := by
      unfold tN
      rw [tE_c (by omega) (by omega) (kd_ltL (show kd u L p ≠ 0 by omega)), tS_0 (show kd u L (p + 1) ≠ 1 by omega)]
    unfold pInt
    rw [if_pos k0, ht, pNum_d (n := v.toInt.natAbs) (by omega) (by omega) (by omega) k1 he u1]
    show (Sum.inr (-(nI v.toInt.natAbs), _) : gPr Int32) = _
    rw [← small_neg z h1]
  · rw [dcT_len, if_neg z] at he ⊢
    have e : dcT v.toInt = [48 + v.toInt.natAbs] := by unfold dcT; rw [if_neg z]
    rw [e] at h
    have k0 : kd u L p = 3 := by
      rw [h.kd0]
      exact bk_d (n := v.toInt.natAbs) (by omega)
    have u0 : u p = 48 + v.toInt.natAbs := h.2 0 (by show 0 < 1; omega)
    refine ⟨by omega, by omega, ?_⟩
    unfold pInt pInt1
    rw [if_neg (by omega), pNum_d (n := v.toInt.natAbs) (by omega) (by omega) (by omega) k0 he u0]
    show (Sum.inr (nI v.toInt.natAbs, _) : gPr Int32) = _
    rw [← small_pos (by omega)]
abbrev smI (v : Int32) : Prop := -10 < v.toInt ∧ v.toInt < 10
theorem b32 : bk 32 = 1 := by decide
theorem b59 : bk 59 = 4 := by decide
theorem row_ok (hx : ∀ i, smI (x i)) : ∀ (k i p : Nat), AT u L p (rwS x k i) → kd u L (p + (rwS x k i).length) ≠ 3 → kd u L (p + (rwS x k i).length) ≠ 1 →
    ∃ r, pRow u L k (tS u L p) = .inr (r, p + (rwS x k i).length) ∧ ∀ j, j < k → r j = x (i + j) := by
  intro k
  induction k with
  | zero =>
    intro i p h he he1
    refine ⟨fun _ => 0, ?_, fun j hj => absurd hj (Nat.not_lt_zero _)⟩
    show (Sum.inr (_, tS u L p) : gPr (Nat → Int32)) = _
    rw [tS_0 (show kd u L p ≠ 1 from he1)]
    rfl
  | succ k ih =>
    intro i p h he he1
    have hln : (rwS x (k + 1) i).length = (if i = 0 then ([] : List Nat) else [32]).length + (dcT (x i).toInt).length + (rwS x k (i + 1)).length := by
      show (_ ++ _ ++ _ : List Nat).length = _
      rw [List.length_append, List.length_append]
    have hA : AT u L p ((if i = 0 then [] else [32]) ++ dcT (x i).toInt ++ rwS x k (i + 1)) := h
    have hA1 := hA.fst.snd
    have hA2 := hA.snd
    rw [List.length_append, ← Nat.add_assoc] at hA2
    rw [hln] at he he1 ⊢
    have hsep : p + (if i = 0 then ([] : List Nat) else [32]).length + (dcT (x i).toInt).length + (rwS x k (i + 1)).length = p + ((if i = 0 then ([] : List Nat) else [32]).length + (dcT (x i).toInt).length + (rwS x k (i + 1)).length) := by omega
    rw [← hsep] at he he1 ⊢
    obtain ⟨r, e, hr⟩ := ih (i + 1) _ hA2 he he1
    have hk3 : kd u L (p + (if i = 0 then ([] : List Nat) else [32]).length + (dcT (x i).toInt).length) ≠ 3 := by
      match k, hA2, he with
      | 0, _, he => exact he
      | k + 1, hA2, _ =>
        have e : rwS x (k + 1) (i + 1) = 32 :: (dcT (x (i + 1)).toInt ++ rwS x k (i + 1 + 1)) := by
          show (if i + 1 = 0 then ([] : List Nat) else [32]) ++ dcT (x (i + 1)).toInt ++ rwS x k (i + 1 + 1) = _
          rw [if_neg (by omega), List.append_assoc]
          rfl
        rw [e] at hA2
        rw [hA2.kd0, b32]
        omega
    obtain ⟨c1, c0, c2⟩ := pInt_dc (hx i).1 (hx i).2 hA1 hk3
    have hts : tS u L p = p + (if i = 0 then ([] : List Nat) else [32]).length := by
      by_cases z : i = 0
      · rw [if_pos z] at c1 ⊢
        exact tS_0 c1
      · rw [if_neg z] at c1 hA ⊢
        exact tS_1 (by
          have := hA.fst.fst.kd0
          rw [b32] at this
          exact this) c1
    refine ⟨fun j => if j = 0 then x i else r (j - 1), ?_, fun j hj => ?_⟩
    · show pB (pInt u L (tS u L p)) _ = _
      rw [hts, c2]
      show pB (pRow u L k _) _ = _
      rw [e]
      rfl
    · show (if j = 0 then x i else r (j - 1)) = _
      by_cases z : j = 0
      · rw [if_pos z, z]
        rfl
      · rw [if_neg z, hr _ (by omega)]
        congr 1
        omega
theorem rwS_hd (hx : ∀ i, smI (x i)) {k : Nat} (hk : 1 ≤ k) (h : AT u L p (rwS x k 0)) : kd u L p ≠ 0 ∧ kd u L p ≠ 1 := by
  obtain ⟨k, rfl⟩ : ∃ q, k = q + 1 := ⟨k - 1, by omega⟩
  have hA : AT u L p ([] ++ dcT (x 0).toInt ++ rwS x k (0 + 1)) := h
  have hB := hA.fst.snd
  have hB : AT u L p (dcT (x 0).toInt) := hB
  by_cases z : (x 0).toInt < 0
  · have e : dcT (x 0).toInt = [45, 48 + (x 0).toInt.natAbs] := by unfold dcT; rw [if_pos z]
    rw [e] at hB
    rw [hB.kd0]
    decide
  · have e : dcT (x 0).toInt = [48 + (x 0).toInt.natAbs] := by unfold dcT; rw [if_neg z]
    rw [e] at hB
    rw [hB.kd0, bk_d (by have := hx 0; omega)]
    decide
/-- a row with nothing behind it -/
theorem row1_ok (hx : ∀ i, smI (x i)) {k : Nat} (h : AT u L 0 (rwS x k 0)) (hL : (rwS x k 0).length = L) : ∃ r, pRow1 u L k (tS u L 0) = .inr (r, L) ∧ ∀ j, j < k → r j = x j := by
  have hz : kd u L (0 + (rwS x k 0).length) = 0 := by
    rw [hL, Nat.zero_add]
    exact (kd_end (Nat.le_refl L)).mpr rfl
  obtain ⟨r, e, hr⟩ := row_ok hx k 0 0 h (by omega) (by omega)
  refine ⟨r, ?_, fun j hj => by rw [hr j hj, Nat.zero_add]⟩
  unfold pRow1
  rw [e]
  show (if kd u L (0 + (rwS x k 0).length) = 0 then _ else _) = _
  rw [if_pos hz, hL, Nat.zero_add]
theorem tab_ok {x : Nat → Nat → Int32} {C : Nat} (hC : 1 ≤ C) (hx : ∀ r i, smI (x r i)) : ∀ (k m r p : Nat), k ≤ m → AT u L p (tbS x C k r) → p + (tbS x C k r).length = L →
    ∃ q, pTab u L C m (tS u L p) = .inr ((k, q), L) ∧ ∀ i c, i < k → c < C → q (i * C + c) = x (r + i) c := by
  intro k
  induction k with
  | zero =>
    intro m r p hm h hL
    have hp : p = L := hL
    have hz : kd u L p = 0 := (kd_end (by omega)).mpr hp
    refine ⟨fun _ => 0, ?_, fun i c hi => absurd hi (Nat.not_lt_zero _)⟩
    rw [tS_0 (by omega)]
    match m with
    | 0 =>
      show (if kd u L p = 0 then _ else _) = _
      rw [if_pos hz, hp]
    | m + 1 =>
      show (if kd u L p = 0 then _ else _) = _
      rw [if_pos hz, hp]
  | succ k ih =>
    intro m r p hm h hL
    obtain ⟨m, rfl⟩ : ∃ q, m = q + 1 := ⟨m - 1, by omega⟩
    have hA : AT u L p (rwS (x r) C 0 ++ [59] ++ tbS x C k (r + 1)) := h
    have hln : (tbS x C (k + 1) r).length = (rwS (x r) C 0).length + 1 + (tbS x C k (r + 1)).length := by
      show (_ ++ _ ++ _ : List Nat).length = _
      rw [List.length_append, List.length_append]
      rfl
    have hA2 := hA.snd
    rw [List.length_append, ← Nat.add_assoc] at hA2
    have hA2 : AT u L (p + (rwS (x r) C 0).length + 1) (tbS x C k (r + 1)) := hA2
    obtain ⟨q, e, hq⟩ := ih m (r + 1) _ (by omega) hA2 (by omega)
    have hs := hA.fst.snd.kd0
    rw [b59] at hs
    obtain ⟨g, e1, hg⟩ := row_ok (hx r) C 0 p hA.fst.fst (by omega) (by omega)
    obtain ⟨z0, z1⟩ := rwS_hd (hx r) hC hA.fst.fst
    have hts := tS_0 z1
    have hsem : pSemi u L (p + (rwS (x r) C 0).length) = .inr ((), tS u L (p + (rwS (x r) C 0).length + 1)) := by
      unfold pSemi tN
      rw [if_pos hs, tE_c (by omega) (by omega) (kd_ltL (show kd u L (p + (rwS (x r) C 0).length) ≠ 0 by omega))]
    refine ⟨fun j => if j < C then g j else q (j - C), ?_, fun i c hi hc => ?_⟩
    · show (if kd u L (tS u L p) = 0 then _ else pB (pRow u L C (tS u L p)) _) = _
      rw [if_neg (by rw [hts]; exact z0), e1]
      show pB (pSemi u L _) _ = _
      rw [hsem]
      show pB (pTab u L C m _) _ = _
      rw [e]
      rfl
    · show (if i * C + c < C then g (i * C + c) else q (i * C + c - C)) = _
      match i with
      | 0 =>
        rw [Nat.zero_mul, Nat.zero_add, if_pos hc, hg c hc, Nat.zero_add, Nat.add_zero]
      | i + 1 =>
        have hm : (i + 1) * C = i * C + C := Nat.succ_mul _ _
        rw [if_neg (by omega), show (i + 1) * C + c - C = i * C + c by omega, hq i c (by omega) hc, show r + 1 + i = r + (i + 1) by omega]
def hdS (C : Nat) : List Nat := [116, 97, 98, 108, 101, 32, 48 + C, 59]
/-- the law's table -/
theorem table_ok {x : Nat → Nat → Int32} {C R : Nat} (hC : 1 ≤ C) (hC6 : C ≤ 6) (hR : R ≤ 60) (hx : ∀ r i, smI (x r i)) (h : AT u L 0 (hdS C ++ tbS x C R 0)) (hL : (hdS C ++ tbS x C R 0).length = L) :
    ∃ q, pTable u L (tS u L 0) = .inr ((C, R, q), L) ∧ ∀ i c, i < R → c < C → q (i * C + c) = x i c := by
  have hl8 : (hdS C).length = 8 := rfl
  rw [List.length_append, hl8] at hL
  have hB := h.fst
  have hB2 := h.snd
  rw [hl8] at hB2
  have hk : ∀ i, i < 8 → kd u L i = bk ((hdS C).getD i 0) := fun i hi => by
    have := hB.bkd (i := i) hi
    rw [Nat.zero_add] at this
    exact this
  have hu : ∀ i, i < 8 → u i = (hdS C).getD i 0 := fun i hi => by
    have := hB.2 i hi
    rw [Nat.zero_add] at this
    exact this
  have k0 : kd u L 0 = 2 := hk 0 (by omega)
  have k1 : kd u L 1 = 2 := hk 1 (by omega)
  have k2 : kd u L 2 = 2 := hk 2 (by omega)
  have k3 : kd u L 3 = 2 := hk 3 (by omega)
  have k4 : kd u L 4 = 2 := hk 4 (by omega)
  have k5 : kd u L 5 = 1 := hk 5 (by omega)
  have k6 : kd u L 6 = 3 := (hk 6 (by omega)).trans (bk_d (by omega))
  have k7 : kd u L 7 = 4 := hk 7 (by omega)
  have t0 : tS u L 0 = 0 := tS_0 (by omega)
  have e0 : tE u L 0 = 5 := by
    unfold tE
    rw [if_pos (.inl k0), fa_first_succ (k := 5) (fun i hi => by
      rw [k0, Nat.zero_add]
      match i, hi with
      | 0, _ => simp [k0]
      | 1, _ => simp [k1]
      | 2, _ => simp [k2]
      | 3, _ => simp [k3]
      | 4, _ => simp [k4]) (.inl (by rw [k0, Nat.zero_add, k5]; decide)) (by omega)]
  have hw : isW u L 0 txtT = true := by
    unfold isW
    rw [e0]
    refine decide_eq_true ⟨k0, rfl, fun i hi => ?_⟩
    have hi5 : i < 5 := hi
    rw [Nat.zero_add, hu i (by omega)]
    match i, hi5 with
    | 0, _ => rfl
    | 1, _ => rfl
    | 2, _ => rfl
    | 3, _ => rfl
    | 4, _ => rfl
  have tn : tN u L 0 = 6 := by
    unfold tN
    rw [e0, tS_1 k5 (show kd u L 6 ≠ 1 by omega)]
  have hp : pNum u L 1 6 6 = .inr (C, tS u L 7) := pNum_d (by omega) hC hC6 k6 (by rw [k7]; omega) (hu 6 (by omega))
  have t7 : tS u L 7 = 7 := tS_0 (by omega)
  have hs : pSemi u L 7 = .inr ((), tS u L 8) := by
    unfold pSemi tN
    rw [if_pos k7, tE_c (by omega) (by omega) (kd_ltL (show kd u L 7 ≠ 0 by omega))]
  obtain ⟨q, e, hq⟩ := tab_ok (u := u) (L := L) hC hx R 60 0 8 hR hB2 (by omega)
  refine ⟨q, ?_, fun i c hi hc => by rw [hq i c hi hc, Nat.zero_add]⟩
  unfold pTable
  rw [t0, if_pos hw, tn, hp]
  show pB (pSemi u L (tS u L 7)) _ = _
  rw [t7, hs]
  show pB (pTab u L C 60 (tS u L 8)) _ = _
  rw [e]
  rfl
end PRS
