/-! pure: quotients of whole numbers are numbers -/
theorem fp_enc {N : Nat} (h : N % 2 ^ 63 ≤ 0x7ff0000000000000) : UInt64.ofNat N &&& 0x7fffffffffffffff ≤ (0x7ff0000000000000 : UInt64) := by
  rw [UInt64.le_iff_toNat_le, UInt64.toNat_and]
  have e1 : (0x7fffffffffffffff : UInt64).toNat = 2 ^ 63 - 1 := rfl
  have e2 : (0x7ff0000000000000 : UInt64).toNat = 0x7ff0000000000000 := rfl
  rw [e1, e2, Nat.and_two_pow_sub_one_eq_mod]
  have e3 : (UInt64.ofNat N).toNat = N % 2 ^ 64 := rfl
  rw [e3]
  omega
theorem fp_bound {s : Bool} {c : Nat} {q : Int} (hc : c < 2 ^ 53) : FP.Core.encode FP.Core.b64 (FP.Core.bound FP.Core.b64 s c q) % 2 ^ 63 ≤ 0x7ff0000000000000 := by
  have e1 : FP.Core.b64.tails = 4503599627370496 := by decide
  have e2 : FP.Core.b64.exps = 2048 := by decide
  have e3 : FP.Core.b64.qmax = 971 := by decide
  have e4 : FP.Core.b64.qmin = -1074 := by decide
  unfold FP.Core.bound
  by_cases hq : q ≤ FP.Core.b64.qmax
  · rw [if_pos hq]
    rw [e3] at hq
    unfold FP.Core.encode
    simp only [e1, e4]
    by_cases h2 : c < 4503599627370496
    · rw [if_pos h2]
      unfold FP.Core.assemble
      rw [e1, e2]
      cases s <;> simp only [Bool.toNat_false, Bool.toNat_true] <;> omega
    · rw [if_neg h2]
      unfold FP.Core.assemble
      rw [e1, e2]
      have h3 : (q - -1074).toNat + 1 ≤ 2046 := by omega
      generalize (q - -1074).toNat + 1 = e at h3
      cases s <;> simp only [Bool.toNat_false, Bool.toNat_true] <;> omega
  · rw [if_neg hq]
    unfold FP.Core.encode FP.Core.assemble
    simp only [e1, e2]
    cases s <;> simp only [Bool.toNat_false, Bool.toNat_true] <;> omega
theorem fp_ratio (s : Bool) (A B : Nat) (e : Int) : FP.Core.encode FP.Core.b64 (FP.Core.roundRatio FP.Core.b64 s A B e) % 2 ^ 63 ≤ 0x7ff0000000000000 := by
  unfold FP.Core.roundRatio
  by_cases h0 : A = 0
  · rw [if_pos h0]
    have e1 : FP.Core.b64.tails = 4503599627370496 := by decide
    have e2 : FP.Core.b64.exps = 2048 := by decide
    unfold FP.Core.encode
    simp only
    rw [if_pos (by rw [e1]; decide)]
    unfold FP.Core.assemble
    rw [e1, e2]
    cases s <;> simp only [Bool.toNat_false, Bool.toNat_true] <;> omega
  · rw [if_neg h0]
    unfold FP.Core.roundAt FP.Core.settle
    have e5 : 2 ^ FP.Core.b64.p = 2 ^ 53 := by decide
    have e1 : FP.Core.b64.tails = 4503599627370496 := by decide
    rw [e5]
    by_cases h1 : FP.Core.nearest (FP.Core.unitsNum A e (FP.Core.quantum FP.Core.b64 A B e)) (FP.Core.unitsDen B e (FP.Core.quantum FP.Core.b64 A B e)) < 2 ^ 53
    · rw [if_pos h1]
      exact fp_bound h1
    · rw [if_neg h1]
      exact fp_bound (by rw [e1]; decide)
theorem fp_lead {n : Nat} (h0 : n ≠ 0) : FP.Core.leading n 1 = (n.log2 : Int) := by
  unfold FP.Core.leading
  have e1 : Nat.log2 1 = 0 := by decide
  have h1 := Nat.log2_self_le h0
  simp only [e1]
  have e2 : ((n.log2 : Int) - ((0 : Nat) : Int)).toNat = n.log2 := by omega
  have e3 : (-((n.log2 : Int) - ((0 : Nat) : Int))).toNat = 0 := by omega
  rw [e2, e3, if_pos (by omega)]
  omega
/-- a whole number is a number, and only 0 is 0 -/
theorem fp_int {s : Bool} {n : Nat} (hn : n < 2 ^ 52) : ∃ t c q, FP.Core.decode FP.Core.b64 (UInt64.ofNat (FP.Core.encode FP.Core.b64 (FP.Core.round FP.Core.b64 (.fin s n 0)))).toNat = .fin t c q ∧ (0 < n → 0 < c) := by
  have e1 : FP.Core.b64.tails = 4503599627370496 := by decide
  have e2 : FP.Core.b64.exps = 2048 := by decide
  have e3 : FP.Core.b64.qmax = 971 := by decide
  have e4 : FP.Core.b64.qmin = -1074 := by decide
  have e5 : 2 ^ FP.Core.b64.p = 2 ^ 53 := by decide
  have e6 : ∀ N, (UInt64.ofNat N).toNat = N % 2 ^ 64 := fun _ => rfl
  by_cases h0 : n = 0
  · subst h0
    cases s
    · exact ⟨false, 0, -1074, by decide +kernel, fun h => by omega⟩
    · exact ⟨true, 0, -1074, by decide +kernel, fun h => by omega⟩
  · have hL : n.log2 < 52 := (Nat.log2_lt h0).mpr hn
    have h1 := Nat.log2_self_le h0
    have h2 : n < 2 ^ (n.log2 + 1) := (Nat.log2_lt h0).mp (Nat.lt_succ_self _)
    have hq : FP.Core.quantum FP.Core.b64 n 1 0 = (n.log2 : Int) - 52 := by
      unfold FP.Core.quantum
      rw [fp_lead h0, e4]
      have : ((FP.Core.b64.p : Int) - 1) = 52 := by decide
      rw [this]
      omega
    have hm1 : 2 ^ 52 ≤ n * 2 ^ (52 - n.log2) := by
      have h3 : 2 ^ n.log2 * 2 ^ (52 - n.log2) ≤ n * 2 ^ (52 - n.log2) := Nat.mul_le_mul_right _ h1
      rw [← Nat.pow_add, show n.log2 + (52 - n.log2) = 52 by omega] at h3
      exact h3
    have hm2 : n * 2 ^ (52 - n.log2) < 2 ^ 53 := by
      have h3 : n * 2 ^ (52 - n.log2) < 2 ^ (n.log2 + 1) * 2 ^ (52 - n.log2) := Nat.mul_lt_mul_of_pos_right h2 (Nat.two_pow_pos _)
      rw [← Nat.pow_add, show n.log2 + 1 + (52 - n.log2) = 53 by omega] at h3
      exact h3
    have hr : FP.Core.round FP.Core.b64 (.fin s n 0) = .fin s (n * 2 ^ (52 - n.log2)) ((n.log2 : Int) - 52) := by
      unfold FP.Core.round FP.Core.roundRatio FP.Core.roundAt FP.Core.settle FP.Core.bound
      simp only
      rw [if_neg h0, hq]
      have hd : FP.Core.unitsDen 1 0 ((n.log2 : Int) - 52) = 1 := by
        unfold FP.Core.unitsDen
        rw [show ((n.log2 : Int) - 52 - 0).toNat = 0 by omega]
      have hu : FP.Core.unitsNum n 0 ((n.log2 : Int) - 52) = n * 2 ^ (52 - n.log2) := by
        unfold FP.Core.unitsNum
        rw [show (0 - ((n.log2 : Int) - 52)).toNat = 52 - n.log2 by omega]
      have hne : FP.Core.nearest (n * 2 ^ (52 - n.log2)) 1 = n * 2 ^ (52 - n.log2) := by
        unfold FP.Core.nearest
        rw [Nat.mod_one, if_pos (by omega), Nat.div_one]
      rw [hd, hu, hne, e5, if_pos hm2, if_pos (by rw [e3]; omega)]
    rw [hr]
    generalize hmm : n * 2 ^ (52 - n.log2) = m at hm1 hm2
    have he : ((n.log2 : Int) - 52 - -1074).toNat + 1 = n.log2 + 1023 := by omega
    unfold FP.Core.encode
    simp only [e1, e4]
    rw [if_neg (by omega), he, e6]
    unfold FP.Core.assemble FP.Core.decode FP.Core.fieldE FP.Core.fieldT
    rw [e1, e2]
    generalize n.log2 = L at hL
    cases s
    · simp only [Bool.toNat_false]
      rw [if_neg (by omega), if_neg (by omega)]
      exact ⟨_, _, _, rfl, fun _ => by omega⟩
    · simp only [Bool.toNat_true]
      rw [if_neg (by omega), if_neg (by omega)]
      exact ⟨_, _, _, rfl, fun _ => by omega⟩
theorem fp_div {x y : UInt64} {s t : Bool} {c d : Nat} {q r : Int} (hx : FP.Core.decode FP.Core.b64 x.toNat = .fin s c q) (hy : FP.Core.decode FP.Core.b64 y.toNat = .fin t d r) (hd : 0 < d) : gddiv x y = some (FP.ddiv x y) := by
  unfold gddiv
  rw [if_pos]
  have e : FP.ddiv x y = UInt64.ofNat (FP.Core.encode FP.Core.b64 (FP.Core.roundRatio FP.Core.b64 (s != t) c d (q - r))) := by
    show UInt64.ofNat (FP.Core.div FP.Core.b64 x.toNat y.toNat) = _
    unfold FP.Core.div
    rw [hx, hy]
    unfold FP.Core.quotient
    simp only
    rw [if_neg (by omega)]
  rw [e]
  exact fp_enc (fp_ratio _ _ _ _)
theorem fp_i2d {a : Int32} (_ : True) : ∃ t c q, FP.Core.decode FP.Core.b64 (FP.i2d a).toNat = .fin t c q ∧ (a ≠ 0 → 0 < c) := by
  have hr := fb_rng a
  obtain ⟨t, c, q, h1, h2⟩ := fp_int (s := decide (a.toInt < 0)) (n := a.toInt.natAbs) (by omega)
  refine ⟨t, c, q, h1, fun h => h2 ?_⟩
  have : a.toInt ≠ 0 := fun z => h (Int32.toInt_inj.mp z)
  omega
theorem fp_l2d {a : Int64} (h : a.toInt.natAbs < 2 ^ 52) : ∃ t c q, FP.Core.decode FP.Core.b64 (FP.l2d a).toNat = .fin t c q := by
  obtain ⟨t, c, q, h1, h2⟩ := fp_int (s := decide (a.toInt < 0)) (n := a.toInt.natAbs) h
  exact ⟨t, c, q, h1⟩
theorem gddiv_ii {a b : Int32} (hb : b ≠ 0) : gddiv (FP.i2d a) (FP.i2d b) = some (FP.ddiv (FP.i2d a) (FP.i2d b)) := by
  obtain ⟨s, c, q, h1, -⟩ := fp_i2d (a := a) trivial
  obtain ⟨t, d, r, h3, h4⟩ := fp_i2d (a := b) trivial
  exact fp_div h1 h3 (h4 hb)
theorem gddiv_li {a : Int64} {b : Int32} (ha : a.toInt.natAbs < 2 ^ 52) (hb : b ≠ 0) : gddiv (FP.l2d a) (FP.i2d b) = some (FP.ddiv (FP.l2d a) (FP.i2d b)) := by
  obtain ⟨s, c, q, h1⟩ := fp_l2d ha
  obtain ⟨t, d, r, h3, h4⟩ := fp_i2d (a := b) trivial
  exact fp_div h1 h3 (h4 hb)
theorem gfdiv_tab : ∀ b, b < 61 → b ≠ 0 → ∀ a, a < 61 → (FP.fdiv (FP.i2f (nI a)) (FP.i2f (nI b)) &&& 0x7fffffff ≤ 0x7f800000 ∧ FP.f2d (FP.fdiv (FP.i2f (nI a)) (FP.i2f (nI b))) &&& 0x7fffffffffffffff ≤ 0x7ff0000000000000) := by decide +kernel
theorem gfdiv_ii {a b : Nat} (ha : a < 61) (hb : b < 61) (h0 : b ≠ 0) : gfdiv (FP.i2f (nI a)) (FP.i2f (nI b)) = some (FP.fdiv (FP.i2f (nI a)) (FP.i2f (nI b))) := by
  unfold gfdiv
  rw [if_pos (gfdiv_tab b hb h0 a ha).1]
theorem gf2d_ii {a b : Nat} (ha : a < 61) (hb : b < 61) (h0 : b ≠ 0) : gf2d (FP.fdiv (FP.i2f (nI a)) (FP.i2f (nI b))) = some (FP.f2d (FP.fdiv (FP.i2f (nI a)) (FP.i2f (nI b)))) := by
  unfold gf2d
  rw [if_pos (gfdiv_tab b hb h0 a ha).2]
