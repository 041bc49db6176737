/-! pure: the reference's count of a word's bits -/
theorem bt_nI (m i : Nat) : bt (nI m) i = (decide (i < 32) && m.testBit i) := BitVec.getLsbD_ofNat _ _ _
theorem nI_ush {n k : Nat} (hn : n < 2 ^ 32) (hk : k < 32) : gushr (nI n) (nI k) = nI (n / 2 ^ k) := by
  apply b_ext
  intro i hi
  rw [b_ushr k hk, bt_nI, bt_nI, ← Nat.shiftRight_eq_div_pow, Nat.testBit_shiftRight]
  by_cases h : k + i < 32
  · rw [decide_eq_true h, decide_eq_true hi]
  · rw [decide_eq_false h, Nat.testBit_lt_two_pow (Nat.lt_of_lt_of_le hn (Nat.pow_le_pow_right (by decide) (by omega))), Bool.and_false, Bool.and_false]
theorem sh_and : ∀ a, a < 256 → (a / 2 &&& 85) ≤ a := fun a h => (sh_tab1 a h).2.1
theorem pc1 {a b c d : Nat} (ha : a < 256) (hb : b < 256) (hc : c < 256) (hd : d < 256) : nI (w4 a b c d) - (gushr (nI (w4 a b c d)) (1 : Int32) &&& (1431655765 : Int32)) = nI (w4 (by1 a) (by1 b) (by1 c) (by1 d)) := by
  have hw : w4 a b c d < 2 ^ 32 := by unfold w4; omega
  have ta := sh_and a ha
  have tb := sh_and b hb
  have tc := sh_and c hc
  have td := sh_and d hd
  have e1 : gushr (nI (w4 a b c d)) (1 : Int32) &&& (1431655765 : Int32) = nI (w4 (a / 2 &&& 85) (b / 2 &&& 85) (c / 2 &&& 85) (d / 2 &&& 85)) := by
    have q : w4 a b c d / 2 ^ 1 = w4 (a / 2 + 128 * (b % 2)) (b / 2 + 128 * (c % 2)) (c / 2 + 128 * (d % 2)) (d / 2) := by unfold w4; omega
    rw [show (1 : Int32) = nI 1 from rfl, nI_ush hw (by decide), q, show (1431655765 : Int32) = nI (w4 85 85 85 85) from by decide +kernel, nx_and, w4_and (by omega) (by omega) (by omega) (by decide) (by decide) (by decide), sh_x1 _ (Nat.mod_lt _ (by decide)) _ (by omega), sh_x1 _ (Nat.mod_lt _ (by decide)) _ (by omega), sh_x1 _ (Nat.mod_lt _ (by decide)) _ (by omega)]
  have e2 : w4 a b c d - w4 (a / 2 &&& 85) (b / 2 &&& 85) (c / 2 &&& 85) (d / 2 &&& 85) = w4 (by1 a) (by1 b) (by1 c) (by1 d) := by
    unfold w4 by1
    omega
  rw [e1, nI_sub (by unfold w4; omega), e2]
theorem pc2 {a b c d A B C D : Nat} (ha : a < 256) (hb : b < 256) (hc : c < 256) (hd : d < 256) (hA : A = (a &&& 51) + (a / 4 &&& 51)) (hB : B = (b &&& 51) + (b / 4 &&& 51)) (hC : C = (c &&& 51) + (c / 4 &&& 51)) (hD : D = (d &&& 51) + (d / 4 &&& 51)) : (nI (w4 a b c d) &&& (858993459 : Int32)) + (gushr (nI (w4 a b c d)) (2 : Int32) &&& (858993459 : Int32)) = nI (w4 A B C D) := by
  have hw : w4 a b c d < 2 ^ 32 := by unfold w4; omega
  have e1 : gushr (nI (w4 a b c d)) (2 : Int32) &&& (858993459 : Int32) = nI (w4 (a / 4 &&& 51) (b / 4 &&& 51) (c / 4 &&& 51) (d / 4 &&& 51)) := by
    have q : w4 a b c d / 2 ^ 2 = w4 (a / 4 + 64 * (b % 4)) (b / 4 + 64 * (c % 4)) (c / 4 + 64 * (d % 4)) (d / 4) := by unfold w4; omega
    rw [show (2 : Int32) = nI 2 from rfl, nI_ush hw (by decide), q, show (858993459 : Int32) = nI (w4 51 51 51 51) from by decide +kernel, nx_and, w4_and (by omega) (by omega) (by omega) (by decide) (by decide) (by decide), sh_x2 _ (Nat.mod_lt _ (by decide)) _ (by omega), sh_x2 _ (Nat.mod_lt _ (by decide)) _ (by omega), sh_x2 _ (Nat.mod_lt _ (by decide)) _ (by omega)]
  rw [e1, show (858993459 : Int32) = nI (w4 51 51 51 51) from by decide +kernel, nx_and, w4_and ha hb hc (by decide) (by decide) (by decide), nI_add]
  congr 1
  subst hA hB hC hD
  unfold w4
  omega
theorem and15 (n : Nat) : n &&& 15 = n % 16 := Nat.and_two_pow_sub_one_eq_mod n 4
theorem pc3 {a b c d : Nat} (ha : a % 16 ≤ 4 ∧ a / 16 ≤ 4) (hb : b % 16 ≤ 4 ∧ b / 16 ≤ 4) (hc : c % 16 ≤ 4 ∧ c / 16 ≤ 4) (hd : d % 16 ≤ 4 ∧ d / 16 ≤ 4) : (nI (w4 a b c d) + gushr (nI (w4 a b c d)) (4 : Int32)) &&& (252645135 : Int32) = nI (w4 ((a + a / 16) &&& 15) ((b + b / 16) &&& 15) ((c + c / 16) &&& 15) ((d + d / 16) &&& 15)) := by
  have hw : w4 a b c d < 2 ^ 32 := by unfold w4; omega
  have q : w4 a b c d + w4 a b c d / 2 ^ 4 = w4 (a + a / 16 + 16 * (b % 16)) (b + b / 16 + 16 * (c % 16)) (c + c / 16 + 16 * (d % 16)) (d + d / 16) := by unfold w4; omega
  rw [show (4 : Int32) = nI 4 from rfl, nI_ush hw (by decide), nI_add, q, show (252645135 : Int32) = nI (w4 15 15 15 15) from by decide +kernel, nx_and, w4_and (by omega) (by omega) (by omega) (by decide) (by decide) (by decide)]
  simp only [and15]
  congr 2 <;> omega
theorem nI_big (n : Nat) : nI n = nI (n % 4294967296) := Int32.toBitVec_inj.mp (by
  show BitVec.ofNat 32 n = BitVec.ofNat 32 _
  apply BitVec.eq_of_toNat_eq
  rw [BitVec.toNat_ofNat, BitVec.toNat_ofNat, Nat.mod_mod])
theorem pc4 {a b c d : Nat} (ha : a ≤ 8) (hb : b ≤ 8) (hc : c ≤ 8) (hd : d ≤ 8) : gushr (nI (w4 a b c d) * (16843009 : Int32)) (24 : Int32) = nI (a + b + c + d) := by
  have q : w4 a b c d * 16843009 % 4294967296 = w4 a (a + b) (a + b + c) (a + b + c + d) := by unfold w4; omega
  rw [show (16843009 : Int32) = nI 16843009 from rfl, nI_mul, nI_big, q, show (24 : Int32) = nI 24 from rfl, nI_ush (by unfold w4; omega) (by decide)]
  congr 1
  unfold w4
  omega
theorem bits_w4 {E : gE} {σ : gS} {a b c d : Nat} (ha : a < 256) (hb : b < 256) (hc : c < 256) (hd : d < 256) : X13_bits_f E σ (nI (w4 a b c d)) = some (nI (by3 a + by3 b + by3 c + by3 d)) := by
  obtain ⟨a1, a2, a3, a4, a5, a6⟩ := by_tab a ha
  obtain ⟨b1, b2, b3, b4, b5, b6⟩ := by_tab b hb
  obtain ⟨c1, c2, c3, c4, c5, c6⟩ := by_tab c hc
  obtain ⟨d1, d2, d3, d4, d5, d6⟩ := by_tab d hd
  unfold X13_bits_f X13_bits
  rw [pc1 ha hb hc hd, pc2 (A := by2 a) (B := by2 b) (C := by2 c) (D := by2 d) a1 b1 c1 d1 rfl rfl rfl rfl, pc3 ⟨a3, a4⟩ ⟨b3, b4⟩ ⟨c3, c4⟩ ⟨d3, d4⟩]
  exact congrArg some (pc4 a6 b6 c6 d6)
theorem ct_w4 {a b c d : Nat} (ha : a < 256) (hb : b < 256) (hc : c < 256) (hd : d < 256) : fb_ct (bt (nI (w4 a b c d))) 32 = by3 a + by3 b + by3 c + by3 d := by
  obtain ⟨-, -, -, -, a5, -⟩ := by_tab a ha
  obtain ⟨-, -, -, -, b5, -⟩ := by_tab b hb
  obtain ⟨-, -, -, -, c5, -⟩ := by_tab c hc
  obtain ⟨-, -, -, -, d5, -⟩ := by_tab d hd
  have tq : ∀ q r : Nat, r < 256 → ∀ i, (256 * q + r).testBit i = if i < 8 then r.testBit i else q.testBit (i - 8) := fun q r hr i => Nat.testBit_two_pow_mul_add q (i := 8) hr i
  have ew : w4 a b c d = 256 * (256 * (256 * d + c) + b) + a := by unfold w4; omega
  have t0 : ∀ i, i < 8 → bt (nI (w4 a b c d)) i = a.testBit i := fun i hi => by
    rw [bt_nI, decide_eq_true (by omega), Bool.true_and, ew, tq _ _ ha, if_pos hi]
  have t1 : ∀ i, i < 8 → bt (nI (w4 a b c d)) (8 + i) = b.testBit i := fun i hi => by
    rw [bt_nI, decide_eq_true (by omega), Bool.true_and, ew, tq _ _ ha, if_neg (by omega), tq _ _ hb, if_pos (by omega)]
    congr 1
    omega
  have t2 : ∀ i, i < 8 → bt (nI (w4 a b c d)) (16 + i) = c.testBit i := fun i hi => by
    rw [bt_nI, decide_eq_true (by omega), Bool.true_and, ew, tq _ _ ha, if_neg (by omega), tq _ _ hb, if_neg (by omega), tq _ _ hc, if_pos (by omega)]
    congr 1
    omega
  have t3 : ∀ i, i < 8 → bt (nI (w4 a b c d)) (24 + i) = d.testBit i := fun i hi => by
    rw [bt_nI, decide_eq_true (by omega), Bool.true_and, ew, tq _ _ ha, if_neg (by omega), tq _ _ hb, if_neg (by omega), tq _ _ hc, if_neg (by omega)]
    congr 1
    omega
  have s1 : fb_ct (bt (nI (w4 a b c d))) 32 = fb_ct (bt (nI (w4 a b c d))) 24 + fb_ct (fun i => bt (nI (w4 a b c d)) (24 + i)) 8 := fb_ct_split _ 24 8
  have s2 : fb_ct (bt (nI (w4 a b c d))) 24 = fb_ct (bt (nI (w4 a b c d))) 16 + fb_ct (fun i => bt (nI (w4 a b c d)) (16 + i)) 8 := fb_ct_split _ 16 8
  have s3 : fb_ct (bt (nI (w4 a b c d))) 16 = fb_ct (bt (nI (w4 a b c d))) 8 + fb_ct (fun i => bt (nI (w4 a b c d)) (8 + i)) 8 := fb_ct_split _ 8 8
  rw [fb_ct_cong t3, ← d5] at s1
  rw [fb_ct_cong t2, ← c5] at s2
  rw [fb_ct_cong t1, ← b5, fb_ct_cong t0, ← a5] at s3
  omega
theorem bits_f {E : gE} {σ : gS} (x : Int32) : X13_bits_f E σ x = some (nI (fb_ct (bt x) 32)) := by
  obtain ⟨n, hn, rfl⟩ := wb_of32 x
  have e : n = w4 (n % 256) (n / 256 % 256) (n / 65536 % 256) (n / 16777216) := by unfold w4; omega
  rw [e, bits_w4 (by omega) (by omega) (by omega) (by omega), ct_w4 (by omega) (by omega) (by omega) (by omega)]
