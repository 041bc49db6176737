/-! pure: the reference's questions on its row, more -/
theorem lpe {α β : Type} {F : Nat → α → Nat → Option β} {I : Nat → α → Prop} {O : α → Option β} {n : Nat} (hs : ∀ m r a, r < n → I r a → ∃ a', F (m + 1) a r = F m a' (r + 1) ∧ I (r + 1) a') (hz : ∀ m a, I n a → F (m + 1) a n = O a) : ∀ k r m a, r + k = n → k < m → I r a → ∃ a', F m a r = O a' ∧ I n a' := by
  intro k
  induction k with
  | zero =>
    intro r m a hr hm hI
    obtain ⟨m, rfl⟩ : ∃ q, m = q + 1 := ⟨m - 1, by omega⟩
    have e : r = n := by omega
    subst e
    exact ⟨a, hz m a hI, hI⟩
  | succ k ih =>
    intro r m a hr hm hI
    obtain ⟨m, rfl⟩ : ∃ q, m = q + 1 := ⟨m - 1, by omega⟩
    obtain ⟨a1, e1, I1⟩ := hs m r a (by omega) hI
    obtain ⟨a2, e2, I2⟩ := ih (r + 1) m a1 (by omega) (by omega) I1
    exact ⟨a2, e1.trans e2, I2⟩
theorem px_inj {a b : Int32} (ha : vIn a) (hb : vIn b) (h : px a = px b) : a = b := by rw [← xp_px ha, h, xp_px hb]
theorem i_p0 (x : Int32) : x + (0 : Int32) = x := by simp
theorem dcol_ct {v : Nat → Int32} : ∀ n, (∀ r, r < n → vIn (v r)) → dsz (dcol v n) = fb_ct (fun r => !dcol v r (px (v r))) n
  | 0, _ => dsz_none
  | n + 1, hv => by
    have ih := dcol_ct n fun r hr => hv r (by omega)
    rw [fb_ct_succ, ← ih]
    show dsz (dins (dcol v n) (px (v n))) = _
    cases hb : dcol v n (px (v n)) with
    | true => rw [dins_same hb, if_neg (by decide), Nat.add_zero]
    | false =>
      unfold dsz
      rw [dins_ct hb, if_pos (px_lt (hv n (by omega))), if_pos (by decide : (!false) = true)]
theorem i_gt {a b : Nat} (ha : a < 2 ^ 30) (hb : b < 2 ^ 30) : (0 < nI a - nI b ↔ b < a) ∧ (nI a - nI b = 0 ↔ a = b) := by
  have h1 := nI_toInt (n := a) (by omega)
  have h2 := nI_toInt (n := b) (by omega)
  have e : (nI a - nI b).toInt = (a : Int) - b := by rw [fb_subI (by omega) (by omega), h1, h2]
  constructor
  · rw [fa_lt, e, toI0]; omega
  · rw [fa_eq, e, toI0]; omega
theorem wide_f {E : gE} {σ : gS} {n : Nat} (hN : 100000 ≤ gN E) (hn : n ≤ 2 ^ 29) : X13_widthFor_f E σ (nI n) = some (nI (gwid n)) := by
  have hg := gwid_yes (n := n) (by omega)
  have hs : ∀ k, k < 31 → (1 : Int32) <<< (nI k &&& 31) = nI (2 ^ k) := by decide +kernel
  unfold X13_widthFor_f X13_widthFor
  refine lp (F := fun q (_ : Unit) k => X13_widthFor_2 E σ q (nI n) (nI k)) (s := fun _ => ()) (n := gwid n) (fun q k hk => ?_) (fun q => ?_) (gwid n) 0 (gN E) (by omega) (by omega)
  · show X13_widthFor_2_s E σ (X13_widthFor_2 E σ q) (nI n) (nI k) = _
    unfold X13_widthFor_2_s
    have hl := gwid_no (n := n) (i := k) hk
    rw [hs k (by omega), if_neg (nI_ge hl (by omega)), ← nI_succ]
  · show X13_widthFor_2_s E σ (X13_widthFor_2 E σ q) (nI n) (nI (gwid n)) = _
    unfold X13_widthFor_2_s
    have hp : 2 ^ gwid n ≤ 2 ^ 30 := Nat.pow_le_pow_right (by decide) hg.2
    rw [hs _ (by omega), if_pos (nI_le hg.1 (by omega))]
theorem sbit_one (x : Int32) {j : Nat} (hj : j < 32) : (x >>> (nI j &&& 31)) &&& (1 : Int32) = if bt x j = true then 1 else 0 := by
  apply b_ext
  intro i hi
  rw [b_and, b_sshr j hj x hi, b_one i hi]
  by_cases h : i = 0
  · subst h
    rw [if_pos (by omega), Nat.add_zero]
    by_cases hb : bt x j = true
    · rw [if_pos hb, hb]
      rfl
    · rw [if_neg hb, ts_nt hb]
      rfl
  · rw [decide_eq_false h, Bool.and_false]
    by_cases hb : bt x j = true
    · rw [if_pos hb, b_one i hi, decide_eq_false h]
    · rw [if_neg hb, b_0]
theorem bL_sh {k b : Nat} (hk : k < 64) (hb : b < 64) : bL (glshl (1 : Int64) (nI k)) b = decide (k = b) := by
  show bL (lN 1 <<< ((nI k).toInt64 &&& 63)) b = _
  rw [wb_shl 1 hk, Nat.one_mul, bL_lN hb, Nat.testBit_two_pow]
theorem bo1 {A T : Bool} {P Q : Prop} [Decidable P] [Decidable Q] (h : P ↔ Q) : (A || (decide P && T)) = (A || (decide Q && T)) := by rw [decide_eq_decide.mpr h]
theorem bo2 {A T : Bool} {P Q : Prop} [Decidable P] [Decidable Q] (h : T = false) : (A || (decide P && T)) = (A || (decide Q && T)) := by rw [h, Bool.and_false, Bool.and_false]
theorem bo3 {A T U : Bool} {P P' Z : Prop} [Decidable P] [Decidable P'] [Decidable Z] (h1 : Z → ¬ P ∧ P' ∧ T = U) (h2 : ¬ Z → (P ↔ P')) : ((A || (decide P && T)) || (decide Z && U)) = (A || (decide P' && T)) := by
  by_cases z : Z
  · obtain ⟨a1, a2, a3⟩ := h1 z
    rw [decide_eq_false a1, decide_eq_true z, decide_eq_true a2, a3, Bool.false_and, Bool.or_false]
  · rw [decide_eq_false z, Bool.false_and, Bool.or_false, decide_eq_decide.mpr (h2 z)]
theorem bo4 {A : Bool} {P Q : Prop} [Decidable P] [Decidable Q] (h : P ↔ Q) : (A || decide P) = (A || (decide Q && true)) := by rw [decide_eq_decide.mpr h, Bool.and_true]
/-- one bit of a code -/
theorem pk_st {E : gE} {σ : gS} {m c q r wd j k : Nat} {W : Int64} {r12 : Nat → Int32 → Int32 → Int32 → Int64 → Int32 → Option Int64} {r35 : Nat → Int32 → Int32 → Int32 → Int64 → Int32 → Int32 → Int32 → Option Int64} (hq : q < 15) (hj : j < wd) (hwd : wd ≤ 15) (hP : r * wd ≤ 885) : ∃ W', X13_pack_35_s E σ r12 r35 m (nI c) (nI q) (nI wd) W (nI r) (nI k) (nI j) = r35 m (nI c) (nI q) (nI wd) W' (nI r) (nI k) (nI (j + 1)) ∧ ∀ b, b < 64 → bL W' b = (bL W b || (decide (64 * q + b = r * wd + j) && k.testBit j)) := by
  have hbit : bt (nI k) j = k.testBit j := by rw [bt_nI, decide_eq_true (by omega), Bool.true_and]
  unfold X13_pack_35_s X13_pack_74 X13_pack_75 X13_pack_95
  rw [if_neg (nI_ge hj (by omega)), nI_mul, nI_add, div64 (by omega)]
  by_cases hP : (r * wd + j) / 64 = q
  · rw [hP, if_pos rfl, sbit_one _ (by omega), hbit]
    by_cases hB : k.testBit j = true
    · refine ⟨W ||| glshl (1 : Int64) (nI ((r * wd + j) % 64)), ?_, fun b hb => ?_⟩
      · have e64 := rem64 (n := r * wd + j) (by omega)
        rw [div64 (by omega), hP] at e64
        rw [if_pos hB, if_pos rfl, if_neg i10, e64, ← nI_succ]
      · rw [bL_or, bL_sh (by omega) hb, hB]
        exact bo4 ⟨by omega, by omega⟩
    · refine ⟨W ||| 0, ?_, fun b hb => ?_⟩
      · rw [if_neg hB, if_neg (by decide), if_pos rfl, ← nI_succ]
      · rw [bL_or, bL_0, ts_nt hB, Bool.and_false]
  · refine ⟨W ||| 0, ?_, fun b hb => ?_⟩
    · rw [if_neg (fun z => hP ((nI_eqI (by omega) (by omega)).mp z)), if_pos rfl, ← nI_succ]
    · rw [bL_or, bL_0, decide_eq_false (by omega), Bool.false_and]
theorem pck_in {E : gE} {σ : gS} {m c q r wd : Nat} {W : Int64} {cd : Nat → Nat} {r12 : Nat → Int32 → Int32 → Int32 → Int64 → Int32 → Option Int64} (hN : 100000 ≤ gN E) (hr : r < 60) (hwd : wd ≤ 15) (hq : q < 15) (hcd : ∀ i, cd i < 2 ^ wd) (hW : ∀ b, b < 64 → bL W b = pb wd cd r (64 * q + b)) : ∃ W', X13_pack_35 E σ r12 (gN E) m (nI c) (nI q) (nI wd) W (nI r) (nI (cd r)) 0 = r12 m (nI c) (nI q) (nI wd) W' (nI (r + 1)) ∧ ∀ b, b < 64 → bL W' b = pb wd cd (r + 1) (64 * q + b) := by
  have hm : r * wd ≤ 59 * 15 := Nat.mul_le_mul (by omega) hwd
  obtain ⟨W', e1, J1⟩ := lpe (F := fun u' W j => X13_pack_35 E σ r12 u' m (nI c) (nI q) (nI wd) W (nI r) (nI (cd r)) (nI j)) (I := fun j W => ∀ b, b < 64 → bL W b = (pb wd cd r (64 * q + b) || (decide (r * wd ≤ 64 * q + b ∧ 64 * q + b < r * wd + j) && (cd r).testBit (64 * q + b - r * wd)))) (O := fun W => r12 m (nI c) (nI q) (nI wd) W (nI (r + 1))) (n := wd) (fun u' j W hj hJ => by
      obtain ⟨W', e1, B1⟩ := pk_st (E := E) (σ := σ) (m := m) (c := c) (k := cd r) (W := W) (r12 := r12) (r35 := X13_pack_35 E σ r12 u') hq hj hwd (show r * wd ≤ 885 by omega)
      refine ⟨W', e1, fun b hb => ?_⟩
      rw [B1 b hb, hJ b hb]
      exact bo3 (fun z => ⟨by omega, by omega, by rw [z, Nat.add_sub_cancel_left]⟩) (fun z => ⟨by omega, by omega⟩)) (fun u' W hJ => by
      show X13_pack_35_s E σ r12 (X13_pack_35 E σ r12 u') m (nI c) (nI q) (nI wd) W (nI r) (nI (cd r)) (nI wd) = _
      unfold X13_pack_35_s
      rw [if_pos (nI_le (Nat.le_refl _) (by omega)), ← nI_succ]) wd 0 (gN E) W (by omega) (by omega) (fun b hb => by
      rw [hW b hb, decide_eq_false (by omega), Bool.false_and, Bool.or_false])
  refine ⟨W', e1, fun b hb => ?_⟩
  rw [J1 b hb, pb_s hcd]
  by_cases hp : 64 * q + b < r * wd + wd
  · exact bo1 ⟨fun z => z.1, fun z => ⟨z, hp⟩⟩
  · exact bo2 (tb_hi (hcd r) (show wd ≤ 64 * q + b - r * wd by omega))
section MM
variable {E : gE} {σ : gS} {m ro : Nat} {g : Nat → Int32} {S : gT}
theorem mQ.first (h : mQ E σ m ro g S) (hN : 100000 ≤ gN E) {c r : Nat} (hc : c < S.1) (hr : r < tR S) : X13_isFirst_f E σ m (nI c) (nI r) = some (if (!dcol (tV S c) r (px (tV S c r))) = true then 1 else 0) := by
  have hR := h.R
  have hv := fun k (hk : k < tR S) => (h.G.2.2.2.2.1 c k hc hk).1
  have hle := fa_first_le (fun k => decide (tV S c k = tV S c r)) r
  unfold X13_isFirst_f X13_isFirst
  refine lp (F := fun q (_ : Unit) k => X13_isFirst_2 E σ q m (nI c) (nI r) (nI k)) (s := fun _ => ()) (n := fa_first (fun k => decide (tV S c k = tV S c r)) r) (fun q k hk => ?_) (fun q => ?_) _ 0 (gN E) (Nat.zero_add _) (by omega)
  · show X13_isFirst_2_s E σ (X13_isFirst_2 E σ q) m (nI c) (nI r) (nI k) = _
    unfold X13_isFirst_2_s
    have e := fa_first_no _ r k hk
    rw [if_neg (nI_ge (by omega) (by omega)), ob_e h.cl, ob_e (h.at hc (by omega)), ob_e h.cl, ob_e (h.at hc hr), if_neg (of_decide_eq_false e), ← nI_succ]
  · show X13_isFirst_2_s E σ (X13_isFirst_2 E σ q) m (nI c) (nI r) (nI (fa_first _ r)) = _
    unfold X13_isFirst_2_s
    by_cases hf : fa_first (fun k => decide (tV S c k = tV S c r)) r < r
    · have e := of_decide_eq_true (fa_first_yes _ r hf)
      have hd : dcol (tV S c) r (px (tV S c r)) = true := (dcol_iff _ _ _).mpr ⟨_, hf, congrArg px e⟩
      rw [if_neg (nI_ge hf (by omega)), ob_e h.cl, ob_e (h.at hc (by omega)), ob_e h.cl, ob_e (h.at hc hr), if_pos e, hd, if_neg (by decide)]
    · have e : fa_first (fun k => decide (tV S c k = tV S c r)) r = r := by omega
      have hd : dcol (tV S c) r (px (tV S c r)) = false := by
        refine ts_nt fun z => ?_
        obtain ⟨k, k1, k2⟩ := (dcol_iff _ _ _).mp z
        have e2 := of_decide_eq_false (fa_first_no (fun k => decide (tV S c k = tV S c r)) r k (by omega))
        exact e2 (px_inj (hv k (by omega)) (hv r hr) k2)
      rw [e, if_pos (nI_le (Nat.le_refl _) (by omega)), hd]
      rfl
theorem mQ.used (h : mQ E σ m ro g S) (hN : 100000 ≤ gN E) {c : Nat} (hc : c < S.1) : X13_countUsed_f E σ m (nI c) = some (nI (dsz (dcol (tV S c) (tR S)))) := by
  have hR := h.R
  unfold X13_countUsed_f X13_countUsed
  rw [dcol_ct _ fun r hr => (h.G.2.2.2.2.1 c r hc hr).1]
  refine lp (F := fun q a k => X13_countUsed_4 E σ q m (nI c) (nI a) (nI k)) (s := fun k => fb_ct (fun r => !dcol (tV S c) r (px (tV S c r))) k) (n := tR S) (fun q k hk => ?_) (fun q => ?_) (tR S) 0 (gN E) (by omega) (by omega)
  · show X13_countUsed_4_s E σ (X13_countUsed_4 E σ q) m (nI c) _ (nI k) = _
    unfold X13_countUsed_4_s X13_countUsed_29
    rw [ob_e h.r, ob_e h.n1, if_neg (nI_ge hk (by omega)), ob_e h.cl, ob_e (h.first hN hc hk), fb_ct_succ, ← nI_succ k]
    cases hb : (!dcol (tV S c) k (px (tV S c k))) with
    | true => rw [if_pos rfl, if_neg (by decide), nI_1, if_pos rfl]
    | false => rw [if_pos (show (if false = true then (1 : Int32) else 0) = 0 from rfl), i_p0, if_neg (by decide)]; rfl
  · show X13_countUsed_4_s E σ (X13_countUsed_4 E σ q) m (nI c) _ (nI (tR S)) = _
    unfold X13_countUsed_4_s
    rw [ob_e h.r, ob_e h.n1, if_pos (nI_le (Nat.le_refl _) (by omega))]
theorem mQ.best (h : mQ E σ m ro g S) (hN : 100000 ≤ gN E) {c : Nat} (hc : c < S.1) : X13_commonestCode_18 E (gN E) m (nI c) (-1) 0 σ = some (if tR S = 0 then -1 else nI (fb_ct (tD S c) (px (tV S c (gbest (tV S c) (tR S) (tR S))))), σ) := by
  have hR := h.R
  refine lp (F := fun q (a : Int32) k => X13_commonestCode_18 E q m (nI c) a (nI k) σ) (s := fun k => if k = 0 then -1 else nI (gbest (tV S c) (tR S) k)) (n := tR S) (fun q k hk => ?_) (fun q => ?_) (tR S) 0 (gN E) (by omega) (by omega)
  · show X13_commonestCode_18_s E (X13_commonestCode_18 E q) m (nI c) _ (nI k) σ = _
    unfold X13_commonestCode_18_s X13_commonestCode_60 X13_commonestCode_87 X13_commonestCode_91 X13_commonestCode_92 X13_commonestCode_104
    rw [ob_e h.r, ob_e h.n1, if_neg (nI_ge hk (by omega)), if_neg (show ¬ k + 1 = 0 by omega), gbest_s]
    by_cases h0 : k = 0
    · subst h0
      rw [if_pos rfl, if_pos rfl, if_pos (by decide), if_neg (by decide), if_pos rfl]
      rfl
    · have hb := gbest_lt (tV S c) (tR S) k (by omega)
      have hn1 : ¬ nI (gbest (tV S c) (tR S) k) = (-1 : Int32) := by
        rw [fa_eq, nI_toInt (by omega)]
        show ¬ _ = (-1 : Int)
        omega
      have c1 : gocc (tV S c) (tR S) (tV S c k) ≤ tR S := fb_ct_le _ _
      have c2 : gocc (tV S c) (tR S) (tV S c (gbest (tV S c) (tR S) k)) ≤ tR S := fb_ct_le _ _
      obtain ⟨i1, i2⟩ := i_gt (a := gocc (tV S c) (tR S) (tV S c k)) (b := gocc (tV S c) (tR S) (tV S c (gbest (tV S c) (tR S) k))) (by omega) (by omega)
      rw [if_neg h0, if_neg h0, if_neg hn1, ob_e h.cl, ob_e (h.at hc hk), ob_e h.cl, ob_e (h.occ hN hc _), ob_e h.cl, ob_e (h.at hc (by omega)), ob_e h.cl, ob_e (h.occ hN hc _)]
      by_cases x1 : gocc (tV S c) (tR S) (tV S c (gbest (tV S c) (tR S) k)) < gocc (tV S c) (tR S) (tV S c k)
      · rw [if_pos (i1.mpr x1), if_neg i10, if_pos (Or.inl x1), ← nI_succ]
      · rw [if_neg (fun z => x1 (i1.mp z))]
        by_cases x2 : gocc (tV S c) (tR S) (tV S c k) = gocc (tV S c) (tR S) (tV S c (gbest (tV S c) (tR S) k))
        · rw [if_pos (i2.mpr x2), ob_e h.cl, ob_e (h.at hc hk), ob_e h.cl, ob_e (h.at hc (by omega))]
          by_cases x3 : tV S c (gbest (tV S c) (tR S) k) ≤ tV S c k
          · rw [if_pos x3, if_pos rfl, ← nI_succ, if_neg]
            rintro (z | ⟨-, z⟩)
            · exact x1 z
            · exact (fa_of_lt z).2.1 x3
          · rw [if_neg x3, if_neg i10, if_pos (Or.inr ⟨x2, fa_of_nle x3⟩), ← nI_succ]
        · rw [if_neg (fun z => x2 (i2.mp z)), if_pos rfl, ← nI_succ, if_neg]
          rintro (z | ⟨z, -⟩)
          · exact x1 z
          · exact x2 z
  · show X13_commonestCode_18_s E (X13_commonestCode_18 E q) m (nI c) _ (nI (tR S)) σ = _
    unfold X13_commonestCode_18_s
    rw [ob_e h.r, ob_e h.n1, if_pos (nI_le (Nat.le_refl _) (by omega))]
    by_cases h0 : tR S = 0
    · rw [if_pos h0, if_pos rfl, if_pos h0]
    · have hb := gbest_lt (tV S c) (tR S) (tR S) (by omega)
      have hn1 : ¬ nI (gbest (tV S c) (tR S) (tR S)) = (-1 : Int32) := by
        rw [fa_eq, nI_toInt (by omega)]
        show ¬ _ = (-1 : Int)
        omega
      rw [if_neg h0, if_neg hn1, if_neg h0, ob_e h.cl, ob_e (h.code hN hc hb)]
theorem mQ.width (h : mQ E σ m ro g S) (hN : 100000 ≤ gN E) {c : Nat} (hc : c < S.1) : X13_widthOf_f E σ m (nI c) = some (nI (gwid (dsz (tD S c)))) := by
  have := dsz_le (tD S c)
  unfold X13_widthOf_f X13_widthOf
  rw [ob_e h.cl, ob_e (h.size hN hc), ob_e (wide_f hN (by omega))]
theorem mQ.words (h : mQ E σ m ro g S) (hN : 100000 ≤ gN E) {c : Nat} (hc : c < S.1) : X13_wordsOf_f E σ m (nI c) = some (nI ((tR S * gwid (dsz (tD S c)) + 63) / 64)) := by
  have h15 := (wid15 (tD S c)).1
  have hm : tR S * gwid (dsz (tD S c)) ≤ 60 * 15 := Nat.mul_le_mul h.R h15
  unfold X13_wordsOf_f X13_wordsOf
  rw [ob_e h.r, ob_e h.n1, ob_e h.cl, ob_e (h.width hN hc), nI_mul, show nI (tR S * gwid (dsz (tD S c))) + (64 : Int32) = nI (tR S * gwid (dsz (tD S c)) + 64) from nI_add _ 64, nI_sub1 (by omega), show tR S * gwid (dsz (tD S c)) + 64 - 1 = tR S * gwid (dsz (tD S c)) + 63 by omega, div64 (by omega)]
theorem mQ.pack (h : mQ E σ m ro g S) (hN : 100000 ≤ gN E) {c q : Nat} (hc : c < S.1) (hq : q < 15) : ∃ W, X13_pack_f E σ m (nI c) (nI q) = some W ∧ ∀ b, b < 64 → bL W b = pb (gwid (dsz (tD S c))) (gcd (tD S c) (tV S c) (tR S)) (tR S) (64 * q + b) := by
  have hR := h.R
  have h15 := (wid15 (tD S c)).1
  have hcd := gcd_lt (f := tD S c) (v := tV S c) (n := tR S) fun r hr => h.G.2.2.2.2.1 c r hc hr
  have hcr : ∀ r, r < tR S → fb_ct (tD S c) (px (tV S c r)) = gcd (tD S c) (tV S c) (tR S) r := fun r hr => by
    unfold gcd
    rw [if_pos hr]
  have hwi := h.width hN hc
  generalize gwid (dsz (tD S c)) = wd at h15 hcd hwi
  generalize gcd (tD S c) (tV S c) (tR S) = cd at hcd hcr
  unfold X13_pack_f X13_pack
  rw [ob_e h.cl, ob_e hwi]
  refine lpe (F := fun u W r => X13_pack_12 E σ u m (nI c) (nI q) (nI wd) W (nI r)) (I := fun r W => ∀ b, b < 64 → bL W b = pb wd cd r (64 * q + b)) (O := fun W => some W) (n := tR S) (fun u r W hr hI => ?_) (fun u W hI => ?_) (tR S) 0 (gN E) 0 (by omega) (by omega) (fun b hb => ?_)
  · obtain ⟨W', e1, J1⟩ := pck_in (E := E) (σ := σ) (m := m) (c := c) (r12 := X13_pack_12 E σ u) hN (show r < 60 by omega) h15 hq hcd hI
    refine ⟨W', ?_, J1⟩
    show X13_pack_12_s E σ (X13_pack_12 E σ u) m (nI c) (nI q) (nI wd) W (nI r) = _
    unfold X13_pack_12_s
    rw [ob_e h.r, ob_e h.n1, if_neg (nI_ge hr (by omega)), ob_e h.cl, ob_e (h.code hN hc hr), hcr r hr]
    exact e1
  · show X13_pack_12_s E σ (X13_pack_12 E σ u) m (nI c) (nI q) (nI wd) W (nI (tR S)) = _
    unfold X13_pack_12_s
    rw [ob_e h.r, ob_e h.n1, if_pos (nI_le (Nat.le_refl _) (by omega))]
  · rw [bL_0]
    unfold pb
    rw [decide_eq_false (Nat.not_lt_zero _), Bool.false_and]
theorem mQ.bits (h : mQ E σ m ro g S) (hN : 100000 ≤ gN E) : X13_allBits_f E σ m = some (nI (gbits S)) := by
  have hC := h.C
  unfold X13_allBits_f X13_allBits gbits
  have h0 : (0 : Int32) = nI (fb_sm (fun c => gwid (dsz (tD S c))) 0 * tR S) := by
    show _ = nI (0 * tR S)
    rw [Nat.zero_mul]
    rfl
  have hl := lp (F := fun q a k => X13_allBits_4 E σ q m (nI a) (nI k)) (s := fun k => fb_sm (fun c => gwid (dsz (tD S c))) k * tR S) (n := S.1) (o := some (nI (fb_sm (fun c => gwid (dsz (tD S c))) S.1 * tR S))) (fun q k hk => ?_) (fun q => ?_) S.1 0 (gN E) (by omega) (by omega)
  · rw [h0]
    exact h0 ▸ hl
  · show X13_allBits_4_s E σ (X13_allBits_4 E σ q) m _ (nI k) = _
    unfold X13_allBits_4_s
    rw [ob_e h.r, ob_e h.n0, if_neg (nI_ge hk (by omega)), ob_e h.cl, ob_e (h.width hN hk), ob_e h.r, ob_e h.n1, nI_mul, nI_add, ← nI_succ, fb_sm_succ, Nat.add_mul]
  · show X13_allBits_4_s E σ (X13_allBits_4 E σ q) m _ (nI S.1) = _
    unfold X13_allBits_4_s
    rw [ob_e h.r, ob_e h.n0, if_pos (nI_le (Nat.le_refl _) (by omega))]
theorem mQ.ratio (h : mQ E σ m ro g S) (hN : 100000 ≤ gN E) : X13_compressionRatio_12 E (gN E) m (nI (gbits S)) 0 σ = some (grat S, σ) := by
  have hC := h.C
  have hR := h.R
  refine lp (F := fun q a k => X13_compressionRatio_12 E q m (nI (gbits S + 16 * a)) (nI k) σ) (s := fun k => fb_sm (fun c => dsz (tD S c)) k) (n := S.1) (fun q k hk => ?_) (fun q => ?_) S.1 0 (gN E) (by omega) (by omega)
  · show X13_compressionRatio_12_s E (X13_compressionRatio_12 E q) m _ (nI k) σ = _
    unfold X13_compressionRatio_12_s
    rw [ob_e h.r, ob_e h.n0, if_neg (nI_ge hk (by omega)), ob_e h.cl, ob_e (h.size hN hk), show (16 : Int32) * nI (dsz (tD S k)) = nI (16 * dsz (tD S k)) from nI_mul 16 _, nI_add, ← nI_succ, fb_sm_succ, Nat.mul_add, Nat.add_assoc]
  · show X13_compressionRatio_12_s E (X13_compressionRatio_12 E q) m _ (nI S.1) σ = _
    unfold X13_compressionRatio_12_s grat
    rw [ob_e h.r, ob_e h.n0, if_pos (nI_le (Nat.le_refl _) (by omega)), ob_e h.r, ob_e h.n1, ob_e h.r, ob_e h.n0, ob_e h.r, ob_e h.n1]
    by_cases h0 : tR S = 0
    · rw [if_pos (by rw [h0]; rfl), if_pos h0]
    · have hp := grat_pos h.G h0
      have he := gents_le hC
      have hw := gwids_le hC (Nat.le_refl _)
      have hb : gbits S ≤ 90 * 60 := Nat.mul_le_mul hw hR
      rw [if_neg (nI_ne0 (by omega) (by omega)), if_neg h0, show ((16 : Int32) * nI (tR S)) * nI S.1 = nI (16 * S.1 * tR S) from by rw [show (16 : Int32) = nI 16 from rfl, nI_mul, nI_mul, Nat.mul_right_comm]]
      have e : fb_sm (fun c => dsz (tD S c)) S.1 = gents S := rfl
      rw [e, ob_e (gddiv_ii (nI_ne0 (by omega) (by omega)))]
end MM
