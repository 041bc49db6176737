/-! pure: the reference's questions on its row -/
theorem lp {α β : Type} {F : Nat → α → Nat → Option β} {s : Nat → α} {n : Nat} {o : Option β} (hs : ∀ m r, r < n → F (m + 1) (s r) r = F m (s (r + 1)) (r + 1)) (hz : ∀ m, F (m + 1) (s n) n = o) : ∀ k r m, r + k = n → k < m → F m (s r) r = o := by
  intro k
  induction k with
  | zero =>
    intro r m hr hm
    obtain ⟨m, rfl⟩ : ∃ q, m = q + 1 := ⟨m - 1, by omega⟩
    have e : r = n := by omega
    rw [e]
    exact hz m
  | succ k ih =>
    intro r m hr hm
    obtain ⟨m, rfl⟩ : ∃ q, m = q + 1 := ⟨m - 1, by omega⟩
    rw [hs m r (by omega)]
    exact ih (r + 1) m (by omega) (by omega)
theorem lpw {E : gE} {J : Nat × Nat × Nat → Prop} {β : Type} {F : Nat → gWd → Nat → Option β} {I : Nat → gWd → Prop} {O : gWd → Option β} {n : Nat} (hs : ∀ m r w, r < n → I r w → ∃ w', F (m + 1) w r = F m w' (r + 1) ∧ FS E J w w' ∧ I (r + 1) w') (hz : ∀ m w, I n w → F (m + 1) w n = O w) : ∀ k r m w, r + k = n → k < m → I r w → ∃ w', F m w r = O w' ∧ FS E J w w' ∧ I n w' := by
  intro k
  induction k with
  | zero =>
    intro r m w hr hm hI
    obtain ⟨m, rfl⟩ : ∃ q, m = q + 1 := ⟨m - 1, by omega⟩
    have e : r = n := by omega
    subst e
    exact ⟨w, hz m w hI, FS.rf, hI⟩
  | succ k ih =>
    intro r m w hr hm hI
    obtain ⟨m, rfl⟩ : ∃ q, m = q + 1 := ⟨m - 1, by omega⟩
    obtain ⟨w1, e1, F1, I1⟩ := hs m r w (by omega) hI
    obtain ⟨w2, e2, F2, I2⟩ := ih (r + 1) m w1 (by omega) (by omega) I1
    exact ⟨w2, e1.trans e2, F1.trans F2, I2⟩
/-- what is read of the reference's row -/
def MV (E : gE) (σ : gS) (m ro : Nat) (g : Nat → Int32) : Prop := gcl σ m 11 = some () ∧ gfR σ m 11 8 = some ro ∧ ∀ i, i < 4137 → graI E 0 σ ro (nI i) = some (g i)
/-- the cells hold the table -/
def MT (g : Nat → Int32) (S : gT) : Prop :=
  g 0 = nI S.1 ∧ g 1 = nI (tR S) ∧ g 2 = nI (tK S) ∧ (∀ i, i < tK S → g (3 + 3 * i + 0) = nI (tFc S i) ∧ g (3 + 3 * i + 1) = tFv S i ∧ g (3 + 3 * i + 2) = tFd S i) ∧ (∀ c r, c < S.1 → r < tR S → g (27 + 6 * r + c) = tV S c r) ∧ ∀ c, c < S.1 → sOK (tD S c) ∧ ∀ k i, k < 625 → i < 32 → bt (g (387 + 625 * c + k)) i = tD S c (32 * k + i)
def mQ (E : gE) (σ : gS) (m ro : Nat) (g : Nat → Int32) (S : gT) : Prop := MV E σ m ro g ∧ MT g S ∧ GS S
theorem in_f {E : gE} {σ : gS} (a lo hi : Int32) : X13_inRange_f E σ a lo hi = some (if lo.toInt ≤ a.toInt ∧ a.toInt ≤ hi.toInt then 1 else 0) := by
  unfold X13_inRange_f X13_inRange X13_inRange_14
  by_cases h1 : a < lo
  · have := (fa_lt _ _).mp h1
    rw [if_pos h1, if_neg (by omega)]
  · have h1' : ¬ a.toInt < lo.toInt := fun z => h1 ((fa_lt _ _).mpr z)
    rw [if_neg h1]
    by_cases h2 : hi < a
    · have := (fa_lt _ _).mp h2
      rw [if_pos h2, if_neg (by omega)]
    · have h2' : ¬ hi.toInt < a.toInt := fun z => h2 ((fa_lt _ _).mpr z)
      rw [if_neg h2, if_pos (by omega)]
theorem in_n {E : gE} {σ : gS} (a : Int32) {n : Nat} (hn : n < 2 ^ 31) : X13_inRange_f E σ a 0 (nI n - (1 : Int32)) = some (if 0 ≤ a.toInt ∧ a.toInt < n then 1 else 0) := by
  have e : (nI n - (1 : Int32)).toInt = (n : Int) - 1 := by
    have h1 := nI_toInt hn
    have h2 : (1 : Int32).toInt = 1 := rfl
    rw [fb_subI (by omega) (by omega), h1, h2]
  rw [in_f, e, toI0]
  by_cases h : 0 ≤ a.toInt ∧ a.toInt < n
  · rw [if_pos h, if_pos (by omega)]
  · rw [if_neg h, if_neg (by omega)]
theorem val_f {E : gE} {σ : gS} (v : Int32) : X13_isValue_f E σ v = some (if -9999 ≤ v.toInt ∧ v.toInt ≤ 9999 then 1 else 0) := by
  unfold X13_isValue_f X13_isValue
  rw [ob_e (in_f v _ _), ob_e (gzif _)]
  rfl
theorem pl_f {E : gE} {σ : gS} (c r : Nat) : X13_placeOf_f E σ (nI c) (nI r) = some (nI (27 + 6 * r + c)) := by
  unfold X13_placeOf_f X13_placeOf
  rw [show (27 : Int32) = nI 27 from rfl, show (6 : Int32) = nI 6 from rfl, nI_mul, nI_add, nI_add]
theorem di_i (c k : Nat) : ((387 : Int32) + (625 : Int32) * nI c) + nI k = nI (387 + 625 * c + k) := by
  rw [show (387 : Int32) = nI 387 from rfl, show (625 : Int32) = nI 625 from rfl, nI_mul, nI_add, nI_add]
theorem co_i (i d : Nat) : ((3 : Int32) + (3 : Int32) * nI i) + nI d = nI (3 + 3 * i + d) := by
  rw [show (3 : Int32) = nI 3 from rfl, nI_mul, nI_add, nI_add]
theorem b_one : ∀ i, i < 32 → bt 1 i = decide (i = 0) := by decide +kernel
theorem b_mk : ∀ j, j < 32 → ∀ i, i < 32 → bt (((1 : Int32) <<< (nI j &&& 31)) - (1 : Int32)) i = decide (i < j) := by decide +kernel
theorem bit_one (x : Int32) {j : Nat} (hj : j < 32) : gushr x (nI j) &&& (1 : Int32) = if bt x j = true then 1 else 0 := by
  apply b_ext
  intro i hi
  rw [b_and, b_ushr j hj, b_one i hi]
  by_cases h : i = 0
  · subst h
    by_cases hb : bt x j = true
    · rw [if_pos hb, Nat.add_zero, hb]
      rfl
    · rw [if_neg hb, Nat.add_zero, ts_nt hb]
      rfl
  · rw [decide_eq_false h, Bool.and_false]
    by_cases hb : bt x j = true
    · rw [if_pos hb, b_one i hi, decide_eq_false h]
    · rw [if_neg hb, b_0]
theorem ct_mask (p : Nat → Bool) (j : Nat) : ∀ n, j ≤ n → fb_ct (fun i => p i && decide (i < j)) n = fb_ct p j := by
  intro n
  induction n with
  | zero => intro h; rw [show j = 0 by omega]; rfl
  | succ n ih =>
    intro h
    by_cases e : j = n + 1
    · rw [← e]
      exact fb_ct_cong fun k hk => by rw [decide_eq_true hk, Bool.and_true]
    · rw [fb_ct_succ, ih (by omega), decide_eq_false (by omega), Bool.and_false]
      rfl
theorem p32 (p : Nat) (hp : p < 2 ^ 31) : nI p - nI p / (32 : Int32) * (32 : Int32) = nI (p % 32) := fa_rem (k := 5) hp (by decide)
theorem d32 (p : Nat) (hp : p < 2 ^ 31) : nI p / (32 : Int32) = nI (p / 32) := nI_div (b := 32) hp (by decide)
theorem v99 {v : Int32} (h : vIn v) : v + (9999 : Int32) = nI (px v) := by
  have h1 := h.1
  have h2 := h.2
  have e : (9999 : Int32).toInt = 9999 := rfl
  apply Int32.toInt_inj.mp
  have := px_lt h
  rw [fb_addI (by omega) (by omega), nI_toInt (by omega), e]
  unfold px
  omega
theorem xp99 {p : Nat} (h : p < 20000) : nI p - (9999 : Int32) = xp p := by
  have e : (9999 : Int32).toInt = 9999 := rfl
  have e2 := nI_toInt (n := p) (by omega)
  apply Int32.toInt_inj.mp
  rw [fb_subI (by omega) (by omega), xp_int (by omega), e2, e]
section MM
variable {E : gE} {σ : gS} {m ro : Nat} {g : Nat → Int32} {S : gT}
theorem mQ.cl (h : mQ E σ m ro g S) : gcl σ m 11 = some () := h.1.1
theorem mQ.r (h : mQ E σ m ro g S) : gfR σ m 11 8 = some ro := h.1.2.1
theorem mQ.G (h : mQ E σ m ro g S) : GS S := h.2.2
theorem mQ.n0 (h : mQ E σ m ro g S) : graI E 0 σ ro (0 : Int32) = some (nI S.1) := by
  have e := h.1.2.2 0 (by decide)
  rw [h.2.1.1] at e
  exact e
theorem mQ.n1 (h : mQ E σ m ro g S) : graI E 0 σ ro (1 : Int32) = some (nI (tR S)) := by
  have e := h.1.2.2 1 (by decide)
  rw [h.2.1.2.1] at e
  exact e
theorem mQ.n2 (h : mQ E σ m ro g S) : graI E 0 σ ro (2 : Int32) = some (nI (tK S)) := by
  have e := h.1.2.2 2 (by decide)
  rw [h.2.1.2.2.1] at e
  exact e
theorem mQ.C (h : mQ E σ m ro g S) : S.1 ≤ 6 := h.2.2.2.1
theorem mQ.R (h : mQ E σ m ro g S) : tR S ≤ 60 := h.2.2.2.2.2.1
theorem mQ.K (h : mQ E σ m ro g S) : tK S ≤ 8 := h.2.2.2.2.2.2.2.1
theorem mQ.at (h : mQ E σ m ro g S) {c r : Nat} (hc : c < S.1) (hr : r < tR S) : X13_at_f E σ m (nI c) (nI r) = some (tV S c r) := by
  have hC := h.C
  have hR := h.R
  unfold X13_at_f X13_at
  rw [ob_e h.r, ob_e (pl_f c r), ob_e (h.1.2.2 _ (by omega)), h.2.1.2.2.2.2.1 c r hc hr]
theorem mQ.col (h : mQ E σ m ro g S) (a : Int32) : X13_isColumn_f E σ m a = some (if cOK S a then 1 else 0) := by
  have hC := h.C
  unfold X13_isColumn_f X13_isColumn
  rw [ob_e h.r, ob_e h.n0, ob_e (in_n a (by omega)), ob_e (gzif _)]
theorem mQ.row (h : mQ E σ m ro g S) (a : Int32) : X13_isRow_f E σ m a = some (if rOK S a then 1 else 0) := by
  have hR := h.R
  unfold X13_isRow_f X13_isRow
  rw [ob_e h.r, ob_e h.n1, ob_e (in_n a (by omega)), ob_e (gzif _)]
theorem mQ.con (h : mQ E σ m ro g S) (a : Int32) : X13_isCondition_f E σ m a = some (if kOK S a then 1 else 0) := by
  have hK := h.K
  unfold X13_isCondition_f X13_isCondition
  rw [ob_e h.r, ob_e h.n2, ob_e (in_n a (by omega)), ob_e (gzif _)]
theorem mQ.cell (h : mQ E σ m ro g S) (a b : Int32) : X13_isCell_f E σ m a b = some (if cOK S a ∧ rOK S b then 1 else 0) := by
  unfold X13_isCell_f X13_isCell
  rw [ob_e h.cl, ob_e (h.col a)]
  by_cases h1 : cOK S a
  · rw [if_pos h1, if_neg (by decide), ob_e h.cl, ob_e (h.row b)]
    by_cases h2 : rOK S b
    · rw [if_pos h2, if_neg (by decide), if_pos ⟨h1, h2⟩]
    · rw [if_neg h2, if_pos rfl, if_neg (fun z => h2 z.2)]
      rfl
  · rw [if_neg h1, if_pos rfl, if_neg (fun z => h1 z.1)]
    rfl
theorem mQ.wd (h : mQ E σ m ro g S) {c k : Nat} (hc : c < S.1) (hk : k < 625) : graI E 0 σ ro (((387 : Int32) + (625 : Int32) * nI c) + nI k) = some (g (387 + 625 * c + k)) := by
  have hC := h.C
  rw [di_i]
  exact h.1.2.2 _ (by omega)
theorem mQ.tb (h : mQ E σ m ro g S) {c k : Nat} (hc : c < S.1) (hk : k < 625) {i : Nat} (hi : i < 32) : bt (g (387 + 625 * c + k)) i = tD S c (32 * k + i) := (h.2.1.2.2.2.2.2 c hc).2 k i hk hi
theorem mQ.pop (h : mQ E σ m ro g S) {c k : Nat} (hc : c < S.1) (hk : k < 625) : fb_ct (tD S c) (32 * k) + fb_ct (bt (g (387 + 625 * c + k))) 32 = fb_ct (tD S c) (32 * (k + 1)) := by
  rw [fb_ct_cong fun i hi => h.tb hc hk hi]
  exact (fb_ct_split (tD S c) (32 * k) 32).symm
theorem mQ.has (h : mQ E σ m ro g S) {c : Nat} (hc : c < S.1) (v : Int32) : X13_has_f E σ m (nI c) v = some (if dmem (tD S c) v = true then 1 else 0) := by
  unfold X13_has_f X13_has X13_has_47
  rw [ob_e (val_f v)]
  by_cases hv : -9999 ≤ v.toInt ∧ v.toInt ≤ 9999
  · have hp := px_lt (v := v) hv
    have e32 := h.tb hc (k := px v / 32) (by omega) (i := px v % 32) (by omega)
    rw [Nat.div_add_mod] at e32
    rw [if_pos hv, if_neg (by decide), ob_e h.r, v99 hv, d32 _ (by omega), ob_e (h.wd hc (by omega)), ← d32 _ (by omega), p32 _ (by omega), bit_one _ (by omega), e32]
    have hd : dmem (tD S c) v = tD S c (px v) := by
      unfold dmem
      rw [decide_eq_true hv, Bool.true_and]
    rw [hd]
    by_cases hb : tD S c (px v) = true
    · rw [if_pos hb, if_pos rfl]
    · rw [if_neg hb, if_neg (by decide)]
  · have hd : dmem (tD S c) v = false := by
      unfold dmem
      rw [decide_eq_false hv, Bool.false_and]
    rw [if_neg hv, if_pos rfl, hd]
    rfl
theorem mQ.less (h : mQ E σ m ro g S) (hN : 100000 ≤ gN E) {c : Nat} (hc : c < S.1) {v : Int32} (hv : vIn v) : X13_less_f E σ m (nI c) v = some (nI (fb_ct (tD S c) (px v))) := by
  have hp := px_lt hv
  unfold X13_less_f X13_less
  rw [v99 hv]
  refine lp (F := fun q a k => X13_less_12 E σ q m (nI c) (nI (px v)) (nI a) (nI k)) (s := fun k => fb_ct (tD S c) (32 * k)) (n := px v / 32) (fun q k hk => ?_) (fun q => ?_) (px v / 32) 0 (gN E) (by omega) (by omega)
  · show X13_less_12_s E σ (X13_less_12 E σ q) m (nI c) (nI (px v)) _ (nI k) = _
    unfold X13_less_12_s
    rw [d32 _ (by omega), if_neg (nI_ge hk (by omega)), ob_e h.r, ob_e (h.wd hc (by omega)), ob_e (bits_f _), nI_add, h.pop hc (k := k) (by omega), ← nI_succ]
  · show X13_less_12_s E σ (X13_less_12 E σ q) m (nI c) (nI (px v)) _ (nI (px v / 32)) = _
    unfold X13_less_12_s
    rw [p32 _ (by omega), d32 _ (by omega), if_pos (nI_le (Nat.le_refl _) (by omega)), ob_e h.r, ob_e (h.wd hc (by omega)), ob_e (bits_f _), nI_add]
    have e1 : fb_ct (bt (g (387 + 625 * c + px v / 32) &&& (((1 : Int32) <<< (nI (px v % 32) &&& 31)) - (1 : Int32)))) 32 = fb_ct (fun i => tD S c (32 * (px v / 32) + i)) (px v % 32) := by
      rw [← ct_mask (fun i => tD S c (32 * (px v / 32) + i)) (px v % 32) 32 (by omega)]
      refine fb_ct_cong fun i hi => ?_
      rw [b_and, b_mk _ (by omega) i hi, h.tb hc (by omega) hi]
    have e2 := fb_ct_split (tD S c) (32 * (px v / 32)) (px v % 32)
    rw [Nat.div_add_mod] at e2
    rw [e1, ← e2]
theorem mQ.size (h : mQ E σ m ro g S) (hN : 100000 ≤ gN E) {c : Nat} (hc : c < S.1) : X13_sizeIn_f E σ m (nI c) = some (nI (dsz (tD S c))) := by
  unfold X13_sizeIn_f X13_sizeIn
  refine lp (F := fun q a k => X13_sizeIn_4 E σ q m (nI c) (nI a) (nI k)) (s := fun k => fb_ct (tD S c) (32 * k)) (n := 625) (fun q k hk => ?_) (fun q => ?_) 625 0 (gN E) (by omega) (by omega)
  · show X13_sizeIn_4_s E σ (X13_sizeIn_4 E σ q) m (nI c) _ (nI k) = _
    unfold X13_sizeIn_4_s
    rw [if_neg (show ¬ (625 : Int32) ≤ nI k from nI_ge (b := 625) hk (by omega)), ob_e h.r, ob_e (h.wd hc hk), ob_e (bits_f _), nI_add, h.pop hc hk, ← nI_succ]
  · show X13_sizeIn_4_s E σ (X13_sizeIn_4 E σ q) m (nI c) _ (nI 625) = _
    unfold X13_sizeIn_4_s
    have e : fb_ct (tD S c) (32 * 625) = dsz (tD S c) := by
      show fb_ct (tD S c) (19999 + 1) = fb_ct (tD S c) 19999
      rw [fb_ct_succ, (h.2.1.2.2.2.2.2 c hc).1 19999 (Nat.le_refl _), if_neg (by decide), Nat.add_zero]
    rw [if_pos (show (625 : Int32) ≤ nI 625 from nI_le (a := 625) (Nat.le_refl _) (by omega)), e]
theorem mQ.valOf (h : mQ E σ m ro g S) (hN : 100000 ≤ gN E) {c i p : Nat} (hc : c < S.1) (hp : p < 19999) (hf : tD S c p = true) (hi : fb_ct (tD S c) p = i) : X13_valueOf_f E σ m (nI c) (nI i) = some (xp p) := by
  have hip : i ≤ p := by rw [← hi]; exact fb_ct_le _ _
  have hmon : ∀ a b, a ≤ b → fb_ct (tD S c) a ≤ fb_ct (tD S c) b := fun a b hab => fb_ct_mono _ hab
  have hp1 : fb_ct (tD S c) (p + 1) = i + 1 := by rw [fb_ct_succ, hf, hi]; rfl
  unfold X13_valueOf_f X13_valueOf
  refine lp (F := fun q a k => X13_valueOf_5 E σ q m (nI c) (nI k) (nI a)) (s := fun k => i - fb_ct (tD S c) (32 * k)) (n := p / 32) (fun q k hk => ?_) (fun q => ?_) (p / 32) 0 (gN E) (by omega) (by omega)
  · show X13_valueOf_5_s E σ (X13_valueOf_5 E σ q) m (nI c) (nI k) _ = _
    unfold X13_valueOf_5_s
    have h1 := h.pop hc (k := k) (by omega)
    have h2 := hmon (32 * (k + 1)) p (by omega)
    have h3 := fb_ct_le (bt (g (387 + 625 * c + k))) 32
    rw [ob_e h.r, ob_e (h.wd hc (by omega)), ob_e (bits_f _), if_neg (nI_nlt (by omega) (by omega)), ob_e h.r, ob_e (h.wd hc (by omega)), ob_e (bits_f _), nI_sub (by omega), ← nI_succ]
    show X13_valueOf_5 E σ q m (nI c) (nI (k + 1)) _ = X13_valueOf_5 E σ q m (nI c) (nI (k + 1)) _
    congr 2
    omega
  · show X13_valueOf_5_s E σ (X13_valueOf_5 E σ q) m (nI c) (nI (p / 32)) _ = _
    unfold X13_valueOf_5_s
    have h1 := h.pop hc (k := p / 32) (by omega)
    have h2 := hmon (p + 1) (32 * (p / 32 + 1)) (by omega)
    have h3 := fb_ct_le (bt (g (387 + 625 * c + p / 32))) 32
    have h4 := hmon (32 * (p / 32)) p (by omega)
    rw [ob_e h.r, ob_e (h.wd hc (by omega)), ob_e (bits_f _), if_pos (nI_lt (by omega) (by omega)), ob_e h.r, ob_e (h.wd hc (by omega))]
    refine lp (F := fun q a j => X13_valueOf_80 E σ q (nI (p / 32)) (nI a) (nI j) (g (387 + 625 * c + p / 32))) (s := fun j => i - fb_ct (tD S c) (32 * (p / 32) + j)) (n := p % 32) (fun q j hj => ?_) (fun q => ?_) (p % 32) 0 (gN E) (by omega) (by omega)
    · show X13_valueOf_80_s E σ (X13_valueOf_80 E σ q) (nI (p / 32)) _ (nI j) _ = _
      unfold X13_valueOf_80_s X13_valueOf_95
      have b1 := h.tb hc (k := p / 32) (by omega) (i := j) (by omega)
      have b2 : fb_ct (tD S c) (32 * (p / 32) + (j + 1)) = fb_ct (tD S c) (32 * (p / 32) + j) + if tD S c (32 * (p / 32) + j) = true then 1 else 0 := fb_ct_succ _ _
      have b3 := hmon (32 * (p / 32) + (j + 1)) p (by omega)
      rw [bit_one _ (by omega), b1, ← nI_succ]
      by_cases hb : tD S c (32 * (p / 32) + j) = true
      · rw [if_pos hb] at b2 ⊢
        rw [if_pos (by exact nI_lt (a := 0) (by omega) (by omega)), show (1 : Int32) = nI 1 from rfl, nI_sub (by omega)]
        show X13_valueOf_80 E σ q (nI (p / 32)) _ (nI (j + 1)) _ = X13_valueOf_80 E σ q (nI (p / 32)) _ (nI (j + 1)) _
        congr 2
        omega
      · rw [if_neg hb] at b2 ⊢
        have e0 : nI (i - fb_ct (tD S c) (32 * (p / 32) + j)) - (0 : Int32) = nI (i - fb_ct (tD S c) (32 * (p / 32) + (j + 1))) := by
          rw [show (0 : Int32) = nI 0 from rfl, nI_sub (by omega)]
          congr 1
          omega
        rw [e0, if_pos rfl, ite_self]
    · show X13_valueOf_80_s E σ (X13_valueOf_80 E σ q) (nI (p / 32)) _ (nI (p % 32)) _ = _
      unfold X13_valueOf_80_s
      have b1 := h.tb hc (k := p / 32) (by omega) (i := p % 32) (by omega)
      rw [Nat.div_add_mod] at b1
      have e0 : i - fb_ct (tD S c) (32 * (p / 32) + p % 32) = 0 := by
        rw [Nat.div_add_mod]
        omega
      rw [e0, if_neg (by decide), bit_one _ (by omega), b1, hf, if_pos rfl, if_neg (by decide), show (32 : Int32) = nI 32 from rfl, nI_mul, nI_add, Nat.div_add_mod, xp99 (by omega)]
theorem mQ.code (h : mQ E σ m ro g S) (hN : 100000 ≤ gN E) {c r : Nat} (hc : c < S.1) (hr : r < tR S) : X13_codeAt_f E σ m (nI c) (nI r) = some (nI (fb_ct (tD S c) (px (tV S c r)))) := by
  have hv := (h.G.2.2.2.2.1 c r hc hr).1
  unfold X13_codeAt_f X13_codeAt
  rw [ob_e h.cl, ob_e (h.at hc hr), ob_e h.cl, ob_e (h.less hN hc hv)]
theorem mQ.isCode (h : mQ E σ m ro g S) (hN : 100000 ≤ gN E) {c : Nat} (hc : c < S.1) (b : Int32) : X13_isCode_f E σ m (nI c) b = some (if dcOK S c b then 1 else 0) := by
  have hC := h.C
  have := dsz_le (tD S c)
  unfold X13_isCode_f X13_isCode X13_isCode_27
  rw [ob_e h.cl, ob_e (h.col (nI c)), if_pos (show cOK S (nI c) from by rw [cOK, nI_toInt (by omega)]; omega), if_neg (by decide), ob_e h.cl, ob_e (h.size hN hc), ob_e (in_n b (by omega))]
  by_cases h2 : dcOK S c b
  · rw [if_pos h2, if_neg (by decide)]
  · rw [if_neg h2, if_pos rfl]
theorem mQ.isCodeF (h : mQ E σ m ro g S) {a : Int32} (ha : ¬ cOK S a) (b : Int32) : X13_isCode_f E σ m a b = some 0 := by
  unfold X13_isCode_f X13_isCode X13_isCode_27
  rw [ob_e h.cl, ob_e (h.col a), if_neg ha, if_pos rfl]
theorem mQ.occ (h : mQ E σ m ro g S) (hN : 100000 ≤ gN E) {c : Nat} (hc : c < S.1) (v : Int32) : X13_countValue_f E σ m (nI c) v = some (nI (gocc (tV S c) (tR S) v)) := by
  have hR := h.R
  unfold X13_countValue_f X13_countValue
  refine lp (F := fun q a r => X13_countValue_5 E σ q m (nI c) v (nI a) (nI r)) (s := fun r => fb_ct (fun i => decide (tV S c i = v)) r) (n := tR S) (fun q r hr => ?_) (fun q => ?_) (tR S) 0 (gN E) (by omega) (by omega)
  · show X13_countValue_5_s E σ (X13_countValue_5 E σ q) m (nI c) v _ (nI r) = _
    unfold X13_countValue_5_s X13_countValue_33
    rw [ob_e h.r, ob_e h.n1, if_neg (nI_ge hr (by omega)), ob_e h.cl, ob_e (h.at hc hr), ← nI_succ r, fb_ct_succ]
    by_cases e : tV S c r = v
    · rw [if_pos e, decide_eq_true e, if_pos rfl, show (1 : Int32) = nI 1 from rfl, nI_add]
    · rw [if_neg e, decide_eq_false e, show (0 : Int32) = nI 0 from rfl, nI_add, if_neg (by decide)]
  · show X13_countValue_5_s E σ (X13_countValue_5 E σ q) m (nI c) v _ (nI (tR S)) = _
    unfold X13_countValue_5_s
    rw [ob_e h.r, ob_e h.n1, if_pos (nI_le (Nat.le_refl _) (by omega))]
    rfl
end MM
