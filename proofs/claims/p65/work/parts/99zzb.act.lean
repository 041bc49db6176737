/-! the law: what an act does -/
def mo (v : Int32) (n : Nat) : Nat := (v &&& 2147483647).toInt.natAbs % n
theorem le_lit {a k : Nat} (ha : a < 2 ^ 31) (hk : k < 2 ^ 31) : nI a ≤ nI k ↔ a ≤ k := by
  rw [fa_le, nI_toInt ha, nI_toInt hk]
  omega
theorem lt_lit {a k : Nat} (ha : a < 2 ^ 31) (hk : k < 2 ^ 31) : nI a < nI k ↔ a < k := by
  rw [fa_lt, nI_toInt ha, nI_toInt hk]
  omega
theorem msk_nn (v : Int32) : 0 ≤ (v &&& 2147483647).toInt := by
  have h : (v &&& 2147483647).toBitVec.toNat ≤ 2147483647 := by
    rw [Int32.toBitVec_and, BitVec.toNat_and]
    exact Nat.and_le_right
  show 0 ≤ (v &&& 2147483647).toBitVec.toInt
  rw [BitVec.toInt_eq_toNat_of_lt (by omega)]
  omega
theorem mo_lt (v : Int32) {n : Nat} (hn : 0 < n) : mo v n < n := Nat.mod_lt _ hn
theorem K_most {E : gE} {σ : gS} (v : Int32) {n : Nat} (hn : 0 < n) (hn2 : n < 2 ^ 31) : L_most_f E σ v (nI n) = some (nI (mo v n)) := by
  have h1 := msk_nn v
  have h2 := fb_rng (v &&& 2147483647)
  have e : v &&& 2147483647 = nI (v &&& 2147483647).toInt.natAbs := small_pos h1
  have hz : gnz (nI n) = some () := by
    unfold gnz
    rw [if_neg (fun z => by
      have := (nI_eqI (a := n) (b := 0) hn2 (by omega)).mp z
      omega)]
  unfold L_most_f L_most
  rw [ob_e hz]
  unfold mo
  have hq : (v &&& 2147483647).toInt.natAbs < 2 ^ 31 := by omega
  generalize (v &&& 2147483647).toInt.natAbs = q at e hq
  rw [e, pk_rem (d := n) hq hn hn2]
/-- the values that the law sets -/
def vSm (v : Int32) : Prop := -200 ≤ v.toInt ∧ v.toInt < 200
theorem vSm_in {v : Int32} (h : vSm v) : vIn v := ⟨by have := h.1; omega, by have := h.2; omega⟩
def DI (S : gT) : Prop := ∀ c, c < S.1 → ∀ p, tD S c p = true → 9799 ≤ p ∧ p < 10199
def IS (S : gT) : Prop := GS S ∧ S.1 ≤ 4 ∧ DI S
theorem px_sm {v : Int32} (h : vSm v) : 9799 ≤ px v ∧ px v < 10199 := by
  obtain ⟨h1, h2⟩ := h
  unfold px
  omega
theorem sm_px {v : Int32} (hv : vIn v) (h : 9799 ≤ px v ∧ px v < 10199) : vSm v := by
  obtain ⟨h1, h2⟩ := h
  obtain ⟨h3, h4⟩ := hv
  unfold px at h1 h2
  exact ⟨by omega, by omega⟩
theorem DI_dsz {f : Nat → Bool} (h : ∀ p, f p = true → 9799 ≤ p ∧ p < 10199) : dsz f ≤ 400 := by
  unfold dsz
  rw [show (19999 : Nat) = 9799 + (400 + 9800) from rfl, fb_ct_split, fb_ct_split]
  have h1 : fb_ct f 9799 = 0 := fb_ct_zero.mpr (fun k hk => by
    cases z : f k with
    | false => rfl
    | true => have := h k z; omega)
  have h2 : fb_ct (fun k => f (9799 + (400 + k))) 9800 = 0 := fb_ct_zero.mpr (fun k hk => by
    cases z : f (9799 + (400 + k)) with
    | false => rfl
    | true => have := h _ z; omega)
  have h3 := fb_ct_le (fun k => f (9799 + k)) 400
  omega
theorem IS.all {S : gT} (h : IS S) : allN S ≤ 2400 := by
  obtain ⟨h1, h2, h3⟩ := h
  have a1 : fb_sm (fun c => dsz (tD S c)) S.1 ≤ S.1 * 400 := fb_sm_bound (fun k hk => DI_dsz (h3 k hk))
  have a2 : S.1 * (tR S + 1) ≤ 4 * 61 := Nat.mul_le_mul h2 (by have := h1.2.2.2.1; omega)
  have a3 := h1.2.2.2.2.2.1
  have a4 : S.1 * 400 ≤ 4 * 400 := Nat.mul_le_mul_right _ h2
  unfold allN
  omega
/-- the row that an act adds -/
def aR (l4 : Int32) (j : Nat) : Int32 := nI (mo ((l4 >>> (nI j &&& 31)) + ((5 : Int32) * nI j)) 7) - 3
def aV (l4 : Int32) : Int32 := if mo (l4 >>> ((2 : Int32) &&& 31)) 3 = 0 then nI (mo l4 400) - 200 else nI (mo (l4 >>> ((3 : Int32) &&& 31)) 7) - 3
theorem sm7 : ∀ m, m < 7 → smI (nI m - 3) ∧ vSm (nI m - 3) := by
  intro m hm
  have : (nI m - 3).toInt = (m : Int) - 3 := by
    have e3 : (3 : Int32).toInt = 3 := rfl
    rw [fb_subI (by rw [nI_toInt (by omega), e3]; omega) (by rw [nI_toInt (by omega), e3]; omega), nI_toInt (by omega), e3]
  unfold vSm
  rw [this]
  omega
theorem aR_sm (l4 : Int32) (j : Nat) : smI (aR l4 j) := (sm7 _ (mo_lt _ (by omega))).1
theorem aR_v (l4 : Int32) (j : Nat) : vSm (aR l4 j) := (sm7 _ (mo_lt _ (by omega))).2
theorem aV_v (l4 : Int32) : vSm (aV l4) := by
  unfold aV
  by_cases h : mo (l4 >>> ((2 : Int32) &&& 31)) 3 = 0
  · rw [if_pos h]
    have hm := mo_lt l4 (n := 400) (by omega)
    generalize mo l4 400 = m at hm
    have : (nI m - 200).toInt = (m : Int) - 200 := by
      have e3 : (200 : Int32).toInt = 200 := rfl
      rw [fb_subI (by rw [nI_toInt (by omega), e3]; omega) (by rw [nI_toInt (by omega), e3]; omega), nI_toInt (by omega), e3]
    unfold vSm
    rw [this]
    omega
  · rw [if_neg h]
    exact (sm7 _ (mo_lt _ (by omega))).2
def aD (k : Nat) : Int32 := if k < 15 then -1 else if k < 17 then 0 else 1
def aDf (k : Nat) (l4 : Int32) (S : gT) : Option gT :=
  if k < 6 ∨ tR S = 0 then (if tR S = 60 then some (delT S) else some (apT S (aR l4)))
  else if k < 10 then some (putT1 S (mo l4 S.1) (mo (l4 >>> ((1 : Int32) &&& 31)) (tR S)) (aV l4))
  else if k < 13 then some (srtT S (mo l4 S.1) (decide (mo (l4 >>> ((5 : Int32) &&& 31)) 2 = 0)))
  else if k < 19 then (if tK S = 8 then none else some (addT S (mo l4 S.1) (aV l4) (aD k)))
  else if k < 22 then (if tK S = 0 then none else some (remT S (mo l4 (tK S))))
  else if k = 22 then (if tK S = 0 then none else some (delT S))
  else if k = 23 then some (rowT S (mo (l4 >>> ((1 : Int32) &&& 31)) (tR S)))
  else some (cmpT S (mo l4 S.1))
/-- what an act does to a table -/
def aT (S : gT) (x : Int32) : Option gT := aDf (mo x 26) (x >>> ((4 : Int32) &&& 31)) S
theorem IS.map {S : gT} (h : IS S) {op : Nat → gCol → gCol} (hG : GS (mapC op S.1 S)) (hd : ∀ c, c < S.1 → ∀ p, (op c (S.2.1 c)).2.2 p = true → 9799 ≤ p ∧ p < 10199) : IS (mapC op S.1 S) := by
  refine ⟨hG, h.2.1, fun c hc p hp => hd c hc p ?_⟩
  have hc : c < S.1 := hc
  show (op c (S.2.1 c)).2.2 p = true
  unfold tD at hp
  rw [mapC_col hc] at hp
  exact hp
theorem dins_in {f : Nat → Bool} {v : Int32} (hf : ∀ p, f p = true → 9799 ≤ p ∧ p < 10199) (hv : vSm v) : ∀ p, dins f (px v) p = true → 9799 ≤ p ∧ p < 10199 := by
  intro p hp
  unfold dins at hp
  by_cases z : p = px v
  · rw [z]
    exact px_sm hv
  · rw [if_neg z] at hp
    exact hf p hp
theorem IS.setc {S : gT} (h : IS S) {c : Nat} {x : gCol} (hG : GS (setC S c x)) (hd : c < S.1 → ∀ p, x.2.2 p = true → 9799 ≤ p ∧ p < 10199) : IS (setC S c x) := by
  refine ⟨hG, h.2.1, fun k hk p hp => ?_⟩
  have hk : k < S.1 := hk
  have hp : (if k = c then x else S.2.1 k).2.2 p = true := hp
  by_cases z : k = c
  · rw [if_pos z] at hp
    exact hd (by omega) p hp
  · rw [if_neg z] at hp
    exact h.2.2 k hk p hp
theorem aDf_ok {S : gT} (h : IS S) {k : Nat} {l4 : Int32} {S' : gT} (e : aDf k l4 S = some S') : IS S' := by
  have hG := h.1
  have h1 := hG.1
  have h6 := hG.2.1
  have hcol := mo_lt l4 (n := S.1) h1
  have hd : IS (delT S) := h.map hG.del.1 (fun c hc p hp => h.2.2 c hc p hp)
  unfold aDf at e
  by_cases c0 : k < 6 ∨ tR S = 0
  · rw [if_pos c0] at e
    by_cases c1 : tR S = 60
    · rw [if_pos c1] at e
      cases e
      exact hd
    · rw [if_neg c1] at e
      cases e
      exact h.map (hG.ap (fun c _ => vSm_in (aR_v l4 c)) (by have := hG.2.2.2.1; omega)).1 (fun c hc p hp => dins_in (h.2.2 c hc) (aR_v l4 c) p hp)
  · rw [if_neg c0] at e
    have hrow := mo_lt (l4 >>> ((1 : Int32) &&& 31)) (n := tR S) (by omega)
    by_cases c1 : k < 10
    · rw [if_pos c1] at e
      cases e
      exact h.setc (hG.put hcol hrow (vSm_in (aV_v l4))).1 (fun _ p hp => dins_in (h.2.2 _ hcol) (aV_v l4) p hp)
    · rw [if_neg c1] at e
      by_cases c2 : k < 13
      · rw [if_pos c2] at e
        cases e
        exact h.map (hG.srt _ _).1 (fun c hc p hp => h.2.2 c hc p hp)
      · rw [if_neg c2] at e
        by_cases c3 : k < 19
        · rw [if_pos c3] at e
          by_cases c4 : tK S = 8
          · rw [if_pos c4] at e
            cases e
          · rw [if_neg c4] at e
            cases e
            refine ⟨hG.add hcol (vSm_in (aV_v l4)) ?_ (by have := hG.2.2.2.2.2.1; omega), h.2⟩
            unfold aD
            by_cases z1 : k < 15
            · rw [if_pos z1]; exact .inl rfl
            · rw [if_neg z1]
              by_cases z2 : k < 17
              · rw [if_pos z2]; exact .inr (.inl rfl)
              · rw [if_neg z2]; exact .inr (.inr rfl)
        · rw [if_neg c3] at e
          by_cases c4 : k < 22
          · rw [if_pos c4] at e
            by_cases c5 : tK S = 0
            · rw [if_pos c5] at e
              cases e
            · rw [if_neg c5] at e
              cases e
              exact ⟨hG.rem (mo_lt _ (by omega)), h.2⟩
          · rw [if_neg c4] at e
            by_cases c5 : k = 22
            · rw [if_pos c5] at e
              by_cases c6 : tK S = 0
              · rw [if_pos c6] at e
                cases e
              · rw [if_neg c6] at e
                cases e
                exact hd
            · rw [if_neg c5] at e
              by_cases c6 : k = 23
              · rw [if_pos c6] at e
                cases e
                exact h.map (hG.row hrow).1 (fun c hc p hp => h.2.2 c hc p hp)
              · rw [if_neg c6] at e
                cases e
                refine h.setc (hG.cmp hcol).1 (fun _ p hp => ?_)
                obtain ⟨r, hr, rfl⟩ := (dcol_iff _ _ _).mp hp
                have hr : r < tR S := by
                  have := hG.2.2.1 _ hcol
                  omega
                exact h.2.2 _ hcol _ (hG.2.2.2.2.1 _ r hcol hr).2
theorem aT_ok {S : gT} (h : IS S) {x : Int32} {S' : gT} (e : aT S x = some S') : IS S' := aDf_ok h e
