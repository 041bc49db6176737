/-! the law: text that is built -/
def SBg (g : Nat → Int32) (tx : List Nat) : Prop := ∀ i, i < tx.length → g i = nI (tx.getD i 0)
/-- a builder at a, not below lo, with room m, that holds the text -/
def SB (E : gE) (w : gWd) (lo a m : Nat) (tx : List Nat) : Prop :=
  lo ≤ a ∧ ∃ (va : Nat) (g : Nat → Int32) (z : Int32), lo ≤ va ∧ va ≠ a ∧ Ob w tL a 11 [.ref va, .int 0, .int z, .int (nI tx.length)] ∧ ArB E w tL va m g ∧ tx.length ≤ m ∧ m ≤ 2000 ∧ (∀ i, i < m → (g i).toInt8.toInt32 = g i) ∧ SBg g tx
abbrev FT (E : gE) (w0 w : gWd) : Prop := FS (E0 E) (fun _ => False) w0 w
def TR (E : gE) (w0 : gWd) (a : Nat) (tx : List Nat) (u : Nat) (w : gWd) (res : Option (Nat × gS)) : Prop := ∃ w' m, res = some (a, w'.1) ∧ (∀ y, RM E w (y + u) → RM E w' y) ∧ FT E w0 w' ∧ SB E w' w0.1.2.1 a m tx
theorem ap_lo {t s : List Nat} {i : Nat} (h : i < t.length) : (t ++ s).getD i 0 = t.getD i 0 := by
  rw [List.getD_eq_getElem?_getD, List.getD_eq_getElem?_getD, List.getElem?_append_left h]
theorem ap_hi {t s : List Nat} {i : Nat} (h : t.length ≤ i) : (t ++ s).getD i 0 = s.getD (i - t.length) 0 := by
  rw [List.getD_eq_getElem?_getD, List.getD_eq_getElem?_getD, List.getElem?_append_right h]
section SBS
variable {E : gE} {w0 w w1 : gWd} {a b m k n u y : Nat} {tx s : List Nat} {g f : Nat → Int32} {e : va_E}
theorem ft_up (h : FT E w0 w) (ha : w0.1.2.1 ≤ a) (e : va_E) : FT E w0 (wUp w a e) :=
  ⟨h.1, fun b hb => ⟨(h.2.1 b hb).1, fun hj => (wUp_ne (by omega)).trans ((h.2.1 b hb).2 hj)⟩, h.2.2.1, h.2.2.2⟩
theorem ft_new (h : FT E w0 w) (hw : 0 < w.1.2.1) : FT E w0 (wNew w tL e n w.2.2) := h.trans (nw_cell hw e).1
theorem arB_up (h : ArB E w tL b n g) (hne : b ≠ a) : ArB E (wUp w a e) tL b n g := ⟨h.1, h.2.1, h.2.2.1, by show (wUp w a e).1.1 b = _; rw [wUp_ne hne]; exact h.2.2.2⟩
theorem ob_up {ci : Nat} {fs : List Value} (h : Ob w tL b ci fs) (hne : b ≠ a) : Ob (wUp w a e) tL b ci fs := ⟨h.1, h.2.1, by show (wUp w a e).1.1 b = _; rw [wUp_ne hne]; exact h.2.2⟩
theorem fp_naB (h : RM E w (y + u)) (hn : n ≤ 6 * u) (hu : 1 ≤ u) (hw : 0 < w.1.2.1) (hn6 : n ≤ 60000000) : gnaB E w.1 (nI n) = some (w.1.2.1, (wNew w tL (.inl (gcy E 1, n, .inl fun _ => 0)) n w.2.2).1) ∧ ArB E (wNew w tL (.inl (gcy E 1, n, .inl fun _ => 0)) n w.2.2) tL w.1.2.1 n (fun _ => 0) :=
  ⟨gna_ok (fp_room h hn hu hw) hn6 1 tL, va_up_self _ _ _, Nat.lt_succ_self _, h.2.2 _ (Nat.le_refl _), up_same⟩
theorem cpB {a0 n0 n1 sp dp : Nat} (h0 : ArB E w tL a0 n0 f) (h : ArB E w tL a n1 g) (hs : sp + n ≤ n0) (hd : dp + n ≤ n1) (h31 : n0 < 2 ^ 31) (h32 : n1 < 2 ^ 31) (hfit : ∀ i, i < n → (f (sp + i)).toInt8.toInt32 = f (sp + i)) :
    gcopyB E w.1 a0 (nI sp) a (nI dp) (nI n) = some (wUp w a (.inl (gcy E 1, n1, .inl (va_cpy f g sp dp n)))).1 := by
  have e0 : gat E w.1 a0 = .inl (gcy E 1, n0, .inl f) := by
    unfold gat
    rw [h0.2.2.1]
    exact h0.2.2.2
  have e1 : gac E 1 a0 = gcy E 1 := by
    unfold gac
    rw [h0.2.2.1]
    rfl
  unfold gcopyB
  rw [e0, h.2.2.2, e1]
  simp only [true_and]
  rw [nI_clamp (n := sp) (by omega), nI_clamp (n := dp) (by omega), nI_clamp (n := n) (by omega), if_pos ⟨nI_pos (by omega), nI_pos (by omega), nI_pos (by omega), hs, hd, hfit⟩]
  rfl
theorem cpK {a0 n0 n1 sp dp : Nat} (hr : gro E a0 = true) (hc : gcs E a0 = .inl (1, n0, .inl f)) (h : ArB E w tL a n1 g) (hs : sp + n ≤ n0) (hd : dp + n ≤ n1) (h31 : n0 < 2 ^ 31) (h32 : n1 < 2 ^ 31) (hfit : ∀ i, i < n → (f (sp + i)).toInt8.toInt32 = f (sp + i)) :
    gcopyB E w.1 a0 (nI sp) a (nI dp) (nI n) = some (wUp w a (.inl (gcy E 1, n1, .inl (va_cpy f g sp dp n)))).1 := by
  have e0 : gat E w.1 a0 = .inl (1, n0, .inl f) := by
    unfold gat
    rw [hr]
    exact hc
  have e1 : gac E 1 a0 = 1 := by
    unfold gac
    rw [hr]
    rfl
  unfold gcopyB
  rw [e0, h.2.2.2, e1]
  simp only [true_and]
  rw [nI_clamp (n := sp) (by omega), nI_clamp (n := dp) (by omega), nI_clamp (n := n) (by omega), if_pos ⟨nI_pos (by omega), nI_pos (by omega), nI_pos (by omega), hs, hd, hfit⟩]
  rfl
theorem by0 : (0 : Int32).toInt8.toInt32 = 0 := rfl
theorem cpy_fit {M : Nat} (hb : ∀ i, i < m → (g i).toInt8.toInt32 = g i) (i : Nat) (_ : i < M) : (va_cpy g (fun _ => 0) 0 0 m i).toInt8.toInt32 = va_cpy g (fun _ => 0) 0 0 m i := by
  by_cases h : i < m
  · rw [pk_cpy_in (Nat.zero_le _) (by omega)]
    rw [show 0 + (i - 0) = i by omega]
    exact hb i h
  · rw [pk_cpy_out (by omega)]
    exact by0
/-- a longer copy -/
theorem cp_of {M va : Nat} (hA : ArB E w tL va m g) (hb : ∀ i, i < m → (g i).toInt8.toInt32 = g i) (hmM : m < M) (hM : M ≤ 1806) (hR : RM E w (y + 301)) (hw : 0 < w.1.2.1) :
    ∃ w', J7_copyOf_9075b_f E va (nI M) w.1 = some (w.1.2.1, w'.1) ∧ (∀ y, RM E w (y + 301) → RM E w' y) ∧ FT E w w' ∧ ArB E w' tL w.1.2.1 M (va_cpy g (fun _ => 0) 0 0 m) := by
  obtain ⟨e1, A1⟩ := fp_naB (n := M) hR (by omega) (by omega) hw (by omega)
  have F1 := nw_cell (E := E) (J := fun _ => False) (t := tL) (n := M) hw (.inl (gcy E 1, M, .inl fun _ => 0))
  obtain ⟨-, K1⟩ := fp_new (E := E) (P := fun _ => False) (n := M) (u := 301) hw (.inl (gcy E 1, M, .inl fun _ => 0)) (by omega) (by omega)
  have hA1 : ArB E (wNew w tL (.inl (gcy E 1, M, .inl fun _ => 0)) M w.2.2) tL va m g := ArB.fr (E := E0 E) hA F1.1 (fun z => z)
  generalize hw1 : wNew w tL (.inl (gcy E 1, M, .inl fun _ => 0)) M w.2.2 = w1 at e1 A1 F1 K1 hA1
  have c1 := cpB (E := E) (w := w1) (sp := 0) (dp := 0) (n := m) hA1 A1 (by omega) (by omega) (by omega) (by omega) (fun i hi => by rw [Nat.zero_add]; exact hb i hi)
  refine ⟨wUp w1 w.1.2.1 (.inl (gcy E 1, M, .inl (va_cpy g (fun _ => 0) 0 0 m))), ?_, fun y hy => K1.2 y hy, ft_up F1.1 (Nat.le_refl _) _, A1.1, A1.2.1, A1.2.2.1, wUp_at⟩
  unfold J7_copyOf_9075b_f J7_copyOf_9075b
  rw [ob_e hA.2.2.len, if_neg (fun z => by have := (nI_eqI (by omega) (by omega)).mp z; omega), ob_e e1, ob_e hA1.2.2.len, gmin_nI (by omega) (by omega), show min m M = m by omega]
  show ob (gcopyB E w1.1 va (0 : Int32) w.1.2.1 (0 : Int32) (nI m)) _ = _
  rw [ob_e (show gcopyB E w1.1 va (0 : Int32) w.1.2.1 (0 : Int32) (nI m) = _ from c1)]
theorem SB.ens (hF : FT E w0 w) (h : SB E w w0.1.2.1 a m tx) (hk : k ≤ 900) (hR : RM E w (y + 301)) :
    ∃ w' m', J5_ensureCapacityInternal_d00df_f E a (nI k) w.1 = some w'.1 ∧ (∀ y, RM E w (y + 301) → RM E w' y) ∧ FT E w0 w' ∧ SB E w' w0.1.2.1 a m' tx ∧ k ≤ m' ∧ m ≤ m' := by
  obtain ⟨ha, va, g, z, hva, hne, hO, hA, hl, hm, hb, hg⟩ := h
  have r0 : gfR w.1 a 11 0 = some va := gfR_o hO.2.2 rfl
  have r1 : gfI w.1 a 11 1 = some 0 := gfI_o hO.2.2 rfl
  have hw : 0 < w.1.2.1 := Nat.lt_of_le_of_lt (Nat.zero_le _) hO.2.1
  unfold J5_ensureCapacityInternal_d00df_f J5_ensureCapacityInternal_d00df
  rw [ob_e r0, ob_e hA.2.2.len, ob_e r1, shr0]
  have hst := pk_sub_toInt (a := k) (b := m) (by omega) (by omega)
  by_cases hkm : k ≤ m
  · rw [if_pos (by rw [fa_le, hst]; show (k : Int) - m ≤ 0; omega)]
    exact ⟨w, m, rfl, fun y hy => hy.dn (by omega), hF, ⟨ha, va, g, z, hva, hne, hO, hA, hl, hm, hb, hg⟩, hkm, Nat.le_refl _⟩
  · rw [if_neg (by rw [fa_le, hst]; show ¬ (k : Int) - m ≤ 0; omega), ob_e r0, ob_e (gcl_o hO.2.2)]
    have hnc : J5_newCapacity_0f7a4_f E a (nI k) w.1 = some (nI (m + max (k - m) (m + 2)), w.1) := by
      unfold J5_newCapacity_0f7a4_f J5_newCapacity_0f7a4
      rw [ob_e r0, ob_e hA.2.2.len, ob_e r1, ob_e r1, sb_shl0, sb_shl0, nI_sub (by omega), show (2 : Int32) = nI 2 from rfl, nI_add]
      have hnl : J8_newLength_cabcc_f E (nI m) (nI (k - m)) (nI (m + 2)) w.1 = some (nI (m + max (k - m) (m + 2)), w.1) := by
        unfold J8_newLength_cabcc_f J8_newLength_cabcc
        rw [gmax_nI (by omega) (by omega), nI_add, if_neg (nI_nle (by omega) (by omega)), if_neg (show ¬ (2147483639 : Int32) < nI (m + max (k - m) (m + 2)) from (show ¬ nI 2147483639 < nI (m + max (k - m) (m + 2)) from nI_nlt (by omega) (by decide)))]
      rw [ob_e hnl]
      show (if nI (m + max (k - m) (m + 2)) = (2147483647 : Int32) then _ else _) = _
      rw [if_neg (fun z => by have := (nI_eqI (by omega) (by decide)).mp (show nI (m + max (k - m) (m + 2)) = nI 2147483647 from z); omega)]
      show ob (gfI w.1 a 11 1) _ = _
      rw [ob_e r1]
      show some (nI (m + max (k - m) (m + 2)) >>> ((0 : Int32) &&& 31), w.1) = _
      rw [shr0]
    obtain ⟨w1, e1, K1, F1, A1⟩ := cp_of (M := m + max (k - m) (m + 2)) hA hb (by omega) (by omega) hR hw
    have O1 := hO.fr F1 (fun z => z)
    obtain ⟨e2, O2, -⟩ := O1.put (E := E) 0 (.ref w.1.2.1) (by show 0 < 4; omega) (J := fun _ => True) trivial
    have hlo := hF.1
    have hax : a < w.1.2.1 := hO.2.1
    refine ⟨wUp w1 a (.inr (11, [Value.ref va, .int 0, .int z, .int (nI tx.length)].set 0 (.ref w.1.2.1))), m + max (k - m) (m + 2), ?_, fun y hy => K1 y hy, ft_up (hF.trans F1) ha _, ⟨ha, w.1.2.1, _, z, hF.1, by omega, O2, arB_up A1 (by omega), by omega, by omega, fun i hi => cpy_fit hb i hi, fun i hi => ?_⟩, by omega, by omega⟩
    · rw [ob_e hnc]
      show ob (gfI w.1 a 11 1) _ = _
      rw [ob_e r1]
      show ob (J7_copyOf_9075b_f E va (nI (m + max (k - m) (m + 2)) <<< ((0 : Int32) &&& 31)) w.1) _ = _
      rw [sb_shl0, ob_e e1]
      show ob (gpf E w1.1 a 11 0 (.ref w.1.2.1)) _ = _
      rw [ob_e e2]
    · rw [pk_cpy_in (Nat.zero_le _) (by omega), show 0 + (i - 0) = i by omega]
      exact hg i hi
theorem SB.lat (h : SB E w n a m tx) : J5_isLatin1_aae02_f E w.1 a = some 1 := by
  obtain ⟨ha, va, g, z, hva, hne, hO, hA, hl, hm, hb, hg⟩ := h
  unfold J5_isLatin1_aae02_f J5_isLatin1_aae02
  rw [if_neg (by decide), ob_e (gfI_o hO.2.2 rfl), if_pos rfl]
theorem SB.cl (h : SB E w n a m tx) : gcl w.1 a 11 = some () := by
  obtain ⟨ha, va, g, z, hva, hne, hO, -⟩ := h
  exact gcl_o hO.2.2
theorem SB.cnt (h : SB E w n a m tx) : gfI w.1 a 11 3 = some (nI tx.length) := by
  obtain ⟨ha, va, g, z, hva, hne, hO, -⟩ := h
  exact gfI_o hO.2.2 rfl
theorem sOf.coder {σ : gS} {l : List Nat} (h : sOf E a l) : J0_coder_7d493_f E σ a = some 0 := by
  obtain ⟨h1, va, g, h2, h3, h4, h5⟩ := h
  unfold J0_coder_7d493_f J0_coder_7d493
  rw [if_neg (by decide), ob_e (gxI_o h1 h2 rfl)]
  rfl
/-- a constant is appended -/
theorem SB.str {sa : Nat} (hS : sOf E sa s) (hF : FT E w0 w) (h : SB E w w0.1.2.1 a m tx) (hk : tx.length + s.length ≤ 900) (hR : RM E w (y + 301)) : TR E w0 a (tx ++ s) 301 w (J5_append_cf1ce_f E a sa w.1) := by
  obtain ⟨w1, m1, e1, K1, F1, h1, hk1, -⟩ := h.ens (k := tx.length + s.length) hF hk hR
  obtain ⟨ha, va, g, z, hva, hne, hO, hA, hl, hm, hb, hg⟩ := id h1
  obtain ⟨s1, vs, f, s2, s3, s4, s5, s6⟩ := id hS
  have hfit : ∀ i, i < s.length → (f (0 + i)).toInt8.toInt32 = f (0 + i) := fun i hi => by
    rw [Nat.zero_add, (s6 i hi).2]
    exact fa_byte_small (s6 i hi).1
  have c1 := cpK (w := w1) (sp := 0) (dp := tx.length) (n := s.length) s3 s4 hA (by omega) (by omega) (by omega) (by omega) hfit
  have O2 : Ob (wUp w1 va (.inl (gcy E 1, m1, .inl (va_cpy f g 0 tx.length s.length)))) tL a 11 [.ref va, .int 0, .int z, .int (nI tx.length)] := ob_up hO (Ne.symm hne)
  have A2 : ArB E (wUp w1 va (.inl (gcy E 1, m1, .inl (va_cpy f g 0 tx.length s.length)))) tL va m1 (va_cpy f g 0 tx.length s.length) := ⟨hA.1, hA.2.1, hA.2.2.1, wUp_at⟩
  have F2 : FT E w0 (wUp w1 va (.inl (gcy E 1, m1, .inl (va_cpy f g 0 tx.length s.length)))) := ft_up F1 hva _
  have K2 : ∀ y, RM E w1 y → RM E (wUp w1 va (.inl (gcy E 1, m1, .inl (va_cpy f g 0 tx.length s.length)))) y := fun _ h => h
  generalize wUp w1 va (.inl (gcy E 1, m1, .inl (va_cpy f g 0 tx.length s.length))) = w2 at c1 O2 A2 F2 K2
  obtain ⟨e3, O3, -⟩ := O2.put (E := E) 3 (.int (nI tx.length + nI s.length)) (by show 3 < 4; omega) (J := fun _ => True) trivial
  rw [nI_add] at e3 O3
  refine ⟨wUp w2 a (.inr (11, [Value.ref va, .int 0, .int z, .int (nI tx.length)].set 3 (.int (nI (tx.length + s.length))))), m1, ?_, fun y hy => K2 y (K1 y hy), ft_up F2 ha _, ha, va, _, z, hva, hne, by rw [List.length_append]; exact O3, arB_up A2 hne, by rw [List.length_append]; exact hk1, hm, fun i hi => ?_, fun i hi => ?_⟩
  · have hget : J0_getBytes_840e7_f E sa va (nI tx.length) 0 w1.1 = some w2.1 := by
      unfold J0_getBytes_840e7_f J0_getBytes_840e7
      rw [ob_e hS.cl, ob_e hS.coder, if_pos rfl, ob_e (gxR_o s1 s2 rfl), ob_e (gxR_o s1 s2 rfl), ob_e (ro_len s3 s4), sb_shl0, ob_e (show gcopyB E w1.1 vs (0 : Int32) va (nI tx.length) (nI s.length) = _ from c1)]
    have hput : J5_putStringAt_47b60_f E a (nI tx.length) sa w1.1 = some w2.1 := by
      have hinf : J5_inflateIfNeededFor_a7421_f E a sa w1.1 = some w1.1 := by
        unfold J5_inflateIfNeededFor_a7421_f J5_inflateIfNeededFor_a7421
        rw [if_neg (by decide), ob_e (gfI_o hO.2.2 rfl), ob_e hS.cl, ob_e hS.coder, if_pos rfl]
      unfold J5_putStringAt_47b60_f J5_putStringAt_47b60
      rw [ob_e h1.cl, ob_e hinf, ob_e (gfR_o hO.2.2 rfl), ob_e (gfI_o hO.2.2 rfl), ob_e hS.cl, ob_e hget]
    unfold J5_append_cf1ce_f J5_append_cf1ce
    rw [ob_e hS.cl, ob_e hS.length, ob_e h.cnt, ob_e h.cl, nI_add, ob_e e1, ob_e h1.cnt, ob_e h1.cl, ob_e hput, ob_e (gfI_o O2.2.2 rfl), nI_add, ob_e e3]
  · by_cases h1 : tx.length ≤ i ∧ i < tx.length + s.length
    · rw [pk_cpy_in h1.1 h1.2]
      exact hfit _ (by omega)
    · rw [pk_cpy_out (by omega)]
      exact hb i hi
  · rw [List.length_append] at hi
    by_cases h1 : i < tx.length
    · rw [pk_cpy_out (by omega), ap_lo h1]
      exact hg i h1
    · rw [pk_cpy_in (by omega) (by omega), ap_hi (by omega), Nat.zero_add]
      exact (s6 _ (by omega)).2
theorem SB.strB {sa : Nat} (hS : sOf E sa s) (hF : FT E w0 w) (h : SB E w w0.1.2.1 a m tx) (hk : tx.length + s.length ≤ 900) (hR : RM E w (y + 301)) : TR E w0 a (tx ++ s) 301 w (J4_append_15ec4_f E a sa w.1) := by
  obtain ⟨w1, m1, e1, K1, F1, h1⟩ := h.str hS hF hk hR
  refine ⟨w1, m1, ?_, K1, F1, h1⟩
  unfold J4_append_15ec4_f J4_append_15ec4
  rw [ob_e h.cl, ob_e e1]
end SBS
