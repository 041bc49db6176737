/-! the law: numbers, letters, strings made of builders -/
/-- a small number's text -/
def dcT (d : Int) : List Nat := if d < 0 then [45, 48 + d.natAbs] else [48 + d.natAbs]
theorem dcT_len (d : Int) : (dcT d).length = if d < 0 then 2 else 1 := by
  unfold dcT
  split <;> rfl
theorem dcT_lt {d : Int} (h1 : -10 < d) (h2 : d < 10) (i : Nat) : (dcT d).getD i 0 < 128 := by
  unfold dcT
  split
  · match i with
    | 0 => show (45 : Nat) < 128; omega
    | 1 => show 48 + d.natAbs < 128; omega
    | i + 2 => show (0 : Nat) < 128; omega
  · match i with
    | 0 => show 48 + d.natAbs < 128; omega
    | i + 1 => show (0 : Nat) < 128; omega
section SBT
variable {E : gE} {w0 w w1 : gWd} {a b m k n u y : Nat} {tx s : List Nat} {g f : Nat → Int32} {e : va_E}
theorem nar_c {c : Nat} (h : c < 128) : vp_nar .byte (nI c) = nI c := by
  rw [vp_nar_byte, fa_byte_small h]
theorem fit_upd (hb : ∀ i, i < m → (g i).toInt8.toInt32 = g i) {p c : Nat} (hc : c < 128) : ∀ i, i < m → (upd g p (nI c) i).toInt8.toInt32 = upd g p (nI c) i := by
  intro i hi
  unfold upd
  split
  · exact fa_byte_small hc
  · exact hb i hi
/-- a letter is appended -/
theorem SB.chr {c : Nat} (hc : c < 128) (hF : FT E w0 w) (h : SB E w w0.1.2.1 a m tx) (hk : tx.length + 1 ≤ 900) (hR : RM E w (y + 301)) : TR E w0 a (tx ++ [c]) 301 w (J4_append_cf468_f E a (nI c) w.1) := by
  obtain ⟨w1, m1, e1, K1, F1, h1, hk1, -⟩ := h.ens (k := tx.length + 1) hF hk hR
  obtain ⟨ha, va, g, z, hva, hne, hO, hA, hl, hm, hb, hg⟩ := id h1
  obtain ⟨e2, O2, -⟩ := hO.put (E := E) 3 (.int (nI (tx.length + 1))) (by show 3 < 4; omega) (J := fun _ => True) trivial
  have A2 : ArB E (wUp w1 a (.inr (11, [Value.ref va, .int 0, .int z, .int (nI tx.length)].set 3 (.int (nI (tx.length + 1)))))) tL va m1 g := arB_up hA hne
  obtain ⟨e3, A3, -⟩ := A2.st (i := tx.length) hk1 (by omega) (nI c) (J := fun _ => True) trivial
  have F2 : FT E w0 (wUp w1 a (.inr (11, [Value.ref va, .int 0, .int z, .int (nI tx.length)].set 3 (.int (nI (tx.length + 1)))))) := ft_up F1 ha _
  rw [nar_c hc] at e3 A3
  have hgi : gi2b (nI c) = nI c := fa_byte_small hc
  refine ⟨wUp (wUp w1 a (.inr (11, [Value.ref va, .int 0, .int z, .int (nI tx.length)].set 3 (.int (nI (tx.length + 1)))))) va (.inl (gcy E 1, m1, .inl (upd g tx.length (nI c)))), m1, ?_, fun y hy => K1 y hy, ft_up F2 hva _, ha, va, _, z, hva, hne, ?_, A3, by rw [List.length_append]; exact hk1, hm, fit_upd hb hc, fun i hi => ?_⟩
  · have happ : J5_append_3fe6f_f E a (nI c) w.1 = some (a, (wUp (wUp w1 a (.inr (11, [Value.ref va, .int 0, .int z, .int (nI tx.length)].set 3 (.int (nI (tx.length + 1)))))) va (.inl (gcy E 1, m1, .inl (upd g tx.length (nI c))))).1) := by
      unfold J5_append_3fe6f_f J5_append_3fe6f
      rw [ob_e h.cnt, ob_e h.cl, ← nI_succ, ob_e e1, ob_e h1.cl, ob_e h1.lat, if_neg (by decide)]
      have hce : J1_canEncode_fc78d_f E w1.1 (nI c) = some 1 := by
        unfold J1_canEncode_fc78d_f J1_canEncode_fc78d
        rw [if_neg (show ¬ (255 : Int32) < nI c from (show ¬ nI 255 < nI c from nI_nlt (by omega) (by decide)))]
      rw [ob_e hce, if_neg (by decide), ob_e (gfR_o hO.2.2 rfl), ob_e (gfI_o hO.2.2 rfl), ← nI_succ, ob_e e2, hgi, ob_e e3]
      rfl
    unfold J4_append_cf468_f J4_append_cf468
    rw [ob_e h.cl, ob_e happ]
  · rw [List.length_append]
    exact ob_up O2 (Ne.symm hne)
  · rw [List.length_append] at hi
    have hi2 : i < tx.length + 1 := hi
    by_cases h1 : i < tx.length
    · rw [pk_un (by omega), ap_lo h1]
      exact hg i h1
    · obtain rfl : i = tx.length := by omega
      rw [pk_us, ap_hi (Nat.le_refl _), Nat.sub_self]
      rfl
theorem neg_neg_nI (n : Nat) : -(-nI n) = nI n := Int32.neg_neg
theorem gc_in {va l5 : Nat} {l6 : Int32} (hO : gOK E) (hn : n < 10) (hA : ArB E w tL va m g) (hp : l5 < m) (hm : m ≤ 2000) {q : Nat} (hq : 0 < q) :
    J6_getChars_ba4f3_22 E q (-nI n) va (nI (l5 + 1)) l6 w.1 = J6_getChars_ba4f3_104 E va (nI l5) l6 (wUp w va (.inl (gcy E 1, m, .inl (upd g l5 (nI (48 + n)))))).1 := by
  obtain ⟨q, rfl⟩ : ∃ r, q = r + 1 := ⟨q - 1, by omega⟩
  obtain ⟨-, -, -, d1, dg, d2, d3⟩ := id hO
  have hng := sb_negT (w := n) (by omega)
  have hld := ro_ld (E := E) (σ := w.1) d1 d2 (i := n) (by omega) (by omega)
  rw [d3 n hn] at hld
  obtain ⟨e3, A3, -⟩ := hA.st (i := l5) hp (by omega) (nI (48 + n)) (J := fun _ => True) trivial
  rw [nar_c (by omega)] at e3
  show J6_getChars_ba4f3_22_s E (J6_getChars_ba4f3_22 E q) (-nI n) va (nI (l5 + 1)) l6 w.1 = _
  unfold J6_getChars_ba4f3_22_s
  rw [if_pos (by rw [fa_lt, hng]; show (-100 : Int) < -(n : Int); omega), neg_neg_nI, ob_e hld, nI_dec, ob_e e3, if_pos (by rw [fa_le, hng]; show (-9 : Int) ≤ -(n : Int); omega)]
theorem gc_pos {va p : Nat} (hO : gOK E) (hn : n < 10) (hA : ArB E w tL va m g) (hp : p < m) (hm : m ≤ 2000) :
    J6_getChars_ba4f3_f E (nI n) (nI (p + 1)) va w.1 = some (nI p, (wUp w va (.inl (gcy E 1, m, .inl (upd g p (nI (48 + n)))))).1) := by
  have hN := hO.1
  unfold J6_getChars_ba4f3_f J6_getChars_ba4f3
  rw [if_pos (nI_pos' (by omega))]
  unfold J6_getChars_ba4f3_12
  rw [if_pos rfl, gc_in hO hn hA hp hm (by omega)]
  unfold J6_getChars_ba4f3_104
  rw [if_pos rfl]
  rfl
theorem gc_neg {va p : Nat} (hO : gOK E) (h0 : 0 < n) (hn : n < 10) (hA : ArB E w tL va m g) (hp : p + 1 < m) (hm : m ≤ 2000) :
    J6_getChars_ba4f3_f E (-nI n) (nI (p + 2)) va w.1 = some (nI p, (wUp (wUp w va (.inl (gcy E 1, m, .inl (upd g (p + 1) (nI (48 + n)))))) va (.inl (gcy E 1, m, .inl (upd (upd g (p + 1) (nI (48 + n))) p (nI 45))))).1) := by
  have hN := hO.1
  have hng := sb_negT (w := n) (by omega)
  have A1 : ArB E (wUp w va (.inl (gcy E 1, m, .inl (upd g (p + 1) (nI (48 + n)))))) tL va m (upd g (p + 1) (nI (48 + n))) := ⟨hA.1, hA.2.1, hA.2.2.1, wUp_at⟩
  obtain ⟨e3, A3, -⟩ := A1.st (i := p) (by omega) (by omega) (nI 45) (J := fun _ => True) trivial
  rw [nar_c (by omega)] at e3
  unfold J6_getChars_ba4f3_f J6_getChars_ba4f3
  rw [if_neg (by rw [fa_le, hng]; show ¬ (0 : Int) ≤ -(n : Int); omega)]
  unfold J6_getChars_ba4f3_12
  rw [if_neg (by decide), gc_in (l5 := p + 1) hO hn hA hp hm (by omega)]
  unfold J6_getChars_ba4f3_104
  rw [if_neg (by decide), nI_dec]
  show ob (gwaB E (wUp w va (.inl (gcy E 1, m, .inl (upd g (p + 1) (nI (48 + n)))))).1 va (nI p) (nI 45)) _ = _
  rw [ob_e e3]
  rfl
theorem ss_pos {σ : gS} (hN : 100000 ≤ gN E) (hn : n < 10) : J6_stringSize_0f7a4_f E σ (nI n) = some (nI 1) := by
  obtain ⟨q, hq⟩ : ∃ r, gN E = r + 1 := ⟨gN E - 1, by omega⟩
  have hng := sb_negT (w := n) (by omega)
  unfold J6_stringSize_0f7a4_f J6_stringSize_0f7a4 J6_stringSize_0f7a4_11
  rw [if_neg (nI_pos (by omega)), hq]
  show J6_stringSize_0f7a4_16_s E σ (J6_stringSize_0f7a4_16 E σ q) (-nI n) 0 (-10) 1 = _
  unfold J6_stringSize_0f7a4_16_s
  rw [if_neg (by decide), if_neg (by rw [fa_le, hng]; show ¬ -(n : Int) ≤ (-10 : Int); omega)]
  rfl
theorem ss_neg {σ : gS} (hN : 100000 ≤ gN E) (h0 : 0 < n) (hn : n < 10) : J6_stringSize_0f7a4_f E σ (-nI n) = some (nI 2) := by
  obtain ⟨q, hq⟩ : ∃ r, gN E = r + 1 := ⟨gN E - 1, by omega⟩
  have hng := sb_negT (w := n) (by omega)
  unfold J6_stringSize_0f7a4_f J6_stringSize_0f7a4 J6_stringSize_0f7a4_11
  rw [if_pos (by rw [fa_lt, hng]; show -(n : Int) < (0 : Int); omega), hq]
  show J6_stringSize_0f7a4_16_s E σ (J6_stringSize_0f7a4_16 E σ q) (-nI n) 1 (-10) 1 = _
  unfold J6_stringSize_0f7a4_16_s
  rw [if_neg (by decide), if_neg (by rw [fa_le, hng]; show ¬ -(n : Int) ≤ (-10 : Int); omega)]
  rfl
theorem small_pos {x : Int32} (h : 0 ≤ x.toInt) : x = nI x.toInt.natAbs := by
  have hr := fb_rng x
  apply Int32.toInt_inj.mp
  rw [nI_toInt (by omega)]
  omega
theorem small_neg {x : Int32} (h : x.toInt < 0) (h2 : -10 < x.toInt) : x = -nI x.toInt.natAbs := by
  have hr := fb_rng x
  apply Int32.toInt_inj.mp
  rw [sb_negT (by omega)]
  omega
/-- a small number is appended -/
theorem SB.num {x : Int32} (hO : gOK E) (hx1 : -10 < x.toInt) (hx2 : x.toInt < 10) (hF : FT E w0 w) (h : SB E w w0.1.2.1 a m tx) (hk : tx.length + 2 ≤ 900) (hR : RM E w (y + 301)) : TR E w0 a (tx ++ dcT x.toInt) 301 w (J4_append_bf812_f E a x w.1) := by
  have hN := hO.1
  have hlen := dcT_len x.toInt
  obtain ⟨w1, m1, e1, K1, F1, h1, hk1, -⟩ := h.ens (k := tx.length + (dcT x.toInt).length) hF (by rw [hlen]; split <;> omega) hR
  obtain ⟨ha, va, g, z, hva, hne, hO1, hA, hl, hm, hb, hg⟩ := id h1
  -- the digits lie in the array
  have key : ∃ g1 : Nat → Int32, J6_stringSize_0f7a4_f E w.1 x = some (nI (dcT x.toInt).length) ∧ (∃ p w2, J6_getChars_ba4f3_f E x (nI (tx.length + (dcT x.toInt).length)) va w1.1 = some (p, w2.1) ∧ (∀ y, RM E w1 y → RM E w2 y) ∧ FT E w0 w2 ∧ ArB E w2 tL va m1 g1 ∧ Ob w2 tL a 11 [.ref va, .int 0, .int z, .int (nI tx.length)]) ∧ (∀ i, i < m1 → (g1 i).toInt8.toInt32 = g1 i) ∧ SBg g1 (tx ++ dcT x.toInt) := by
    by_cases hx : x.toInt < 0
    · have hxe := small_neg hx hx1
      have hd : dcT x.toInt = [45, 48 + x.toInt.natAbs] := if_pos hx
      have hn : x.toInt.natAbs < 10 := by omega
      have h0 : 0 < x.toInt.natAbs := by omega
      rw [hd] at hk1 ⊢
      generalize x.toInt.natAbs = n at *
      subst hxe
      have hk2 : tx.length + 2 ≤ m1 := hk1
      refine ⟨_, ss_neg hN h0 hn, ⟨_, _, gc_neg hO h0 hn hA (by omega) hm, fun _ h => h, ft_up (ft_up F1 hva _) hva _, ⟨hA.1, hA.2.1, hA.2.2.1, wUp_at⟩, ob_up (ob_up hO1 (Ne.symm hne)) (Ne.symm hne)⟩, fit_upd (fit_upd hb (by omega)) (by omega), fun i hi => ?_⟩
      rw [List.length_append] at hi
      have hi2 : i < tx.length + 2 := hi
      by_cases c1 : i < tx.length
      · rw [pk_un (by omega), pk_un (by omega), ap_lo c1]
        exact hg i c1
      · by_cases c2 : i = tx.length
        · rw [c2, pk_us, ap_hi (Nat.le_refl _), Nat.sub_self]
          rfl
        · obtain rfl : i = tx.length + 1 := by omega
          rw [pk_un (by omega), pk_us, ap_hi (by omega), show tx.length + 1 - tx.length = 1 by omega]
          rfl
    · have hxe := small_pos (x := x) (by omega)
      have hd : dcT x.toInt = [48 + x.toInt.natAbs] := if_neg hx
      have hn : x.toInt.natAbs < 10 := by omega
      rw [hd] at hk1 ⊢
      generalize x.toInt.natAbs = n at *
      subst hxe
      have hk2 : tx.length + 1 ≤ m1 := hk1
      refine ⟨_, ss_pos hN hn, ⟨_, _, gc_pos hO hn hA (by omega) hm, fun _ h => h, ft_up F1 hva _, ⟨hA.1, hA.2.1, hA.2.2.1, wUp_at⟩, ob_up hO1 (Ne.symm hne)⟩, fit_upd hb (by omega), fun i hi => ?_⟩
      rw [List.length_append] at hi
      have hi2 : i < tx.length + 1 := hi
      by_cases c1 : i < tx.length
      · rw [pk_un (by omega), ap_lo c1]
        exact hg i c1
      · obtain rfl : i = tx.length := by omega
        rw [pk_us, ap_hi (Nat.le_refl _), Nat.sub_self]
        rfl
  obtain ⟨g1, k1, ⟨p, w2, k2, K2, F2, A2, O2⟩, k3, k4⟩ := key
  obtain ⟨e3, O3, -⟩ := O2.put (E := E) 3 (.int (nI (tx.length + (dcT x.toInt).length))) (by show 3 < 4; omega) (J := fun _ => True) trivial
  refine ⟨wUp w2 a (.inr (11, [Value.ref va, .int 0, .int z, .int (nI tx.length)].set 3 (.int (nI (tx.length + (dcT x.toInt).length))))), m1, ?_, fun y hy => K2 y (K1 y hy), ft_up F2 ha _, ha, va, g1, z, hva, hne, by rw [List.length_append]; exact O3, arB_up A2 hne, by rw [List.length_append]; exact hk1, hm, k3, k4⟩
  have happ : J5_append_c97b9_f E a x w.1 = some (a, (wUp w2 a (.inr (11, [Value.ref va, .int 0, .int z, .int (nI tx.length)].set 3 (.int (nI (tx.length + (dcT x.toInt).length)))))).1) := by
    unfold J5_append_c97b9_f J5_append_c97b9
    rw [ob_e h.cnt, ob_e k1, ob_e h.cl, nI_add, ob_e e1, ob_e h1.cl, ob_e h1.lat, if_neg (by decide), ob_e (gfR_o hO1.2.2 rfl), ob_e k2]
    show J5_append_c97b9_48 E a _ w2.1 = _
    unfold J5_append_c97b9_48
    rw [ob_e e3]
  unfold J4_append_bf812_f J4_append_bf812
  rw [ob_e h.cl, ob_e happ]
end SBT
