/-! the law: builders made, strings -/
def ST (E : gE) (w : gWd) (lo sa : Nat) (tx : List Nat) : Prop := lo ≤ sa ∧ ∃ (q : Nat) (g : Nat → Int32), lo ≤ q ∧ Ob w tL sa 12 [.ref q, .int 0, .int 0, .int 0] ∧ ArB E w tL q tx.length g ∧ tx.length ≤ 900 ∧ SBg g tx
section SBU
variable {E : gE} {w0 w w1 : gWd} {a b m k n u y : Nat} {tx s : List Nat} {g f : Nat → Int32} {e : va_E}
theorem fp_obj {ci : Nat} {fs : List Value} (h : RM E w (y + 1)) (hw : 0 < w.1.2.1) (hn : fs.length = 4) : gnew E w.1 ci fs = some (w.1.2.1, (wNew w tL (.inr (ci, fs)) 4 w.2.2).1) ∧ Ob (wNew w tL (.inr (ci, fs)) 4 w.2.2) tL w.1.2.1 ci fs := by
  obtain ⟨b1, b2, b3, b4⟩ := fp_room (n := 4) (u := 1) (v := y) h (by omega) (by omega) hw
  refine ⟨?_, va_up_self _ _ _, Nat.lt_succ_self _, up_same⟩
  unfold gnew
  rw [hn, if_pos ⟨by omega, by omega⟩]
  rfl
/-- a builder without text -/
theorem sb_new (hR : RM E w (y + 4)) (hw : 0 < w.1.2.1) : ∃ (w1 w' : gWd), gnew E w.1 11 [.null, .int 0, .int 0, .int 0] = some (w.1.2.1, w1.1) ∧ J4_init_da8c8_f E w.1.2.1 w1.1 = some w'.1 ∧ (∀ y, RM E w (y + 4) → RM E w' y) ∧ FT E w w' ∧ SB E w' w.1.2.1 w.1.2.1 16 [] := by
  obtain ⟨e1, O1⟩ := fp_obj (ci := 11) (fs := [.null, .int 0, .int 0, .int 0]) (y := y + 3) hR hw rfl
  obtain ⟨F1, K1⟩ := fp_new (E := E) (P := fun _ => False) (n := 4) (u := 1) hw (.inr (11, [.null, .int 0, .int 0, .int 0])) (by omega) (by omega)
  have hw1 : 0 < (wNew w tL (.inr (11, [.null, .int 0, .int 0, .int 0])) 4 w.2.2).1.2.1 := Nat.succ_pos _
  have hs1 : (wNew w tL (.inr (11, [.null, .int 0, .int 0, .int 0])) 4 w.2.2).1.2.1 = w.1.2.1 + 1 := rfl
  refine ⟨wNew w tL (.inr (11, [.null, .int 0, .int 0, .int 0])) 4 w.2.2, ?_⟩
  generalize wNew w tL (.inr (11, [.null, .int 0, .int 0, .int 0])) 4 w.2.2 = w1 at e1 O1 F1 K1 hw1 hs1
  have hR1 := K1.2 (y + 3) hR
  obtain ⟨e2, A2⟩ := fp_naB (n := 16) (u := 3) (y := y) hR1 (by omega) (by omega) hw1 (by omega)
  obtain ⟨F2, K2⟩ := fp_new (E := E) (P := fun _ => False) (n := 16) (u := 3) hw1 (.inl (gcy E 1, 16, .inl fun _ => 0)) (by omega) (by omega)
  generalize wNew w1 tL (.inl (gcy E 1, 16, .inl fun _ => 0)) 16 w1.2.2 = w2 at e2 A2 F2 K2
  have O2 := O1.fr F2 (fun z => z)
  obtain ⟨e3, O3, -⟩ := O2.put (E := E) 0 (.ref w1.1.2.1) (by show 0 < 4; omega) (J := fun _ => True) trivial
  obtain ⟨e4, O4, -⟩ := O3.put (E := E) 1 (.int 0) (by show 1 < 4; omega) (J := fun _ => True) trivial
  refine ⟨wUp (wUp w2 w.1.2.1 (.inr (11, [Value.null, .int 0, .int 0, .int 0].set 0 (.ref w1.1.2.1)))) w.1.2.1 (.inr (11, ([Value.null, .int 0, .int 0, .int 0].set 0 (.ref w1.1.2.1)).set 1 (.int 0))), e1, ?_, fun y hy => K2.2 y (K1.2 (y + 3) hy), ft_up (ft_up (F1.trans F2) (Nat.le_refl _) _) (Nat.le_refl _) _, Nat.le_refl _, w1.1.2.1, fun _ => 0, 0, by omega, by omega, O4, arB_up (arB_up A2 (by omega)) (by omega), by show (0 : Nat) ≤ 16; omega, by omega, fun _ _ => by0, fun i hi => absurd hi (Nat.not_lt_zero _)⟩
  unfold J4_init_da8c8_f J4_init_da8c8
  have hin : J5_init_d00df_f E w.1.2.1 (16 : Int32) w1.1 = some (wUp (wUp w2 w.1.2.1 (.inr (11, [Value.null, .int 0, .int 0, .int 0].set 0 (.ref w1.1.2.1)))) w.1.2.1 (.inr (11, ([Value.null, .int 0, .int 0, .int 0].set 0 (.ref w1.1.2.1)).set 1 (.int 0)))).1 := by
    unfold J5_init_d00df_f J5_init_d00df
    rw [if_neg (by decide), ob_e (show gnaB E w1.1 (16 : Int32) = _ from e2)]
    show ob (gpf E w2.1 w.1.2.1 11 0 (.ref w1.1.2.1)) _ = _
    rw [ob_e e3, ob_e e4]
  rw [ob_e hin]
/-- a builder that begins with a constant -/
theorem sb_newS {sa : Nat} (hS : sOf E sa s) (hR : RM E w (y + 351)) (hw : 0 < w.1.2.1) : ∃ (w1 w' : gWd) (m : Nat), gnew E w.1 11 [.null, .int 0, .int 0, .int 0] = some (w.1.2.1, w1.1) ∧ J4_init_a7421_f E w.1.2.1 sa w1.1 = some w'.1 ∧ (∀ y, RM E w (y + 351) → RM E w' y) ∧ FT E w w' ∧ SB E w' w.1.2.1 w.1.2.1 m s := by
  obtain ⟨-, -, -, -, -, -, hl100, -⟩ := id hS
  obtain ⟨e1, O1⟩ := fp_obj (ci := 11) (fs := [.null, .int 0, .int 0, .int 0]) (y := y + 350) hR hw rfl
  obtain ⟨F1, K1⟩ := fp_new (E := E) (P := fun _ => False) (n := 4) (u := 1) hw (.inr (11, [.null, .int 0, .int 0, .int 0])) (by omega) (by omega)
  have hw1 : 0 < (wNew w tL (.inr (11, [.null, .int 0, .int 0, .int 0])) 4 w.2.2).1.2.1 := Nat.succ_pos _
  have hs1 : (wNew w tL (.inr (11, [.null, .int 0, .int 0, .int 0])) 4 w.2.2).1.2.1 = w.1.2.1 + 1 := rfl
  refine ⟨wNew w tL (.inr (11, [.null, .int 0, .int 0, .int 0])) 4 w.2.2, ?_⟩
  generalize wNew w tL (.inr (11, [.null, .int 0, .int 0, .int 0])) 4 w.2.2 = w1 at e1 O1 F1 K1 hw1 hs1
  have hR1 := K1.2 (y + 350) hR
  obtain ⟨e2, O2, -⟩ := O1.put (E := E) 1 (.int 0) (by show 1 < 4; omega) (J := fun _ => True) trivial
  have F2 : FT E w (wUp w1 w.1.2.1 (.inr (11, [Value.null, .int 0, .int 0, .int 0].set 1 (.int 0)))) := ft_up F1 (Nat.le_refl _) _
  have hs2 : (wUp w1 w.1.2.1 (.inr (11, [Value.null, .int 0, .int 0, .int 0].set 1 (.int 0)))).1.2.1 = w.1.2.1 + 1 := hs1
  have hR2 : RM E (wUp w1 w.1.2.1 (.inr (11, [Value.null, .int 0, .int 0, .int 0].set 1 (.int 0)))) (y + 350) := hR1
  have K2 : ∀ y, RM E w1 y → RM E (wUp w1 w.1.2.1 (.inr (11, [Value.null, .int 0, .int 0, .int 0].set 1 (.int 0)))) y := fun _ h => h
  generalize wUp w1 w.1.2.1 (.inr (11, [Value.null, .int 0, .int 0, .int 0].set 1 (.int 0))) = w2 at e2 O2 F2 hs2 hR2 K2
  have hw2 : 0 < w2.1.2.1 := by omega
  obtain ⟨e3, A3⟩ := fp_naB (n := s.length + 16) (u := 49) (y := y + 301) hR2 (by omega) (by omega) hw2 (by omega)
  obtain ⟨F3, K3⟩ := fp_new (E := E) (P := fun _ => False) (n := s.length + 16) (u := 49) hw2 (.inl (gcy E 1, s.length + 16, .inl fun _ => 0)) (by omega) (by omega)
  generalize wNew w2 tL (.inl (gcy E 1, s.length + 16, .inl fun _ => 0)) (s.length + 16) w2.2.2 = w3 at e3 A3 F3 K3
  have hR3 := K3.2 (y + 301) hR2
  have O3 := O2.fr F3 (fun z => z)
  obtain ⟨e4, O4, -⟩ := O3.put (E := E) 0 (.ref w2.1.2.1) (by show 0 < 4; omega) (J := fun _ => True) trivial
  have F4 : FT E w (wUp w3 w.1.2.1 (.inr (11, ([Value.null, .int 0, .int 0, .int 0].set 1 (.int 0)).set 0 (.ref w2.1.2.1)))) := ft_up (F2.trans F3) (Nat.le_refl _) _
  have S4 : SB E (wUp w3 w.1.2.1 (.inr (11, ([Value.null, .int 0, .int 0, .int 0].set 1 (.int 0)).set 0 (.ref w2.1.2.1)))) w.1.2.1 w.1.2.1 (s.length + 16) [] :=
    ⟨Nat.le_refl _, w2.1.2.1, fun _ => 0, 0, by omega, by omega, O4, arB_up A3 (by omega), Nat.zero_le _, by omega, fun _ _ => by0, fun i hi => absurd hi (Nat.not_lt_zero _)⟩
  obtain ⟨w5, m5, e5, K5, F5, S5⟩ := S4.strB hS F4 (by show 0 + s.length ≤ 900; omega) hR3
  refine ⟨w5, m5, e1, ?_, fun y hy => K5 y (K3.2 (y + 301) (K2 _ (K1.2 (y + 350) hy))), F5, S5⟩
  have h24 : J5_init_a7421_24 E w.1.2.1 sa (nI s.length + 16) w1.1 = some w5.1 := by
    unfold J5_init_a7421_24
    rw [ob_e hS.cl, ob_e hS.coder]
    show ob (gby (0 : Int32)) _ = _
    rw [ob_e (show gby (0 : Int32) = some () from rfl), ob_e e2, if_pos rfl, show nI s.length + 16 = nI (s.length + 16) from nI_add s.length 16, ob_e e3]
    unfold J5_init_a7421_53
    show ob (gpf E w3.1 w.1.2.1 11 0 (.ref w2.1.2.1)) _ = _
    rw [ob_e e4, ob_e S4.cl]
    have hb : J4_append_cf1ce_f E w.1.2.1 sa (wUp w3 w.1.2.1 (.inr (11, ([Value.null, .int 0, .int 0, .int 0].set 1 (.int 0)).set 0 (.ref w2.1.2.1)))).1 = some (w.1.2.1, w5.1) := by
      unfold J4_append_cf1ce_f J4_append_cf1ce
      rw [ob_e S4.cl, ob_e e5]
    rw [ob_e hb]
  unfold J4_init_a7421_f J4_init_a7421
  have hin : J5_init_a7421_f E w.1.2.1 sa w1.1 = some w5.1 := by
    unfold J5_init_a7421_f J5_init_a7421
    rw [ob_e hS.cl, ob_e hS.length, if_neg (show ¬ (2147483631 : Int32) ≤ nI s.length from (show ¬ nI 2147483631 ≤ nI s.length from nI_ge (by omega) (by decide)))]
    exact h24
  rw [ob_e hin]
/-- the string of a builder -/
theorem SB.toS (hF : FT E w0 w) (h : SB E w w0.1.2.1 a m tx) (hk : tx.length ≤ 900) (hR : RM E w (y + 340)) : ∃ w' sa, J4_toString_0e30d_f E a w.1 = some (sa, w'.1) ∧ (∀ y, RM E w (y + 340) → RM E w' y) ∧ FT E w0 w' ∧ ST E w' w0.1.2.1 sa tx := by
  obtain ⟨ha, va, g, z, hva, hne, hO, hA, hl, hm, hb, hg⟩ := id h
  have hw : 0 < w.1.2.1 := Nat.lt_of_le_of_lt (Nat.zero_le _) hO.2.1
  obtain ⟨e1, O1⟩ := fp_obj (ci := 12) (fs := [.null, .int 0, .int 0, .int 0]) (y := y + 339) hR hw rfl
  obtain ⟨F1, K1⟩ := fp_new (E := E) (P := fun _ => False) (n := 4) (u := 1) hw (.inr (12, [.null, .int 0, .int 0, .int 0])) (by omega) (by omega)
  have hw1 : 0 < (wNew w tL (.inr (12, [.null, .int 0, .int 0, .int 0])) 4 w.2.2).1.2.1 := Nat.succ_pos _
  have hs1 : (wNew w tL (.inr (12, [.null, .int 0, .int 0, .int 0])) 4 w.2.2).1.2.1 = w.1.2.1 + 1 := rfl
  generalize wNew w tL (.inr (12, [.null, .int 0, .int 0, .int 0])) 4 w.2.2 = w1 at e1 O1 F1 K1 hw1 hs1
  have hR1 := K1.2 (y + 339) hR
  have B1 := hO.fr F1 (fun z => z)
  have A1 : ArB E w1 tL va m g := ArB.fr (E := E0 E) hA F1 (fun z => z)
  have hva1 : va < w.1.2.1 := hA.2.1
  have hax1 : a < w.1.2.1 := hO.2.1
  obtain ⟨e2, O2, -⟩ := O1.put (E := E) 1 (.int 0) (by show 1 < 4; omega) (J := fun _ => True) trivial
  have B2 : Ob (wUp w1 w.1.2.1 (.inr (12, [Value.null, .int 0, .int 0, .int 0].set 1 (.int 0)))) tL a 11 [.ref va, .int 0, .int z, .int (nI tx.length)] := ob_up B1 (by omega)
  have A2 : ArB E (wUp w1 w.1.2.1 (.inr (12, [Value.null, .int 0, .int 0, .int 0].set 1 (.int 0)))) tL va m g := arB_up A1 (by omega)
  have F2 : FT E w (wUp w1 w.1.2.1 (.inr (12, [Value.null, .int 0, .int 0, .int 0].set 1 (.int 0)))) := ft_up F1 (Nat.le_refl _) _
  have hs2 : (wUp w1 w.1.2.1 (.inr (12, [Value.null, .int 0, .int 0, .int 0].set 1 (.int 0)))).1.2.1 = w.1.2.1 + 1 := hs1
  have hR2 : RM E (wUp w1 w.1.2.1 (.inr (12, [Value.null, .int 0, .int 0, .int 0].set 1 (.int 0)))) (y + 339) := hR1
  have K2 : ∀ y, RM E w1 y → RM E (wUp w1 w.1.2.1 (.inr (12, [Value.null, .int 0, .int 0, .int 0].set 1 (.int 0)))) y := fun _ h => h
  generalize wUp w1 w.1.2.1 (.inr (12, [Value.null, .int 0, .int 0, .int 0].set 1 (.int 0))) = w2 at e2 O2 B2 A2 F2 hs2 hR2 K2
  have hw2 : 0 < w2.1.2.1 := by omega
  -- the bytes are copied
  have key : ∃ w3 g3, J7_copyOfRange_39247_f E va (0 : Int32) (nI tx.length) w2.1 = some (w2.1.2.1, w3.1) ∧ (∀ y, RM E w2 (y + 339) → RM E w3 y) ∧ FT E w2 w3 ∧ ArB E w3 tL w2.1.2.1 tx.length g3 ∧ SBg g3 tx := by
    by_cases hnm : tx.length = m
    · have hcl : gclB E w2.1 va = some (w2.1.2.1, (wNew w2 tL (.inl (gcy E 1, m, .inl g)) m w2.2.2).1) := by
        obtain ⟨b1, b2, b3, b4⟩ := fp_room (n := m) (u := 339) (v := y) hR2 (by omega) (by omega) hw2
        unfold gclB
        rw [A2.2.2.2]
        simp only [true_and]
        rw [if_pos ⟨hb, by omega, by omega⟩]
        rfl
      obtain ⟨F3, K3⟩ := fp_new (E := E) (P := fun _ => False) (n := m) (u := 339) hw2 (.inl (gcy E 1, m, .inl g)) (by omega) (by omega)
      have A3 : ArB E (wNew w2 tL (.inl (gcy E 1, m, .inl g)) m w2.2.2) tL w2.1.2.1 m g := ⟨va_up_self _ _ _, Nat.lt_succ_self _, hR2.2.2 _ (Nat.le_refl _), up_same⟩
      refine ⟨_, g, ?_, fun y hy => K3.2 y hy, F3, by rw [hnm]; exact A3, hg⟩
      unfold J7_copyOfRange_39247_f J7_copyOfRange_39247
      rw [if_pos rfl, ob_e A2.2.2.len, if_pos (by rw [hnm]), ob_e hcl]
      have hca : gcaB E (wNew w2 tL (.inl (gcy E 1, m, .inl g)) m w2.2.2).1 w2.1.2.1 = some () := by
        unfold gcaB
        rw [A3.2.2.2]
        simp only [if_true]
      show ob (gcaB E (wNew w2 tL (.inl (gcy E 1, m, .inl g)) m w2.2.2).1 w2.1.2.1) _ = _
      rw [ob_e hca]
    · obtain ⟨e3, A3⟩ := fp_naB (n := tx.length) (u := 339) (y := y) hR2 (by omega) (by omega) hw2 (by omega)
      obtain ⟨F3, K3⟩ := fp_new (E := E) (P := fun _ => False) (n := tx.length) (u := 339) hw2 (.inl (gcy E 1, tx.length, .inl fun _ => 0)) (by omega) (by omega)
      have B3 : ArB E (wNew w2 tL (.inl (gcy E 1, tx.length, .inl fun _ => 0)) tx.length w2.2.2) tL va m g := ArB.fr (E := E0 E) A2 F3 (fun z => z)
      generalize wNew w2 tL (.inl (gcy E 1, tx.length, .inl fun _ => 0)) tx.length w2.2.2 = w3 at e3 A3 F3 K3 B3
      have c1 := cpB (E := E) (w := w3) (sp := 0) (dp := 0) (n := tx.length) B3 A3 (by omega) (by omega) (by omega) (by omega) (fun i hi => by rw [Nat.zero_add]; exact hb i (by omega))
      refine ⟨wUp w3 w2.1.2.1 (.inl (gcy E 1, tx.length, .inl (va_cpy g (fun _ => 0) 0 0 tx.length))), va_cpy g (fun _ => 0) 0 0 tx.length, ?_, fun y hy => K3.2 y hy, ft_up F3 (Nat.le_refl _) _, ⟨A3.1, A3.2.1, A3.2.2.1, wUp_at⟩, fun i hi => by rw [pk_cpy_in (Nat.zero_le _) (by omega), show 0 + (i - 0) = i by omega]; exact hg i hi⟩
      have hby : J7_copyOfRangeByte_39247_f E va (0 : Int32) (nI tx.length) w2.1 = some (w2.1.2.1, (wUp w3 w2.1.2.1 (.inl (gcy E 1, tx.length, .inl (va_cpy g (fun _ => 0) 0 0 tx.length)))).1) := by
        have hck : J7_checkLength_df160_f E (0 : Int32) (nI tx.length) w2.1 = some w2.1 := by
          unfold J7_checkLength_df160_f J7_checkLength_df160
          rw [if_pos (nI_pos' (by omega))]
        unfold J7_copyOfRangeByte_39247_f J7_copyOfRangeByte_39247
        rw [ob_e hck, Int32.sub_zero, ob_e e3, ob_e B3.2.2.len, Int32.sub_zero, gmin_nI (by omega) (by omega), show min m tx.length = tx.length by omega]
        show ob (gcopyB E w3.1 va (0 : Int32) w2.1.2.1 (0 : Int32) (nI tx.length)) _ = _
        rw [ob_e (show gcopyB E w3.1 va (0 : Int32) w2.1.2.1 (0 : Int32) (nI tx.length) = _ from c1)]
      unfold J7_copyOfRange_39247_f J7_copyOfRange_39247
      rw [if_pos rfl, ob_e A2.2.2.len, if_neg (fun z => hnm ((nI_eqI (by omega) (by omega)).mp z))]
      unfold J7_copyOfRange_39247_10
      rw [ob_e hby]
  obtain ⟨w3, g3, e3, K3, F3, A3, hg3⟩ := key
  have O3 := O2.fr F3 (fun z => z)
  obtain ⟨e4, O4, -⟩ := O3.put (E := E) 0 (.ref w2.1.2.1) (by show 0 < 4; omega) (J := fun _ => True) trivial
  refine ⟨wUp w3 w.1.2.1 (.inr (12, ([Value.null, .int 0, .int 0, .int 0].set 1 (.int 0)).set 0 (.ref w2.1.2.1))), w.1.2.1, ?_, fun y hy => K3 y (K2 _ (K1.2 (y + 339) hy)), ft_up (hF.trans (F2.trans F3)) hF.1 _, ⟨hF.1, w2.1.2.1, g3, Nat.le_trans hF.1 F2.1, O4, arB_up A3 (by omega), hk, hg3⟩⟩
  have hlat : J5_isLatin1_aae02_f E w1.1 a = some 1 := by
    unfold J5_isLatin1_aae02_f J5_isLatin1_aae02
    rw [if_neg (by decide), ob_e (gfI_o B1.2.2 rfl), if_pos rfl]
  have hval : J5_getValue_6d5f1_f E w1.1 a = some va := by
    unfold J5_getValue_6d5f1_f J5_getValue_6d5f1
    rw [ob_e (gfR_o B1.2.2 rfl)]
  have hlen : J4_length_8abf5_f E w1.1 a = some (nI tx.length) := by
    unfold J4_length_8abf5_f J4_length_8abf5 J5_length_8abf5_f J5_length_8abf5
    rw [ob_e (gcl_o B1.2.2), ob_e (gfI_o B1.2.2 rfl)]
    rfl
  have hin : J0_init_db425_f E w.1.2.1 a w1.1 = some (wUp w3 w.1.2.1 (.inr (12, ([Value.null, .int 0, .int 0, .int 0].set 1 (.int 0)).set 0 (.ref w2.1.2.1)))).1 := by
    unfold J0_init_db425_f J0_init_db425
    rw [ob_e (gcl_o B1.2.2), ob_e hval, ob_e (gcl_o B1.2.2), ob_e hlen, ob_e (gcl_o B1.2.2), ob_e hlat, if_neg (by decide), ob_e e2, ob_e e3]
    show ob (gpf E w3.1 w.1.2.1 12 0 (.ref w2.1.2.1)) _ = _
    rw [ob_e e4]
  unfold J4_toString_0e30d_f J4_toString_0e30d
  rw [ob_e e1]
  show ob (J0_init_81219_f E w.1.2.1 a w1.1) _ = _
  unfold J0_init_81219_f J0_init_81219
  rw [ob_e hin]
  rfl
theorem ST.cl {lo sa : Nat} (h : ST E w lo sa tx) : gcl w.1 sa 12 = some () := by
  obtain ⟨-, q, g, -, h1, -⟩ := h
  exact gcl_o h1.2.2
theorem ST.length {lo sa : Nat} (h : ST E w lo sa tx) : J0_length_8abf5m_f E w.1 sa = some (nI tx.length) := by
  obtain ⟨-, q, g, -, h1, h2, h3, h4⟩ := h
  unfold J0_length_8abf5m_f J0_length_8abf5m J0_coder_7d493m_f J0_coder_7d493m
  rw [ob_e (gfR_o h1.2.2 rfl), ob_e h2.2.2.len, ob_e (gcl_o h1.2.2), if_neg (by decide), ob_e (gfI_o h1.2.2 rfl)]
  have e : ob (gby (0 : Int32)) (fun _ => some (0 : Int32)) = some 0 := rfl
  rw [ob_e e, shr0]
theorem ST.char {lo sa i : Nat} (h : ST E w lo sa tx) (hi : i < tx.length) (hc : tx.getD i 0 < 128) : J0_charAt_5068em_f E w.1 sa (nI i) = some (nI (tx.getD i 0)) := by
  obtain ⟨-, q, g, -, h1, h2, h3, h4⟩ := h
  obtain ⟨c1, c2⟩ := chr_ok _ hc
  have hlat : J0_isLatin1_aae02m_f E w.1 sa = some 1 := by
    unfold J0_isLatin1_aae02m_f J0_isLatin1_aae02m
    rw [if_neg (by decide), ob_e (gfI_o h1.2.2 rfl), if_pos rfl]
  have hck : J0_checkIndex_df160_f E w.1 (nI i) (nI tx.length) = some () := by
    unfold J0_checkIndex_df160_f J0_checkIndex_df160 J3_checkIndex_8e157_f J3_checkIndex_8e157
    rw [if_neg (nI_pos (by omega)), if_pos (nI_lt hi (by omega))]
    rfl
  have h9 : J1_charAt_3b067_f E w.1 q (nI i) = some (nI (tx.getD i 0)) := by
    unfold J1_charAt_3b067_f J1_charAt_3b067
    rw [ob_e h2.2.2.len, ob_e hck, ob_e (h2.2.2.ld hi (by omega)), h4 i hi]
    show ob (gch (gi2c (nI (tx.getD i 0) &&& 255))) (fun _ => some (gi2c (nI (tx.getD i 0) &&& 255))) = _
    rw [c1, ob_e c2]
  unfold J0_charAt_5068em_f J0_charAt_5068em
  rw [ob_e (gcl_o h1.2.2), ob_e hlat, if_neg (by decide), ob_e (gfR_o h1.2.2 rfl), ob_e h9, ob_e c2]
end SBU
