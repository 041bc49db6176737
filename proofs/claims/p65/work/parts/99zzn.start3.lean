/-! the start: what the Statement gives of the constants -/
def FLs (b : Nat) (s : State) : Prop := ∀ (i : Nat) (c : Cond), FL[i]? = some c → c.before #[Value.ref b] s = true
noncomputable def wk (b : Nat) (s : State) (k : Nat) : Nat := match (gtm k).eval #[Value.ref b] s none [] s with
  | some (.ref a) => a
  | _ => 0
theorem wk_of {b : Nat} {s : State} {k a : Nat} (h : (gtm k).eval #[Value.ref b] s none [] s = some (.ref a)) : (gtm k).eval #[Value.ref b] s none [] s = some (.ref (wk b s k)) := by
  have e : wk b s k = a := by simp only [wk, h]
  rw [e]
  exact h
theorem txt_lt : ∀ k, k < 4 → (txt k).length < 100 := by decide +kernel
theorem txt_c : ∀ k, k < 4 → ∀ i, i < (txt k).length → (txt k).getD i 0 < 128 := by decide +kernel
def strF (b : Nat) (s : State) (k t : Nat) : Prop := (gtm k).eval #[Value.ref b] s none [] s = some (.ref (wk b s k)) ∧ va_O "java/lang/String" (wk b s k) (stL' s) s s.heap ∧ va_OF "java/lang/String" "value" "[B" (.ref t) (wk b s k) (stL' s) s s.heap ∧ va_OF "java/lang/String" "coder" "B" (.int 0) (wk b s k) (stL' s) s s.heap ∧ s.fieldOf? (wk b s k) "java/lang/String" "value" "[B" = some (.ref t) ∧ HV s .byte t (txt k).length (fun j => .int (nI ((txt k).getD j 0)))
theorem str_fact {b : Nat} {s : State} (hF : FLs b s) (k : Nat) (hk : k < 4) : ∃ t, strF b s k t := by
  have hp : ∀ i, i < 4 + (txt k).length → (pStr k i).before #[Value.ref b] s = true := fun i hi => hF _ _ (pStr_ok k hk i hi)
  have h0 : (Cond.exactly (gtm k) "java/lang/String").before #[Value.ref b] s = true := hp 0 (by omega)
  have h1 : (Cond.eq (.field (gtm k) "java/lang/String" "coder" "B") (.int 0)).before #[Value.ref b] s = true := hp 1 (by omega)
  have h2 : (Cond.arrayOf (tVal k) .byte).before #[Value.ref b] s = true := hp 2 (by omega)
  have h3 : (Cond.eq (.length (tVal k)) (.int (Int32.ofNat (txt k).length))).before #[Value.ref b] s = true := hp 3 (by omega)
  have h4 : ∀ j, j < (txt k).length → (Cond.eq (.elem (tVal k) (.int (Int32.ofNat j))) (.int (Int32.ofNat ((txt k).getD j 0)))).before #[Value.ref b] s = true := fun j hj => hp (j + 4) (by omega)
  obtain ⟨a, -, -, -, hev, -⟩ := Cond.exactly_spec (args := #[Value.ref b]) (first := s) (o := none) (s := s) (idx := []) h0
  have he := wk_of hev
  have hlt := txt_lt k hk
  obtain ⟨t, ht, hV⟩ := HV.of (f := fun j => .int (nI ((txt k).getD j 0))) (show (txt k).length < 2 ^ 31 by omega) h2 (va_eqt h3) (fun j hj => va_eqt (h4 j hj))
  exact ⟨t, he, va_Oof h0 he (stA_no s), vk_OFof he ht (stA_no s), vk_OFof he (va_eqt h1) (stA_no s), (va_fe he).symm.trans ht, hV⟩
theorem exc_fact {b : Nat} {s : State} (hF : FLs b s) (k : Nat) (hk : k < 13) (hk2 : k ≠ 10) : (gtm (70 + k)).eval #[Value.ref b] s none [] s = some (.ref (wk b s (70 + k))) := by
  obtain ⟨a, -, -, -, hev, -⟩ := Cond.exactly_spec (args := #[Value.ref b]) (first := s) (o := none) (s := s) (idx := []) (hF _ _ (pExc_ok k hk hk2))
  exact wk_of hev
theorem RW_fact {b : Nat} {s : State} (hF : FLs b s) : (gtm 30).eval #[Value.ref b] s none [] s = some (.ref (wk b s 30)) := by
  obtain ⟨a, -, -, -, hev, -⟩ := Cond.exactly_spec (args := #[Value.ref b]) (first := s) (o := none) (s := s) (idx := []) (hF _ _ pRW_ok)
  exact wk_of hev
theorem FC_fact {b : Nat} {s : State} (hF : FLs b s) : (gtm 40).eval #[Value.ref b] s none [] s = some (.ref (wk b s 40)) ∧ HV s .int (wk b s 40) 18 (fun j => .int (firstC.getD j 0)) := by
  obtain ⟨p0, p1, p2⟩ := pFC_ok
  obtain ⟨t, ht, hV⟩ := HV.of (f := fun j => .int (firstC.getD j 0)) (show 18 < 2 ^ 31 by omega) (hF _ _ p0) (va_eqt (hF _ _ p1)) (fun j hj => va_eqt (hF _ _ (p2 j hj)))
  have e : wk b s 40 = t := by
    have ht2 : (gtm 40).eval #[Value.ref b] s none [] s = some (.ref t) := ht
    simp only [wk, ht2]
  exact ⟨wk_of (k := 40) ht, e ▸ hV⟩
theorem DO_fact {b : Nat} {s : State} (hF : FLs b s) : (gtm 43).eval #[Value.ref b] s none [] s = some (.ref (wk b s 43)) ∧ HV s .byte (wk b s 43) 100 (fun j => .int (nI (48 + j % 10))) := by
  obtain ⟨p0, p1, p2⟩ := pDO_ok
  obtain ⟨t, ht, hV⟩ := HV.of (f := fun j => .int (nI (48 + j % 10))) (show 100 < 2 ^ 31 by omega) (hF _ _ p0) (va_eqt (hF _ _ p1)) (fun j hj => va_eqt (hF _ _ (p2 j hj)))
  have e : wk b s 43 = t := by
    have ht2 : (gtm 43).eval #[Value.ref b] s none [] s = some (.ref t) := ht
    simp only [wk, ht2]
  exact ⟨wk_of (k := 43) ht, e ▸ hV⟩
theorem DT_fact {b : Nat} {s : State} (hF : FLs b s) : (gtm 44).eval #[Value.ref b] s none [] s = some (.ref (wk b s 44)) := by
  obtain ⟨p0, p1, p2⟩ := pDT_ok
  obtain ⟨t, ht, hV⟩ := HV.of (f := fun j => .int (nI (48 + j / 10))) (show 100 < 2 ^ 31 by omega) (hF _ _ p0) (va_eqt (hF _ _ p1)) (fun j hj => va_eqt (hF _ _ (p2 j hj)))
  exact wk_of (k := 44) ht
theorem SI_fact {b : Nat} {s : State} (hF : FLs b s) : ∃ o : Option Nat, tSI.eval #[Value.ref b] s none [] s = some (va_rf o) := by
  have h := hF _ _ pSI
  cases hv : tSI.eval #[Value.ref b] s none [] s with
  | none => simp [Cond.before, Cond.holds, Cond.value, hv] at h
  | some w =>
    simp only [Cond.before, Cond.holds, Cond.value, hv] at h
    cases w with
    | null => exact ⟨none, rfl⟩
    | ref t => exact ⟨some t, rfl⟩
    | _ => simp at h
