/-! pure: the reference finds an order -/
def odp (u : Nat → Nat) (L : Nat) (t : gMd) (q : Nat) : Bool := match t with
  | .inl _ => false
  | .inr s => isW u L s (txtK q)
theorem wdv_odp (u : Nat → Nat) (L q : Nat) (t : gMd) : wdv u L (txtK q) t = if odp u L t q = true then 1 else 0 := by
  cases t with
  | inl p => rfl
  | inr s => rfl
section MM
variable {E : gE} {w : gWd} {m ro L : Nat} {fi0 : Nat → Int32} {G : Nat → Nat → Int32} {u : Nat → Nat} {t : gMd}
theorem txt_k : ∀ q, q < 9 → txt (2 + q) = txtK q := by
  intro q hq
  obtain rfl | rfl | rfl | rfl | rfl | rfl | rfl | rfl | rfl : q = 0 ∨ q = 1 ∨ q = 2 ∨ q = 3 ∨ q = 4 ∨ q = 5 ∨ q = 6 ∨ q = 7 ∨ q = 8 := by omega
  all_goals rfl
theorem PQ.order (h : PQ E w m ro fi0 G u L t) (hO : gOK E) (hB : BU G u L) : X13_orderHere_f E w.1 m = some (if fa_first (odp u L t) 9 < 9 then nI (fa_first (odp u L t) 9) else -1) := by
  have hN := hO.1
  obtain ⟨fi, b1, -⟩ := id h
  obtain ⟨g, hA, hg⟩ := b1.2.2
  have hle := fa_first_le (odp u L t) 9
  have hw : ∀ q, q < 9 → X13_isWord_f E w.1 m (gst E (2 + q)) = some (if odp u L t q = true then 1 else 0) := fun q hq => by
    have hs := hO.2.1 (2 + q) (by omega)
    rw [txt_k q hq] at hs
    rw [h.word hN hB hs, wdv_odp]
  unfold X13_orderHere_f X13_orderHere
  refine lp (F := fun q (_ : Unit) k => X13_orderHere_2 E w.1 q m (nI k)) (s := fun _ => ()) (n := fa_first (odp u L t) 9) (fun q k hk => ?_) (fun q => ?_) _ 0 (gN E) (Nat.zero_add _) (by omega)
  · have e := fa_first_no (odp u L t) 9 k hk
    show X13_orderHere_2_s E w.1 (X13_orderHere_2 E w.1 q) m (nI k) = _
    unfold X13_orderHere_2_s
    rw [ob_e b1.f27, ob_e hA.2.2.len, if_neg (nI_ge (by omega) (by omega)), ob_e b1.f27, ob_e (hA.2.2.ld (show k < 9 by omega) (by decide) (hg k (by omega))), ob_e b1.cl, ob_e (hw k (by omega)), e, if_neg (by decide : ¬ false = true), if_pos rfl, nI_1]
  · show X13_orderHere_2_s E w.1 (X13_orderHere_2 E w.1 q) m (nI (fa_first (odp u L t) 9)) = _
    unfold X13_orderHere_2_s
    rw [ob_e b1.f27, ob_e hA.2.2.len]
    by_cases hf : fa_first (odp u L t) 9 < 9
    · have e := fa_first_yes (odp u L t) 9 hf
      rw [if_neg (nI_ge hf (by omega)), ob_e b1.f27, ob_e (hA.2.2.ld hf (by decide) (hg _ hf)), ob_e b1.cl, ob_e (hw _ hf), e, if_pos rfl, if_neg i10, if_pos hf]
    · rw [if_pos (nI_le (by omega) (by omega)), if_neg hf]
end MM
