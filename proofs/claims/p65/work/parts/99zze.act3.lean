/-! the law: an act -/
def qs (A B : gQ) : Prop := A.1 = B.1 ∧ A.2.1 = B.2.1 ∧ A.2.2.1 = B.2.2.1 ∧ A.2.2.2.1 = B.2.2.2.1
def AC (E : gE) (l : Nat) (ad : Nat → Nat) (b : Nat) (Q : gQ) (o : Option gT) (w : gWd) (res : Option (Int32 × gS)) : Prop :=
  ∃ w' Q' g', res = some (1, w'.1) ∧ KP E (fun a => a = b) 3500 w w' ∧ RK E w' l ad Q' ∧ ArI E w' tL b 6 g' ∧ (∀ j, j < 6 → g' j = 0) ∧ qs Q' (nxt Q o) ∧ qN Q' = 0 ∧ GQ Q'
theorem rwS_len {x : Nat → Int32} : ∀ k i, (rwS x k i).length ≤ 3 * k
  | 0, _ => Nat.le_refl _
  | k + 1, i => by
    have h1 := rwS_len (x := x) k (i + 1)
    have h2 := dcT_len (x i).toInt
    have h3 : (if i = 0 then ([] : List Nat) else [32]).length ≤ 1 := by
      by_cases z : i = 0
      · rw [if_pos z]; exact Nat.zero_le _
      · rw [if_neg z]; exact Nat.le_refl _
    have h4 : (if (x i).toInt < 0 then 2 else 1) ≤ 2 := by split <;> omega
    show (_ ++ _ ++ _ : List Nat).length ≤ _
    rw [List.length_append, List.length_append, h2]
    omega
theorem lt128_nil : lt128 [] := fun i => by
  rw [getD_out (Nat.zero_le _)]
  omega
theorem lt128_sep (i : Nat) : lt128 (if i = 0 then ([] : List Nat) else [32]) := by
  by_cases z : i = 0
  · rw [if_pos z]; exact lt128_nil
  · rw [if_neg z]; exact lt128_1 (by omega)
theorem rwS_lt {x : Nat → Int32} (hx : ∀ i, smI (x i)) : ∀ k i, lt128 (rwS x k i)
  | 0, _ => lt128_nil
  | k + 1, i => lt128_ap (lt128_ap (lt128_sep i) (fun j => dcT_lt (hx i).1 (hx i).2 j)) (rwS_lt hx k (i + 1))
theorem GQ.inp {Q : gQ} (hG : GQ Q) {n : Nat} {u : Nat → Nat} (hn : n ≤ 700) : GQ (qI Q n u) := by
  obtain ⟨g1, g2, g3, g4, g5, g6, g7, g8, g9⟩ := hG
  exact ⟨g1, g2, g3, g4, g5, g6, g7, hn, g9⟩
theorem GQ.err {Q : gQ} (hG : GQ Q) {e : Int32 × Int32} : GQ (qErr Q e) := by
  obtain ⟨g1, g2, g3, g4, g5, g6, g7, g8, g9⟩ := hG
  exact ⟨g1, g2, g3, g4, g5, g6, g7, g8, g9⟩
section AC3
variable {E : gE} {l b a : Nat} {ad : Nat → Nat} {Q : gQ} {w0 w : gWd} {l4 : Int32} {C R y : Nat}
theorem ar_one (hO : gOK E) {i sa mm : Nat} {tx s : List Nat} {r : Nat → Nat → Int32 → Int32 → Int32 → Nat → Int32 → gS → Option (Int32 × gS)} (hS : sOf E sa s) (hF : FT E w0 w) (hB : SB E w w0.1.2.1 a mm tx) (hR : RM E w (y + 602)) (hl : tx.length + s.length + 2 ≤ 900) :
    ∃ w' mm', L_act_136 E r l b l4 (nI C) (nI R) a (nI i) sa a w.1 = r l b l4 (nI C) (nI R) a (nI (i + 1)) w'.1 ∧ FT E w0 w' ∧ SB E w' w0.1.2.1 a mm' (tx ++ s ++ dcT (aR l4 i).toInt) ∧ ∀ y, RM E w (y + 602) → RM E w' y := by
  obtain ⟨w1, m1, e1, K1, F1, B1⟩ := hB.strB hS hF (by omega) (show RM E w (y + 301 + 301) from hR)
  have hR1 := K1 (y + 301) hR
  obtain ⟨w2, m2, e2, K2, F2, B2⟩ := B1.num hO (aR_sm l4 i).1 (aR_sm l4 i).2 F1 (by rw [List.length_append]; omega) hR1
  refine ⟨w2, m2, ?_, F2, B2, fun y hy => K2 y (K1 (y + 301) hy)⟩
  unfold L_act_136
  rw [ob_e hB.cl, ob_e e1]
  show ob (L_most_f E w1.1 ((l4 >>> (nI i &&& 31)) + ((5 : Int32) * nI i)) (7 : Int32)) _ = _
  rw [ob_e (show L_most_f E w1.1 ((l4 >>> (nI i &&& 31)) + ((5 : Int32) * nI i)) (7 : Int32) = _ from K_most _ (n := 7) (by omega) (by omega))]
  show ob (gcl w1.1 a 11) _ = _
  rw [ob_e B1.cl]
  show ob (J4_append_bf812_f E a (aR l4 i) w1.1) _ = _
  rw [ob_e e2, nI_succ]
theorem ar_go (hO : gOK E) (hC : C ≤ 6) : ∀ (n i m : Nat) (w : gWd) (tx : List Nat) (mm : Nat), i + n = C → n < m → FT E w0 w → SB E w w0.1.2.1 a mm tx → RM E w (y + 602 * n) → tx.length + 3 * n ≤ 900 →
    ∃ w' mm' m', L_act_115 E m l b l4 (nI C) (nI R) a (nI i) w.1 = L_act_115_s E (L_act_115 E m') l b l4 (nI C) (nI R) a (nI C) w'.1 ∧ FT E w0 w' ∧ SB E w' w0.1.2.1 a mm' (tx ++ rwS (aR l4) n i) ∧ ∀ y, RM E w (y + 602 * n) → RM E w' y := by
  intro n
  induction n with
  | zero =>
    intro i m w tx mm hi hm hF hB hR hl
    obtain ⟨m, rfl⟩ : ∃ q, m = q + 1 := ⟨m - 1, by omega⟩
    refine ⟨w, mm, m, ?_, hF, ?_, fun y hy => hy⟩
    · rw [show i = C by omega]
      rfl
    · show SB E w w0.1.2.1 a mm (tx ++ [])
      rw [List.append_nil]
      exact hB
  | succ n ih =>
    intro i m w tx mm hi hm hF hB hR hl
    obtain ⟨m, rfl⟩ : ∃ q, m = q + 1 := ⟨m - 1, by omega⟩
    have hsl : (if i = 0 then ([] : List Nat) else [32]).length ≤ 1 := by
      by_cases z : i = 0
      · rw [if_pos z]; exact Nat.zero_le _
      · rw [if_neg z]; exact Nat.le_refl _
    have key : ∃ sa, sOf E sa (if i = 0 then ([] : List Nat) else [32]) ∧ L_act_115 E (m + 1) l b l4 (nI C) (nI R) a (nI i) w.1 = L_act_136 E (L_act_115 E m) l b l4 (nI C) (nI R) a (nI i) sa a w.1 := by
      by_cases z : i = 0
      · refine ⟨gst E 2, by rw [if_pos z]; exact hO.2.1 2 (by omega), ?_⟩
        show L_act_115_s E (L_act_115 E m) l b l4 (nI C) (nI R) a (nI i) w.1 = _
        unfold L_act_115_s
        rw [if_neg (nI_ge (by omega) (by omega)), if_pos (show nI i ≤ (0 : Int32) from (le_lit (a := i) (k := 0) (by omega) (by omega)).mpr (by omega))]
      · refine ⟨gst E 1, by rw [if_neg z]; exact hO.2.1 1 (by omega), ?_⟩
        show L_act_115_s E (L_act_115 E m) l b l4 (nI C) (nI R) a (nI i) w.1 = _
        unfold L_act_115_s
        rw [if_neg (nI_ge (by omega) (by omega)), if_neg (show ¬ nI i ≤ (0 : Int32) from fun y => by
          have := (le_lit (a := i) (k := 0) (by omega) (by omega)).mp y
          omega)]
    obtain ⟨sa, hS, e0⟩ := key
    obtain ⟨w1, m1, e1, F1, B1, K1⟩ := ar_one (r := L_act_115 E m) (l := l) (b := b) (l4 := l4) (C := C) (R := R) (i := i) hO hS hF hB (y := y + 602 * n) (hR.dn (by omega)) (by omega)
    have hlen : (tx ++ (if i = 0 then ([] : List Nat) else [32]) ++ dcT (aR l4 i).toInt).length + 3 * n ≤ 900 := by
      have h2 := dcT_len (aR l4 i).toInt
      have h4 : (if (aR l4 i).toInt < 0 then 2 else 1) ≤ 2 := by split <;> omega
      rw [List.length_append, List.length_append, h2]
      omega
    obtain ⟨w2, m2, q2, e2, F2, B2, K2⟩ := ih (i + 1) m w1 _ m1 (by omega) (by omega) F1 B1 (K1 (y + 602 * n) (hR.dn (by omega))) hlen
    refine ⟨w2, m2, q2, e0.trans (e1.trans e2), F2, ?_, fun y hy => K2 y (K1 (y + 602 * n) (hy.dn (by omega)))⟩
    have e : tx ++ rwS (aR l4) (n + 1) i = tx ++ (if i = 0 then ([] : List Nat) else [32]) ++ dcT (aR l4 i).toInt ++ rwS (aR l4) n (i + 1) := by
      show tx ++ ((if i = 0 then ([] : List Nat) else [32]) ++ dcT (aR l4 i).toInt ++ rwS (aR l4) n (i + 1)) = _
      rw [List.append_assoc, List.append_assoc, List.append_assoc]
    rw [e]
    exact B2
theorem sh0 (x : Int32) : (x >>> ((0 : Int32) &&& 31)) + ((5 : Int32) * (0 : Int32)) = x := by
  have e : x >>> ((0 : Int32) &&& 31) = x := by
    show x >>> (0 : Int32) = x
    simp
  rw [e]
  simp
theorem aR_0 (l4 : Int32) : aR l4 0 = nI (mo l4 7) - 3 := by
  unfold aR
  rw [show nI 0 = (0 : Int32) from rfl, sh0]
/-- the row is said and added -/
theorem ar_fin (hO : gOK E) (hG : GQ Q) (hq : qN Q = 0) (hf : tR (qS Q) < 60) {g : Nat → Int32} (h0 : RK E w0 l ad Q) (hA0 : ArI E w0 tL b 6 g) (hz : ∀ j, j < 6 → g j = 0) {mm m : Nat} (hF : FT E w0 w) (hB : SB E w w0.1.2.1 a mm (rwS (aR l4) (qS Q).1 0)) (hR : RM E w (y + 342)) :
    ∃ w' Q' g', L_act_115_s E (L_act_115 E m) l b l4 (nI (qS Q).1) (nI (tR (qS Q))) a (nI (qS Q).1) w.1 = some (1, w'.1) ∧ FP (fun a => a = b) w0 w' ∧ (∀ y, RM E w (y + 340) → RM E w' y) ∧ RK E w' l ad Q' ∧ ArI E w' tL b 6 g' ∧ (∀ j, j < 6 → g' j = 0) ∧ qs Q' (qC Q (apT (qS Q) (aR l4))) ∧ qN Q' = 0 ∧ GQ Q' := by
  have hN := hO.1
  have hGS := hG.1
  have hC6 := hGS.2.1
  have hlen := rwS_len (x := aR l4) (qS Q).1 0
  have hl := rwS_lt (fun i => aR_sm l4 i) (qS Q).1 0
  obtain ⟨w1, sa, e1, K1, F1, hS1⟩ := hB.toS hF (by omega) (show RM E w (y + 2 + 340) from hR)
  have hR1 := K1 (y + 2) hR
  have h1 : RK E w1 l ad Q := h0.tl (F1.mono (fun _ z => z.elim))
  have A1 : ArI E w1 tL b 6 g := ArI.fr (E := E0 E) hA0 F1 (fun z => z)
  obtain ⟨w2, e2, K2, B2⟩ := K_say hN hl (by omega) hA0.2.1 hS1 (BF.nil h1 A1 hz hq)
  obtain ⟨w3, g3, u, n, e3, K3, h3, hn, hn7, A3, z3, hu⟩ := K_end hN hl (by omega) B2
  have hR3 : RM E w3 1 := (K3.2 (y + 2) (K2.2 (y + 2) hR1)).dn (by omega)
  have hG3 : GQ (qI Q n u) := hG.inp hn7
  obtain ⟨r, hp, hr⟩ := row1_ok (u := u) (L := (rwS (aR l4) (qS Q).1 0).length) (fun i => aR_sm l4 i) (k := (qS Q).1) ⟨by omega, fun i hi => by rw [Nat.zero_add]; exact hu i hi⟩ rfl
  have hrr : apT (qS Q) r = apT (qS Q) (aR l4) := mapC_cong (fun c hc => by rw [hr c hc])
  obtain ⟨w4, e4, K4, h4⟩ := K_addRow hO h3 hG3 hR3 (show (rwS (aR l4) (qS Q).1 0).length ≤ n from hn) hf hp
  have hq4 : apT (qS (qI Q n u)) r = apT (qS Q) (aR l4) := hrr
  rw [hq4] at h4
  have hSap := hGS.ap (z := aR l4) (fun c _ => vSm_in (aR_v l4 c)) hf
  have hG4 : GQ (qC (qErr (qI (qI Q n u) 0 (qB (qI Q n u))) (0, -1)) (apT (qS Q) (aR l4))) := ((hG3.inp (by omega)).err).chg hSap.1
  have hR4 : RM E w4 1 := K4.2 _ hR3
  obtain ⟨w5, e5, K5, h5⟩ := K_value hN h4 hG4 (c := 0) (r := tR (qS Q)) (show 0 < (qS Q).1 from hGS.1) (by
    show tR (qS Q) < tR (apT (qS Q) (aR l4))
    rw [hSap.2]
    omega)
  have K45 : KP E (fun a => a = b) 0 w3 w5 := (KK.kp K4).tr (KK.kp K5)
  refine ⟨w5, _, g3, ?_, ((F1.fp (fun _ z => z.elim)).tr ((K2.tr K3).tr K45).1), fun y hy => ((K2.tr K3).tr K45).2 y (K1 y hy), h5, (A3.fp (KK.kp (P := fun _ => False) K4).1 (fun z => z)).fp (KK.kp (P := fun _ => False) K5).1 (fun z => z), z3, ⟨rfl, rfl, rfl, rfl⟩, rfl, hG4⟩
  unfold L_act_115_s
  rw [if_pos (nI_le (Nat.le_refl _) (by omega)), ob_e hB.cl, ob_e e1]
  show ob (L_say_f E l b sa w1.1) _ = _
  rw [ob_e e2, ob_e e3]
  show ob (gcl w3.1 l 10) _ = _
  rw [ob_e h3.cl]
  show ob (X12_addRow_f E l (nI (rwS (aR l4) (qS Q).1 0).length) w3.1) _ = _
  rw [ob_e e4, gtry_r, if_pos (show nI (tR (qS (qI Q n u))) = nI (tR (qS Q)) from rfl), ob_e h4.cl, ob_e (show X12_value_f E l (0 : Int32) (nI (tR (qS Q))) w4.1 = _ from e5), gtry_r]
  rw [ob_e (show L_most_f E w5.1 l4 (7 : Int32) = _ from K_most l4 (n := 7) (by omega) (by omega))]
  have hv : tV (qS (qC (qErr (qI (qI Q n u) 0 (qB (qI Q n u))) (0, -1)) (apT (qS Q) (aR l4)))) 0 (tR (qS Q)) = nI (mo l4 7) - (3 : Int32) := (ap_V hGS).trans (aR_0 l4)
  rw [if_pos hv, ob_e h5.cl, ob_e (K_rowCount hN h5 hG4)]
  exact if_pos (show nI (tR (apT (qS Q) (aR l4))) = nI (tR (qS Q)) + (1 : Int32) by rw [hSap.2]; exact nI_succ _)
end AC3
