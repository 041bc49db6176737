/-! the law: the whole text said -/
section END
variable {E : gE} {l : Nat} {ad : Nat → Nat} {Q : gQ} {b lo sa : Nat} {w w' : gWd} {tx s : List Nat}
theorem ST.fp {P : Nat → Prop} (h : ST E w lo sa tx) (hF : FP P w w') (hP : ∀ a, P a → a < lo) : ST E w' lo sa tx := by
  obtain ⟨h0, q, g, h1, h2, h3, h4, h5⟩ := h
  exact ⟨h0, q, g, h1, h2.fp hF (fun z => by have := hP _ z; omega), h3.fp hF (fun z => by have := hP _ z; omega), h4, h5⟩
theorem take_S (tx : List Nat) (k : Nat) (hk : k < tx.length) : tx.take (k + 1) = tx.take k ++ [tx.getD k 0] := by
  rw [List.take_succ, List.getD_eq_getElem?_getD, List.getElem?_eq_getElem hk]
  rfl
theorem lt128_take {k : Nat} (h : lt128 tx) : lt128 (tx.take k) := fun i => by
  by_cases c : i < k
  · rw [List.getD_eq_getElem?_getD, List.getElem?_take_of_lt c, ← List.getD_eq_getElem?_getD]
    exact h i
  · rw [getD_out (by rw [List.length_take]; omega)]
    omega
theorem say_go (hN : 100000 ≤ gN E) (hl : lt128 tx) (hx : tx.length ≤ 640) : ∀ (d k m : Nat) (w : gWd), k + d = tx.length → d < m → b < lo → ST E w lo sa tx → BF E l ad Q b (tx.take k) w →
    ∃ w', L_say_2 E m l b sa (nI k) w.1 = some w'.1 ∧ KP E (fun a => a = b) 0 w w' ∧ BF E l ad Q b tx w' := by
  intro d
  induction d with
  | zero =>
    intro k m w hk hm hb hS hB
    obtain ⟨m, rfl⟩ : ∃ q, m = q + 1 := ⟨m - 1, by omega⟩
    rw [show tx.take k = tx from List.take_of_length_le (by omega)] at hB
    refine ⟨w, ?_, KP.rf, hB⟩
    show L_say_2_s E (L_say_2 E m) l b sa (nI k) w.1 = _
    unfold L_say_2_s
    rw [ob_e hS.cl, ob_e hS.length, if_pos (nI_le (by omega) (by omega))]
  | succ d ih =>
    intro k m w hk hm hb hS hB
    obtain ⟨m, rfl⟩ : ∃ q, m = q + 1 := ⟨m - 1, by omega⟩
    have hlen : (tx.take k).length = k := by rw [List.length_take]; omega
    obtain ⟨w1, e1, K1, B1⟩ := hB.add hN (lt128_take hl) (hl k) (by omega)
    rw [← take_S tx k (by omega)] at B1
    obtain ⟨w2, e2, K2, B2⟩ := ih (k + 1) m w1 (by omega) (by omega) hb (hS.fp K1.1 (fun a z => by rw [z]; exact hb)) B1
    refine ⟨w2, ?_, K1.tr K2, B2⟩
    show L_say_2_s E (L_say_2 E m) l b sa (nI k) w.1 = _
    unfold L_say_2_s
    rw [ob_e hS.cl, ob_e hS.length, if_neg (nI_ge (by omega) (by omega)), ob_e hS.cl, ob_e (hS.char (by omega) (hl k)), ob_e e1, ← nI_succ]
    exact e2
/-- the text of a string is said -/
theorem K_say (hN : 100000 ≤ gN E) (hl : lt128 tx) (hx : tx.length ≤ 640) (hb : b < lo) (hS : ST E w lo sa tx) (hB : BF E l ad Q b [] w) :
    ∃ w', L_say_f E l b sa w.1 = some w'.1 ∧ KP E (fun a => a = b) 0 w w' ∧ BF E l ad Q b tx w' :=
  say_go hN hl hx tx.length 0 (gN E) w (by omega) (by omega) hb hS hB
theorem end_go (hN : 100000 ≤ gN E) (x : Int32) : ∀ (d m : Nat) (s : List Nat) (w : gWd), (s.length + d) % 20 = 0 → d < 20 → d < m → s.length + d ≤ 660 → lt128 s → BF E l ad Q b s w →
    ∃ w' g u, L_end_4 E m l b x w.1 = some (x, w'.1) ∧ KP E (fun a => a = b) 0 w w' ∧ RK E w' l ad (qI Q (s.length + d) u) ∧ ArI E w' tL b 6 g ∧ (∀ j, j < 6 → g j = 0) ∧ (∀ i, i < s.length → u i = s.getD i 0) := by
  intro d
  induction d with
  | zero =>
    intro m s w hd _ hm hx hl hB
    obtain ⟨m, rfl⟩ : ∃ q, m = q + 1 := ⟨m - 1, by omega⟩
    obtain ⟨g, u, hK, hA, hu, hg, h5⟩ := hB
    have he : 20 * (s.length / 20) = s.length := by omega
    have r5 : graI E 0 w.1 b (5 : Int32) = some (nI s.length) := by
      have := hA.2.2.ld (i := 5) (by omega) (by omega)
      rw [h5] at this
      exact this
    obtain ⟨e1, A1, -⟩ := hA.st (i := 5) (by omega) (by omega) 0 (J := fun _ => True) trivial
    obtain ⟨F1, F2⟩ := fp_up (E := E) hA.1 (.inl (gcy E 0, 6, .inl (upd g 5 0)))
    rw [he] at hK
    refine ⟨wUp w b (.inl (gcy E 0, 6, .inl (upd g 5 0))), _, u, ?_, F2, hK.tl F1, A1, ?_, fun i hi => hu i (by omega)⟩
    · show L_end_4_s E (L_end_4 E m) l b x w.1 = _
      unfold L_end_4_s
      rw [ob_e r5, rem20 (by omega), if_pos (by rw [show s.length % 20 = 0 by omega]; rfl), ob_e (show gwaI E w.1 b (5 : Int32) 0 = _ from e1)]
    · intro j hj
      by_cases z : j = 5
      · rw [z, pk_us]
      · rw [pk_un z, hg j (by omega)]
        unfold pw
        rw [getD_out (by omega), getD_out (by omega), getD_out (by omega), getD_out (by omega)]
        rfl
  | succ d ih =>
    intro m s w hd hd20 hm hx hl hB
    obtain ⟨m, rfl⟩ : ∃ q, m = q + 1 := ⟨m - 1, by omega⟩
    obtain ⟨w1, e1, K1, B1⟩ := hB.add hN hl (c := 32) (by omega) (by omega)
    have hlen : (s ++ [32]).length = s.length + 1 := by rw [List.length_append]; rfl
    obtain ⟨w2, g, u, e2, K2, h2, A2, z2, u2⟩ := ih m (s ++ [32]) w1 (by rw [hlen]; omega) (by omega) (by omega) (by rw [hlen]; omega) (lt128_ap hl (lt128_1 (by omega))) B1
    rw [hlen, show s.length + 1 + d = s.length + (d + 1) by omega] at h2
    refine ⟨w2, g, u, ?_, K1.tr K2, h2, A2, z2, fun i hi => ?_⟩
    · obtain ⟨g0, u0, hK, hA, -, -, h5⟩ := hB
      have r5 : graI E 0 w.1 b (5 : Int32) = some (nI s.length) := by
        have := hA.2.2.ld (i := 5) (by omega) (by omega)
        rw [h5] at this
        exact this
      show L_end_4_s E (L_end_4 E m) l b x w.1 = _
      unfold L_end_4_s
      rw [ob_e r5, rem20 (by omega), if_neg (fun z => by
        have := (nI_eqI (a := s.length % 20) (b := 0) (by omega) (by omega)).mp z
        omega), ob_e (show L_add_f E l b (32 : Int32) w.1 = _ from e1)]
      exact e2
    · rw [u2 i (by rw [hlen]; omega), ap_lo hi]
/-- the text ends -/
theorem K_end (hN : 100000 ≤ gN E) (hl : lt128 tx) (hx : tx.length ≤ 640) (hB : BF E l ad Q b tx w) :
    ∃ w' g u n, L_end_f E l b w.1 = some (nI tx.length, w'.1) ∧ KP E (fun a => a = b) 0 w w' ∧ RK E w' l ad (qI Q n u) ∧ tx.length ≤ n ∧ n ≤ 700 ∧ ArI E w' tL b 6 g ∧ (∀ j, j < 6 → g j = 0) ∧ (∀ i, i < tx.length → u i = tx.getD i 0) := by
  obtain ⟨d, hd, hd2⟩ : ∃ d, (tx.length + d) % 20 = 0 ∧ d < 20 := ⟨(20 - tx.length % 20) % 20, by omega, by omega⟩
  obtain ⟨w', g, u, e, K, h, A, z, hu⟩ := end_go hN (nI tx.length) d (gN E) tx w hd hd2 (by omega) (by omega) hl hB
  refine ⟨w', g, u, _, ?_, K, h, by omega, by omega, A, z, hu⟩
  obtain ⟨g0, u0, hK, hA, -, -, h5⟩ := hB
  have r5 : graI E 0 w.1 b (5 : Int32) = some (nI tx.length) := by
    have := hA.2.2.ld (i := 5) (by omega) (by omega)
    rw [h5] at this
    exact this
  unfold L_end_f L_end
  rw [ob_e r5]
  exact e
theorem pw_nil (n j : Nat) : pw [] n j = 0 := by
  unfold pw
  rw [getD_out (Nat.zero_le _), getD_out (Nat.zero_le _), getD_out (Nat.zero_le _), getD_out (Nat.zero_le _)]
  rfl
theorem BF.nil {g : Nat → Int32} (h : RK E w l ad Q) (hA : ArI E w tL b 6 g) (hz : ∀ j, j < 6 → g j = 0) (hn : qN Q = 0) : BF E l ad Q b [] w := by
  refine ⟨g, qB Q, ?_, hA, fun i hi => absurd hi (Nat.not_lt_zero _), fun j hj => ?_, hz 5 (by omega)⟩
  · have e : qI Q (20 * (([] : List Nat).length / 20)) (qB Q) = Q := by
      show qI Q 0 (qB Q) = Q
      rw [← hn]
      rfl
    rw [e]
    exact h
  · rw [hz j (by omega), pw_nil]
    rfl
end END
