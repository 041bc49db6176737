/-! the law: say, end -/
/-- four letters in a word -/
def wd4 (c0 c1 c2 c3 : Nat) : Nat := c0 * 16777216 + c1 * 65536 + c2 * 256 + c3
/-- the word j of the letters from n on -/
def pw (tx : List Nat) (n j : Nat) : Nat := wd4 (tx.getD (n + 4 * j) 0) (tx.getD (n + 4 * j + 1) 0) (tx.getD (n + 4 * j + 2) 0) (tx.getD (n + 4 * j + 3) 0)
def lt128 (tx : List Nat) : Prop := ∀ i, tx.getD i 0 < 128
theorem lt128_ap {t s : List Nat} (h1 : lt128 t) (h2 : lt128 s) : lt128 (t ++ s) := fun i => by
  by_cases h : i < t.length
  · rw [ap_lo h]; exact h1 i
  · rw [ap_hi (by omega)]; exact h2 _
theorem getD_out {tx : List Nat} {i : Nat} (h : tx.length ≤ i) : tx.getD i 0 = 0 := by
  rw [List.getD_eq_getElem?_getD, List.getElem?_eq_none h]
  rfl
theorem lt128_1 {c : Nat} (h : c < 128) : lt128 [c] := fun i => by
  match i with
  | 0 => exact h
  | i + 1 => rw [getD_out (by show 1 ≤ i + 1; omega)]; omega
theorem by4_nI {N s : Nat} (hN : N < 2 ^ 31) (hs : s < 32) : by4 (nI N) s = N / 2 ^ s % 256 := by
  obtain ⟨h1, h2⟩ := by4_ok (nI N) s
  rw [pk_shrN hN _ s (s_l s hs), pk_andN (k := 8) (by have := Nat.div_le_self N (2 ^ s); omega) (by decide)] at h2
  exact (nI_eqI (by omega) (by have := Nat.mod_lt (N / 2 ^ s) (show 0 < 2 ^ 8 by decide); omega)).mp h2
theorem by4_wd {c0 c1 c2 c3 : Nat} (h0 : c0 < 128) (h1 : c1 < 128) (h2 : c2 < 128) (h3 : c3 < 128) : by4 (nI (wd4 c0 c1 c2 c3)) 24 = c0 ∧ by4 (nI (wd4 c0 c1 c2 c3)) 16 = c1 ∧ by4 (nI (wd4 c0 c1 c2 c3)) 8 = c2 ∧ by4 (nI (wd4 c0 c1 c2 c3)) 0 = c3 := by
  have hN : wd4 c0 c1 c2 c3 < 2 ^ 31 := by unfold wd4; omega
  rw [by4_nI hN (by omega), by4_nI hN (by omega), by4_nI hN (by omega), by4_nI hN (by omega)]
  unfold wd4
  refine ⟨?_, ?_, ?_, ?_⟩ <;> omega
theorem pw_lt {tx : List Nat} (h : lt128 tx) (n j : Nat) : pw tx n j < 2 ^ 31 := by
  have h0 := h (n + 4 * j)
  have h1 := h (n + 4 * j + 1)
  have h2 := h (n + 4 * j + 2)
  have h3 := h (n + 4 * j + 3)
  unfold pw wd4
  omega
/-- a byte of the words that are handed over -/
theorem apF_pw {tx : List Nat} (h : lt128 tx) (n : Nat) {k : Nat} (hk : k < 20) : apF (nI (pw tx n 0)) (nI (pw tx n 1)) (nI (pw tx n 2)) (nI (pw tx n 3)) (nI (pw tx n 4)) k = tx.getD (n + k) 0 := by
  have key : ∀ j r, r < 4 → by4 (nI (pw tx n j)) (24 - 8 * r) = tx.getD (n + (4 * j + r)) 0 := by
    intro j r hr
    obtain ⟨b0, b1, b2, b3⟩ := by4_wd (h (n + 4 * j)) (h (n + 4 * j + 1)) (h (n + 4 * j + 2)) (h (n + 4 * j + 3))
    match r, hr with
    | 0, _ => exact b0
    | 1, _ => exact b1
    | 2, _ => exact b2
    | 3, _ => exact b3
  unfold apF
  by_cases c0 : k < 4
  · rw [if_pos c0, key 0 (k % 4) (Nat.mod_lt _ (by omega))]
    congr 1
    omega
  · rw [if_neg c0]
    by_cases c1 : k < 8
    · rw [if_pos c1, key 1 (k % 4) (Nat.mod_lt _ (by omega))]
      congr 1
      omega
    · rw [if_neg c1]
      by_cases c2 : k < 12
      · rw [if_pos c2, key 2 (k % 4) (Nat.mod_lt _ (by omega))]
        congr 1
        omega
      · rw [if_neg c2]
        by_cases c3 : k < 16
        · rw [if_pos c3, key 3 (k % 4) (Nat.mod_lt _ (by omega))]
          congr 1
          omega
        · rw [if_neg c3, key 4 (k % 4) (Nat.mod_lt _ (by omega))]
          congr 1
          omega
theorem apB_in (u : Nat → Nat) (n : Nat) (f : Nat → Nat) : ∀ k i, (i < n → apB u n f k i = u i) ∧ (n ≤ i → i < n + k → apB u n f k i = f (i - n)) := by
  intro k
  induction k with
  | zero => intro i; exact ⟨fun _ => rfl, fun _ _ => by omega⟩
  | succ k ih =>
    intro i
    obtain ⟨h1, h2⟩ := ih i
    have e : apB u n f (k + 1) i = if i = n + k then f k else apB u n f k i := rfl
    constructor
    · intro hi
      rw [e, if_neg (by omega)]
      exact h1 hi
    · intro hi hi2
      rw [e]
      by_cases z : i = n + k
      · rw [if_pos z]
        congr 1
        omega
      · rw [if_neg z]
        exact h2 hi (by omega)
theorem app1 (tx : List Nat) (c i : Nat) : (tx ++ [c]).getD i 0 = if i = tx.length then c else tx.getD i 0 := by
  by_cases h : i < tx.length
  · rw [ap_lo h, if_neg (by omega)]
  · rw [ap_hi (by omega)]
    by_cases z : i = tx.length
    · rw [if_pos z, z, Nat.sub_self]
      rfl
    · rw [if_neg z, getD_out (by show 1 ≤ i - tx.length; omega), getD_out (by omega)]
theorem pw_other {tx : List Nat} {c n j : Nat} (h : ¬ (n + 4 * j ≤ tx.length ∧ tx.length < n + 4 * j + 4)) : pw (tx ++ [c]) n j = pw tx n j := by
  unfold pw
  rw [app1, app1, app1, app1, if_neg (by omega), if_neg (by omega), if_neg (by omega), if_neg (by omega)]
/-- a letter is put into its word -/
theorem pw_put {tx : List Nat} (h : lt128 tx) {c : Nat} (hc : c < 128) {n p : Nat} (hp : tx.length = n + p) :
    nI (pw tx n (p / 4)) ||| (nI c <<< (nI (24 - 8 * (p % 4)) &&& 31)) = nI (pw (tx ++ [c]) n (p / 4)) := by
  have hm : p % 4 < 4 := Nat.mod_lt _ (by omega)
  have hn : n + 4 * (p / 4) + p % 4 = tx.length := by omega
  generalize p / 4 = j at *
  have h0 := h (n + 4 * j)
  have h1 := h (n + 4 * j + 1)
  have h2 := h (n + 4 * j + 2)
  have h3 := h (n + 4 * j + 3)
  rw [pk_shlN _ (24 - 8 * (p % 4)) (s_l _ (by omega)) (by
    have : 2 ^ (24 - 8 * (p % 4)) ≤ 2 ^ 24 := Nat.pow_le_pow_right (by omega) (by omega)
    have := Nat.mul_le_mul (Nat.le_of_lt hc) this
    omega)]
  unfold pw
  rw [app1, app1, app1, app1]
  match hr : p % 4, hm with
  | 0, _ =>
    rw [hr] at hn
    rw [if_pos (by omega), if_neg (by omega), if_neg (by omega), if_neg (by omega), getD_out (i := n + 4 * j) (by omega), getD_out (i := n + 4 * j + 1) (by omega), getD_out (i := n + 4 * j + 2) (by omega), getD_out (i := n + 4 * j + 3) (by omega)]
    show nI 0 ||| nI (c * 2 ^ 24) = _
    rw [fa_or, Nat.zero_or, show wd4 c 0 0 0 = c * 2 ^ 24 by unfold wd4; omega]
  | 1, _ =>
    rw [hr] at hn
    rw [if_neg (by omega), if_pos (by omega), if_neg (by omega), if_neg (by omega), getD_out (i := n + 4 * j + 1) (by omega), getD_out (i := n + 4 * j + 2) (by omega), getD_out (i := n + 4 * j + 3) (by omega)]
    have := fa_or_sum (a := c * 2 ^ 16) (k := 24) (tx.getD (n + 4 * j) 0) (by omega)
    rw [show wd4 (tx.getD (n + 4 * j) 0) 0 0 0 = 2 ^ 24 * tx.getD (n + 4 * j) 0 by unfold wd4; omega]
    show nI (2 ^ 24 * tx.getD (n + 4 * j) 0) ||| nI (c * 2 ^ 16) = _
    rw [this]
    congr 1
    unfold wd4
    omega
  | 2, _ =>
    rw [hr] at hn
    rw [if_neg (by omega), if_neg (by omega), if_pos (by omega), if_neg (by omega), getD_out (i := n + 4 * j + 2) (by omega), getD_out (i := n + 4 * j + 3) (by omega)]
    have := fa_or_sum (a := c * 2 ^ 8) (k := 16) (tx.getD (n + 4 * j) 0 * 256 + tx.getD (n + 4 * j + 1) 0) (by omega)
    rw [show wd4 (tx.getD (n + 4 * j) 0) (tx.getD (n + 4 * j + 1) 0) 0 0 = 2 ^ 16 * (tx.getD (n + 4 * j) 0 * 256 + tx.getD (n + 4 * j + 1) 0) by unfold wd4; omega]
    show nI (2 ^ 16 * (tx.getD (n + 4 * j) 0 * 256 + tx.getD (n + 4 * j + 1) 0)) ||| nI (c * 2 ^ 8) = _
    rw [this]
    congr 1
    unfold wd4
    omega
  | 3, _ =>
    rw [hr] at hn
    rw [if_neg (by omega), if_neg (by omega), if_neg (by omega), if_pos (by omega), getD_out (i := n + 4 * j + 3) (by omega)]
    have := fa_or_sum (a := c * 2 ^ 0) (k := 8) (tx.getD (n + 4 * j) 0 * 65536 + tx.getD (n + 4 * j + 1) 0 * 256 + tx.getD (n + 4 * j + 2) 0) (by omega)
    rw [show wd4 (tx.getD (n + 4 * j) 0) (tx.getD (n + 4 * j + 1) 0) (tx.getD (n + 4 * j + 2) 0) 0 = 2 ^ 8 * (tx.getD (n + 4 * j) 0 * 65536 + tx.getD (n + 4 * j + 1) 0 * 256 + tx.getD (n + 4 * j + 2) 0) by unfold wd4; omega]
    show nI (2 ^ 8 * (tx.getD (n + 4 * j) 0 * 65536 + tx.getD (n + 4 * j + 1) 0 * 256 + tx.getD (n + 4 * j + 2) 0)) ||| nI (c * 2 ^ 0) = _
    rw [this]
    congr 1
    unfold wd4
    omega
/-- what has been said lies in the buffer b and in the input -/
def BF (E : gE) (l : Nat) (ad : Nat → Nat) (Q : gQ) (b : Nat) (tx : List Nat) (w : gWd) : Prop :=
  ∃ (g : Nat → Int32) (u : Nat → Nat), RK E w l ad (qI Q (20 * (tx.length / 20)) u) ∧ ArI E w tL b 6 g ∧ (∀ i, i < 20 * (tx.length / 20) → u i = tx.getD i 0) ∧ (∀ j, j < 5 → g j = nI (pw tx (20 * (tx.length / 20)) j)) ∧ g 5 = nI tx.length
section SAY
variable {E : gE} {l : Nat} {ad : Nat → Nat} {Q : gQ} {b : Nat} {w : gWd} {tx s : List Nat}
theorem div20 {n : Nat} (h : n < 2 ^ 31) : nI n / (20 : Int32) = nI (n / 20) := pk_div (d := 20) h (by omega) (by omega)
theorem rem20 {n : Nat} (h : n < 2 ^ 31) : nI n - nI n / (20 : Int32) * (20 : Int32) = nI (n % 20) := pk_rem (d := 20) h (by omega) (by omega)
theorem rem4 {n : Nat} (h : n < 2 ^ 31) : nI n - nI n / (4 : Int32) * (4 : Int32) = nI (n % 4) := pk_rem (d := 4) h (by omega) (by omega)
theorem div4 {n : Nat} (h : n < 2 ^ 31) : nI n / (4 : Int32) = nI (n / 4) := pk_div (d := 4) h (by omega) (by omega)
/-- the words are set to zero -/
theorem ad_zero : ∀ (d i m : Nat) (w : gWd) (g : Nat → Int32), i + d = 5 → d < m → RK E w l ad Q → ArI E w tL b 6 g → (∀ j, j < i → g j = 0) →
    ∃ w' g', L_add_65 E m b (nI i) w.1 = some w'.1 ∧ KP E (fun a => a = b) 0 w w' ∧ RK E w' l ad Q ∧ ArI E w' tL b 6 g' ∧ (∀ j, j < 5 → g' j = 0) ∧ g' 5 = g 5 := by
  intro d
  induction d with
  | zero =>
    intro i m w g hi hm h hA hz
    obtain ⟨m, rfl⟩ : ∃ q, m = q + 1 := ⟨m - 1, by omega⟩
    refine ⟨w, g, ?_, KP.rf, h, hA, fun j hj => hz j (by omega), rfl⟩
    show L_add_65_s E (L_add_65 E m) b (nI i) w.1 = _
    unfold L_add_65_s
    rw [if_pos (show (5 : Int32) ≤ nI i from (show nI 5 ≤ nI i from nI_le (by omega) (by omega)))]
  | succ d ih =>
    intro i m w g hi hm h hA hz
    obtain ⟨m, rfl⟩ : ∃ q, m = q + 1 := ⟨m - 1, by omega⟩
    obtain ⟨e1, A1, -⟩ := hA.st (i := i) (by omega) (by omega) 0 (J := fun _ => True) trivial
    obtain ⟨F1, F2⟩ := fp_up (E := E) hA.1 (.inl (gcy E 0, 6, .inl (upd g i 0)))
    obtain ⟨w2, g2, e2, K2, h2, A2, z2, f2⟩ := ih (i + 1) m _ _ (by omega) (by omega) (h.tl F1) A1 (fun j hj => by
      by_cases c : j = i
      · rw [c, pk_us]
      · rw [pk_un c]; exact hz j (by omega))
    refine ⟨w2, g2, ?_, F2.tr K2, h2, A2, z2, by rw [f2, pk_un (by omega)]⟩
    show L_add_65_s E (L_add_65 E m) b (nI i) w.1 = _
    unfold L_add_65_s
    rw [if_neg (show ¬ (5 : Int32) ≤ nI i from (show ¬ nI 5 ≤ nI i from nI_ge (by omega) (by omega))), ob_e e1, ← nI_succ]
    exact e2
/-- a letter is said -/
theorem BF.add (hN : 100000 ≤ gN E) (h : BF E l ad Q b tx w) (hl : lt128 tx) {c : Nat} (hc : c < 128) (hn : tx.length ≤ 660) :
    ∃ w', L_add_f E l b (nI c) w.1 = some w'.1 ∧ KP E (fun a => a = b) 0 w w' ∧ BF E l ad Q b (tx ++ [c]) w' := by
  obtain ⟨g, u, hK, hA, hu, hg, h5⟩ := h
  have hl2 : lt128 (tx ++ [c]) := lt128_ap hl (lt128_1 hc)
  have hlen : (tx ++ [c]).length = tx.length + 1 := by rw [List.length_append]; rfl
  have hb : tx.length = 20 * (tx.length / 20) + tx.length % 20 := by omega
  have hp20 : tx.length % 20 < 20 := Nat.mod_lt _ (by omega)
  have r5 : graI E 0 w.1 b (5 : Int32) = some (nI tx.length) := by
    have := hA.2.2.ld (i := 5) (by omega) (by omega)
    rw [h5] at this
    exact this
  have rj : graI E 0 w.1 b (nI (tx.length % 20 / 4)) = some (nI (pw tx (20 * (tx.length / 20)) (tx.length % 20 / 4))) := by
    have := hA.2.2.ld (i := tx.length % 20 / 4) (by omega) (by omega)
    rw [hg _ (by omega)] at this
    exact this
  have hput := pw_put hl hc hb
  have hm4 : tx.length % 20 % 4 = tx.length % 4 := by omega
  rw [hm4] at hput
  have hsh : (24 : Int32) - ((8 : Int32) * nI (tx.length % 4)) = nI (24 - 8 * (tx.length % 4)) := by
    rw [show (8 : Int32) = nI 8 from rfl, nI_mul, show (24 : Int32) = nI 24 from rfl, nI_sub (by omega)]
  obtain ⟨e1, A1, -⟩ := hA.st (i := tx.length % 20 / 4) (by omega) (by omega) (nI (pw (tx ++ [c]) (20 * (tx.length / 20)) (tx.length % 20 / 4))) (J := fun _ => True) trivial
  obtain ⟨F1, K1⟩ := fp_up (E := E) hA.1 (.inl (gcy E 0, 6, .inl (upd g (tx.length % 20 / 4) (nI (pw (tx ++ [c]) (20 * (tx.length / 20)) (tx.length % 20 / 4))))))
  have h1 := hK.tl F1
  generalize wUp w b (.inl (gcy E 0, 6, .inl (upd g (tx.length % 20 / 4) (nI (pw (tx ++ [c]) (20 * (tx.length / 20)) (tx.length % 20 / 4)))))) = w1 at e1 A1 F1 K1 h1
  have r5a : graI E 0 w1.1 b (5 : Int32) = some (nI tx.length) := by
    have := A1.2.2.ld (i := 5) (by omega) (by omega)
    rw [pk_un (by omega), h5] at this
    exact this
  obtain ⟨e2, A2, -⟩ := A1.st (i := 5) (by omega) (by omega) (nI (tx.length + 1)) (J := fun _ => True) trivial
  obtain ⟨F2, K2⟩ := fp_up (E := E) A1.1 (.inl (gcy E 0, 6, .inl (upd (upd g (tx.length % 20 / 4) (nI (pw (tx ++ [c]) (20 * (tx.length / 20)) (tx.length % 20 / 4)))) 5 (nI (tx.length + 1)))))
  have h2 := h1.tl F2
  generalize wUp w1 b (.inl (gcy E 0, 6, .inl (upd (upd g (tx.length % 20 / 4) (nI (pw (tx ++ [c]) (20 * (tx.length / 20)) (tx.length % 20 / 4)))) 5 (nI (tx.length + 1))))) = w2 at e2 A2 F2 K2 h2
  have r5b : graI E 0 w2.1 b (5 : Int32) = some (nI (tx.length + 1)) := by
    have := A2.2.2.ld (i := 5) (by omega) (by omega)
    rw [pk_us] at this
    exact this
  have hgj : ∀ j, j < 5 → upd (upd g (tx.length % 20 / 4) (nI (pw (tx ++ [c]) (20 * (tx.length / 20)) (tx.length % 20 / 4)))) 5 (nI (tx.length + 1)) j = nI (pw (tx ++ [c]) (20 * (tx.length / 20)) j) := by
    intro j hj
    rw [pk_un (by omega)]
    by_cases z : j = tx.length % 20 / 4
    · rw [z, pk_us]
    · rw [pk_un z, hg j hj, pw_other (by omega)]
  have hgo : ∀ (X : Option gS), (if nI ((tx.length + 1) % 20) = (0 : Int32) then ob (graI E 0 w2.1 b (0 : Int32)) fun x18 => ob (graI E 0 w2.1 b (1 : Int32)) fun x20 => ob (graI E 0 w2.1 b (2 : Int32)) fun x22 => ob (graI E 0 w2.1 b (3 : Int32)) fun x24 => ob (graI E 0 w2.1 b (4 : Int32)) fun x26 => ob (gcl w2.1 l 10) fun _ => ob (X12_appendText_f E l x18 x20 x22 x24 x26 w2.1) fun x28 => L_add_65 E (gN E) b (0 : Int32) x28.2 else some w2.1) = X → L_add_f E l b (nI c) w.1 = X := by
    intro X hX
    rw [← hX]
    unfold L_add_f L_add
    rw [ob_e r5, rem20 (by omega), div4 (by omega), ob_e rj, ob_e r5, rem4 (by omega), hsh, hput, ob_e e1, ob_e r5a, ← nI_succ, show (5 : Int32) = nI 5 from rfl, ob_e e2, ob_e (show graI E 0 w2.1 b (nI 5) = _ from r5b), rem20 (by omega)]
  by_cases hz : (tx.length + 1) % 20 = 0
  · have hb2 : 20 * ((tx.length + 1) / 20) = 20 * (tx.length / 20) + 20 := by omega
    have rd : ∀ j, j < 5 → graI E 0 w2.1 b (nI j) = some (nI (pw (tx ++ [c]) (20 * (tx.length / 20)) j)) := fun j hj => by
      have := A2.2.2.ld (i := j) (by omega) (by omega)
      rw [hgj j hj] at this
      exact this
    obtain ⟨w3, e3, F3, h3⟩ := K_appendText hN h2 (a := nI (pw (tx ++ [c]) (20 * (tx.length / 20)) 0)) (b := nI (pw (tx ++ [c]) (20 * (tx.length / 20)) 1)) (c := nI (pw (tx ++ [c]) (20 * (tx.length / 20)) 2)) (d := nI (pw (tx ++ [c]) (20 * (tx.length / 20)) 3)) (e := nI (pw (tx ++ [c]) (20 * (tx.length / 20)) 4)) (by show 20 * (tx.length / 20) + 20 ≤ 700; omega)
    have K3 : KP E (fun _ => False) 0 w2 w3 := KK.kp ((F3.mono (fun t z => JKP t (J22P t z))).kk h2.pos)
    have A3 := A2.fp K3.1 (fun z => z.elim)
    obtain ⟨w4, g4, e4, K4, h4, A4, z4, f4⟩ := ad_zero 5 0 (gN E) w3 _ (by omega) (by omega) h3 A3 (fun j hj => by omega)
    refine ⟨w4, hgo _ ?_, K1.tr (K2.tr ((K3.mono (fun _ z => z.elim)).tr K4)), g4, apB u (20 * (tx.length / 20)) (apF (nI (pw (tx ++ [c]) (20 * (tx.length / 20)) 0)) (nI (pw (tx ++ [c]) (20 * (tx.length / 20)) 1)) (nI (pw (tx ++ [c]) (20 * (tx.length / 20)) 2)) (nI (pw (tx ++ [c]) (20 * (tx.length / 20)) 3)) (nI (pw (tx ++ [c]) (20 * (tx.length / 20)) 4))) 20, ?_, A4, ?_, ?_, ?_⟩
    · rw [if_pos (show nI ((tx.length + 1) % 20) = (0 : Int32) by rw [hz]; rfl), ob_e (show graI E 0 w2.1 b (0 : Int32) = _ from rd 0 (by omega)), ob_e (show graI E 0 w2.1 b (1 : Int32) = _ from rd 1 (by omega)), ob_e (show graI E 0 w2.1 b (2 : Int32) = _ from rd 2 (by omega)), ob_e (show graI E 0 w2.1 b (3 : Int32) = _ from rd 3 (by omega)), ob_e (show graI E 0 w2.1 b (4 : Int32) = _ from rd 4 (by omega)), ob_e h2.cl, ob_e e3]
      exact e4
    · rw [hlen, hb2]
      exact h4
    · intro i hi
      rw [hlen, hb2] at hi
      by_cases c0 : i < 20 * (tx.length / 20)
      · rw [(apB_in u _ _ 20 i).1 c0, hu i c0, ap_lo (by omega)]
      · rw [(apB_in u _ _ 20 i).2 (by omega) (by omega), apF_pw hl2 _ (by omega)]
        congr 1
        omega
    · intro j hj
      rw [hlen, hb2, z4 j hj]
      unfold pw
      rw [getD_out (by rw [hlen]; omega), getD_out (by rw [hlen]; omega), getD_out (by rw [hlen]; omega), getD_out (by rw [hlen]; omega)]
      rfl
    · rw [f4, pk_us, hlen]
  · refine ⟨w2, hgo _ (if_neg (fun z => hz ((nI_eqI (by omega) (by omega)).mp (show nI ((tx.length + 1) % 20) = nI 0 from z)))), K1.tr K2, _, u, ?_, A2, ?_, ?_, ?_⟩
    · rw [hlen, show (tx.length + 1) / 20 = tx.length / 20 by omega]
      exact h2
    · intro i hi
      rw [hlen, show (tx.length + 1) / 20 = tx.length / 20 by omega] at hi
      rw [hu i hi, ap_lo (by omega)]
    · intro j hj
      rw [hlen, show (tx.length + 1) / 20 = tx.length / 20 by omega]
      exact hgj j hj
    · rw [hlen, pk_us]
end SAY
