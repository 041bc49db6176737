/-! pure: the constants; the input and its tokens -/
def txtT : List Nat := [116, 97, 98, 108, 101]
def txtD : List Nat := [100, 111, 119, 110]
def txtK : Nat → List Nat
  | 0 => [114, 111, 119]
  | 1 => [115, 101, 116]
  | 2 => [115, 111, 114, 116]
  | 3 => [108, 101, 115, 115]
  | 4 => [101, 113, 117, 97, 108]
  | 5 => [103, 114, 101, 97, 116, 101, 114]
  | 6 => [100, 114, 111, 112]
  | 7 => [100, 101, 108, 101, 116, 101]
  | _ => [99, 111, 109, 112, 97, 99, 116]
def txt : Nat → List Nat
  | 0 => txtT
  | 1 => [32]
  | 2 => []
  | _ => [116, 97, 98, 108, 101, 32]
/-- a String constant that holds a text -/
def sOf (E : gE) (a : Nat) (l : List Nat) : Prop := gro E a = true ∧ ∃ va g, gcs E a = .inr (100, [.ref va, .int 0]) ∧ gro E va = true ∧ gcs E va = .inl (1, l.length, .inl g) ∧ l.length < 100 ∧ ∀ i, i < l.length → l.getD i 0 < 128 ∧ g i = nI (l.getD i 0)
def firstC : List Int32 := [5, -2, 7, 1, -2, 7, 5, 0, 3, 9, -2, 7, 1, 4, 3, 5, 0, 7]
def swm : List Nat := [1, 2, 7, 3, 4, 5, 6, 8, 9]
/-- what the constants are -/
def gOK (E : gE) : Prop :=
  100000 ≤ gN E ∧ (∀ k, k < 4 → sOf E (gst E k) (txt k)) ∧
  (gro E (gst E 40) = true ∧ ∃ g, gcs E (gst E 40) = .inl (0, 18, .inl g) ∧ ∀ i, i < 18 → g i = firstC.getD i 0) ∧
  (gro E (gst E 43) = true ∧ ∃ g, gcs E (gst E 43) = .inl (1, 100, .inl g) ∧ ∀ i, i < 10 → g i = nI (48 + i))
theorem ro_ld {E : gE} {σ : gS} {t a n i : Nat} {g : Nat → Int32} (hr : gro E a = true) (hc : gcs E a = .inl (t, n, .inl g)) (hi : i < n) (hn : n < 2 ^ 31) : graI E t σ a (nI i) = some (g i) := by
  have h2 := nI_in hi hn
  unfold graI gat gac
  rw [hr]
  simp only [if_true]
  rw [hc]
  simp only [true_and]
  rw [if_pos h2, nI_clamp (by omega)]
theorem ro_len {E : gE} {σ : gS} {t a n : Nat} {y : (Nat → Int32) ⊕ (Nat → Int64) ⊕ (Nat → UInt32) ⊕ (Nat → UInt64) ⊕ (Nat → Option Nat)} (hr : gro E a = true) (hc : gcs E a = .inl (t, n, y)) : gal E t σ a = some (nI n) := by
  unfold gal gat gac
  rw [hr]
  simp only [if_true]
  rw [hc]
  simp only [if_true]
  rfl
theorem gxI_o {E : gE} {a ci k : Nat} {fs : List Value} {x : Int32} (hr : gro E a = true) (h : gcs E a = .inr (ci, fs)) (hk : fs[k]? = some (.int x)) : gxI E a ci k = some x := by
  unfold gxI
  rw [if_pos hr, h]
  simp only [if_true]
  rw [hk]
theorem gxR_o {E : gE} {a ci k : Nat} {fs : List Value} {x : Nat} (hr : gro E a = true) (h : gcs E a = .inr (ci, fs)) (hk : fs[k]? = some (.ref x)) : gxR E a ci k = some x := by
  unfold gxR
  rw [if_pos hr, h]
  simp only [if_true]
  rw [hk]
theorem gxc_o {E : gE} {a ci : Nat} {fs : List Value} (hr : gro E a = true) (h : gcs E a = .inr (ci, fs)) : gxc E a ci = some () := by
  unfold gxc
  rw [if_pos hr, h]
  simp only [if_true]
theorem sOf.cl {E : gE} {a : Nat} {l : List Nat} (h : sOf E a l) : gxc E a 100 = some () := by
  obtain ⟨h1, va, g, h2, -⟩ := h
  exact gxc_o h1 h2
theorem shr0 (n : Nat) : nI n >>> ((0 : Int32) &&& 31) = nI n := by
  apply b_ext
  intro i hi
  have := b_sshr 0 (by omega) (nI n) hi
  rw [show nI 0 = (0 : Int32) from rfl] at this
  rw [this, Nat.zero_add, if_pos hi]
theorem sOf.length {E : gE} {σ : gS} {a : Nat} {l : List Nat} (h : sOf E a l) : J0_length_8abf5_f E σ a = some (nI l.length) := by
  obtain ⟨h1, va, g, h2, h3, h4, h5⟩ := h
  unfold J0_length_8abf5_f J0_length_8abf5 J0_coder_7d493_f J0_coder_7d493
  rw [ob_e (gxR_o h1 h2 rfl), ob_e (ro_len h3 h4), ob_e (gxc_o h1 h2), if_neg (by decide), ob_e (gxI_o h1 h2 rfl)]
  have e : ob (gby (0 : Int32)) (fun _ => some (0 : Int32)) = some 0 := rfl
  rw [ob_e e, shr0]
theorem chr_ok : ∀ b, b < 128 → gi2c (nI b &&& 255) = nI b ∧ gch (nI b) = some () := by decide +kernel
theorem sOf.char {E : gE} {σ : gS} {a i : Nat} {l : List Nat} (h : sOf E a l) (hi : i < l.length) : J0_charAt_5068e_f E σ a (nI i) = some (nI (l.getD i 0)) := by
  obtain ⟨h1, va, g, h2, h3, h4, h5, h6⟩ := h
  obtain ⟨h7, h8⟩ := h6 i hi
  obtain ⟨c1, c2⟩ := chr_ok _ h7
  have hlat : J0_isLatin1_aae02_f E σ a = some 1 := by
    unfold J0_isLatin1_aae02_f J0_isLatin1_aae02
    rw [if_neg (by decide), ob_e (gxI_o h1 h2 rfl), if_pos rfl]
  have hck : J0_checkIndex_df160_f E σ (nI i) (nI l.length) = some () := by
    unfold J0_checkIndex_df160_f J0_checkIndex_df160 J3_checkIndex_8e157_f J3_checkIndex_8e157
    rw [if_neg (nI_pos (by omega)), if_pos (nI_lt hi (by omega))]
    rfl
  have h9 : J1_charAt_3b067_f E σ va (nI i) = some (nI (l.getD i 0)) := by
    unfold J1_charAt_3b067_f J1_charAt_3b067
    rw [ob_e (ro_len h3 h4), ob_e hck, ob_e (ro_ld h3 h4 hi (by omega)), h8]
    show ob (gch (gi2c (nI (l.getD i 0) &&& 255))) (fun _ => some (gi2c (nI (l.getD i 0) &&& 255))) = _
    rw [c1, ob_e c2]
  unfold J0_charAt_5068e_f J0_charAt_5068e
  rw [ob_e (gxc_o h1 h2), ob_e hlat, if_neg (by decide), ob_e (gxR_o h1 h2 rfl), ob_e h9, ob_e c2]
/-! bytes and kinds of tokens -/
/-- a byte as it lies in the first buffer -/
def sb (b : Nat) : Int32 := (nI b).toInt8.toInt32
/-- 0 end, 1 blank, 2 letter, 3 digit, 4 semicolon, 5 minus, 6 else -/
def bk (b : Nat) : Nat := if 97 ≤ b ∧ b ≤ 122 then 2 else if 48 ≤ b ∧ b ≤ 57 then 3 else if b = 10 ∨ b = 32 then 1 else if b = 45 then 5 else if b = 59 then 4 else 6
def kd (u : Nat → Nat) (L p : Nat) : Nat := if p < L then bk (u p) else 0
theorem sb_tab : ∀ b, b < 256 → (sb b = if b < 128 then nI b else nI b - 256) := by decide +kernel
theorem bk_cl : ∀ b, b < 256 → (if sb b < (97 : Int32) then (if sb b < (48 : Int32) then (if sb b = (10 : Int32) then (1 : Int32) else if sb b = (32 : Int32) then 1 else if sb b = (45 : Int32) then 5 else if sb b = (59 : Int32) then 4 else 6) else if (57 : Int32) < sb b then (if sb b = (10 : Int32) then (1 : Int32) else if sb b = (32 : Int32) then 1 else if sb b = (45 : Int32) then 5 else if sb b = (59 : Int32) then 4 else 6) else 3) else if (122 : Int32) < sb b then (if sb b < (48 : Int32) then (if sb b = (10 : Int32) then (1 : Int32) else if sb b = (32 : Int32) then 1 else if sb b = (45 : Int32) then 5 else if sb b = (59 : Int32) then 4 else 6) else if (57 : Int32) < sb b then (if sb b = (10 : Int32) then (1 : Int32) else if sb b = (32 : Int32) then 1 else if sb b = (45 : Int32) then 5 else if sb b = (59 : Int32) then 4 else 6) else 3) else 2) = nI (bk b) := by decide +kernel
theorem kd_le (u : Nat → Nat) (L p : Nat) : kd u L p ≤ 6 := by
  unfold kd bk
  repeat' split
  all_goals omega
/-- the first place from e on that isn't blank -/
def tS (u : Nat → Nat) (L e : Nat) : Nat := e + fa_first (fun i => decide (kd u L (e + i) ≠ 1)) (L - e)
/-- where the token that begins at s ends -/
def tE (u : Nat → Nat) (L s : Nat) : Nat := if kd u L s = 2 ∨ kd u L s = 3 then s + fa_first (fun i => decide (kd u L (s + i) ≠ kd u L s)) (L - s) else min (s + 1) L
def tN (u : Nat → Nat) (L s : Nat) : Nat := tS u L (tE u L s)
/-- the number up to n digits from s on; it stays where it is from 100000 on -/
def dg (u : Nat → Nat) (s : Nat) : Nat → Nat
  | 0 => 0
  | n + 1 => if dg u s n < 100000 then 10 * dg u s n + (u (s + n) - 48) else dg u s n
def tNum (u : Nat → Nat) (L s : Nat) : Nat := if kd u L s = 3 then dg u s (tE u L s - s) else 0
theorem tS_ge (u : Nat → Nat) (L e : Nat) : e ≤ tS u L e := Nat.le_add_right _ _
theorem tS_le {u : Nat → Nat} {L e : Nat} (h : e ≤ L) : tS u L e ≤ L := by
  unfold tS
  have := fa_first_le (fun i => decide (kd u L (e + i) ≠ 1)) (L - e)
  omega
theorem tE_le {u : Nat → Nat} {L s : Nat} (h : s ≤ L) : tE u L s ≤ L := by
  unfold tE
  have := fa_first_le (fun i => decide (kd u L (s + i) ≠ kd u L s)) (L - s)
  split <;> omega
theorem tE_ge {u : Nat → Nat} {L s : Nat} (h : s ≤ L) : s ≤ tE u L s := by
  unfold tE
  split <;> omega
theorem tE_gt {u : Nat → Nat} {L s : Nat} (h : s < L) : s < tE u L s := by
  unfold tE
  split
  · rename_i hk
    have h0 : fa_first (fun i => decide (kd u L (s + i) ≠ kd u L s)) (L - s) ≠ 0 := by
      intro hz
      have := fa_first_yes (fun i => decide (kd u L (s + i) ≠ kd u L s)) (L - s) (by omega)
      rw [hz] at this
      simp at this
    omega
  · omega
theorem kd_end {u : Nat → Nat} {L s : Nat} (h : s ≤ L) : kd u L s = 0 ↔ s = L := by
  unfold kd bk
  constructor
  · intro hk
    by_cases hs : s < L
    · rw [if_pos hs] at hk
      repeat' split at hk
      all_goals omega
    · omega
  · intro hs
    rw [if_neg (by omega)]
theorem tS_kd {u : Nat → Nat} {L e : Nat} (h : e ≤ L) : kd u L (tS u L e) ≠ 1 := by
  unfold tS
  by_cases hl : fa_first (fun i => decide (kd u L (e + i) ≠ 1)) (L - e) < L - e
  · have := fa_first_yes (fun i => decide (kd u L (e + i) ≠ 1)) (L - e) hl
    simpa using this
  · have := fa_first_le (fun i => decide (kd u L (e + i) ≠ 1)) (L - e)
    have e2 : e + fa_first (fun i => decide (kd u L (e + i) ≠ 1)) (L - e) = L := by omega
    rw [e2, (kd_end (Nat.le_refl L)).mpr rfl]
    decide
theorem dg_le (u : Nat → Nat) (s : Nat) (hu : ∀ i, u i < 256) : ∀ n, dg u s n < 2000000
  | 0 => by show 0 < 2000000; decide
  | n + 1 => by
    have := dg_le u s hu n
    have := hu (s + n)
    unfold dg
    split <;> omega
/-- the input at a: n bytes u; the token that is looked at: its kind, start, end, number -/
def RI (E : gE) (w : gWd) (a n : Nat) (u : Nat → Nat) (L k s e q : Nat) : Prop :=
  Ob w (10, 22, 0) a 5 [.ref (a + 1), .int (nI n), .int (nI L), .int (nI k), .int (nI s), .int (nI e), .int (nI q)] ∧ n ≤ 700 ∧ (∃ g, ArB E w (11, 22, 0) (a + 1) 700 g ∧ ∀ i, i < n → g i = sb (u i)) ∧ L ≤ n ∧ ∀ i, u i < 256
abbrev J22 : Nat × Nat × Nat → Prop := fun t => t.2 = (22, 0)
theorem RI.fr {E : gE} {J : Nat × Nat × Nat → Prop} {w w' : gWd} {a n L k s e q : Nat} {u : Nat → Nat} (h : RI E w a n u L k s e q) (hF : FS E J w w') (hJ : ∀ κ, ¬ J (κ, 22, 0)) : RI E w' a n u L k s e q := by
  obtain ⟨h1, h2, ⟨g, h3, h4⟩, h5, h6⟩ := h
  exact ⟨h1.fr hF (hJ _), h2, ⟨g, h3.fr hF (hJ _), h4⟩, h5, h6⟩
theorem RI.kind {E : gE} {w : gWd} {a n L k s e q p : Nat} {u : Nat → Nat} (h : RI E w a n u L k s e q) (hp : p < 2 ^ 31) : X6_kindAt_f E w.1 a (nI p) = some (nI (kd u L p)) := by
  obtain ⟨h1, h2, ⟨g, h3, h4⟩, h5, h6⟩ := h
  unfold X6_kindAt_f X6_kindAt X6_kindAt_31 X6_kindAt_45 X6_kindAt_88 kd
  rw [ob_e (gfI_o h1.2.2 rfl)]
  by_cases hl : p < L
  · rw [if_pos (nI_lt hl (by omega)), if_pos hl, ob_e (gfR_o h1.2.2 rfl), ob_e (h3.2.2.ld (show p < 700 by omega) (by omega)), h4 p (by omega), ← bk_cl _ (h6 p)]
    repeat' split
    all_goals first | rfl | contradiction
  · rw [if_neg (nI_nlt (by omega) hp), if_neg hl]
    rfl
/-- another value in the fields of the input -/
theorem RI.put {E : gE} {w : gWd} {a n L k s e q : Nat} {u : Nat → Nat} (h : RI E w a n u L k s e q) (i x : Nat) (hi : i = 3 ∨ i = 4 ∨ i = 5 ∨ i = 6) : ∃ w' : gWd, gpf E w.1 a 5 i (.int (nI x)) = some w'.1 ∧ FS E J22 w w' ∧ RI E w' a n u L (if i = 3 then x else k) (if i = 4 then x else s) (if i = 5 then x else e) (if i = 6 then x else q) := by
  obtain ⟨h1, h2, ⟨g, h3, h4⟩, h5, h6⟩ := h
  rcases hi with rfl | rfl | rfl | rfl
  · obtain ⟨e1, O1, F1⟩ := h1.put (E := E) 3 (.int (nI x)) (Nat.le_of_ble_eq_true rfl) (J := fun t => t = (10, 22, 0)) rfl
    exact ⟨_, e1, F1.mono (fun t z => by rw [z]), O1, h2, ⟨g, h3.fr F1 (t3_ne (by decide)), h4⟩, h5, h6⟩
  · obtain ⟨e1, O1, F1⟩ := h1.put (E := E) 4 (.int (nI x)) (Nat.le_of_ble_eq_true rfl) (J := fun t => t = (10, 22, 0)) rfl
    exact ⟨_, e1, F1.mono (fun t z => by rw [z]), O1, h2, ⟨g, h3.fr F1 (t3_ne (by decide)), h4⟩, h5, h6⟩
  · obtain ⟨e1, O1, F1⟩ := h1.put (E := E) 5 (.int (nI x)) (Nat.le_of_ble_eq_true rfl) (J := fun t => t = (10, 22, 0)) rfl
    exact ⟨_, e1, F1.mono (fun t z => by rw [z]), O1, h2, ⟨g, h3.fr F1 (t3_ne (by decide)), h4⟩, h5, h6⟩
  · obtain ⟨e1, O1, F1⟩ := h1.put (E := E) 6 (.int (nI x)) (Nat.le_of_ble_eq_true rfl) (J := fun t => t = (10, 22, 0)) rfl
    exact ⟨_, e1, F1.mono (fun t z => by rw [z]), O1, h2, ⟨g, h3.fr F1 (t3_ne (by decide)), h4⟩, h5, h6⟩
/-- the input looks at the token that begins at s -/
def RT (E : gE) (w : gWd) (a n : Nat) (u : Nat → Nat) (L s : Nat) : Prop := RI E w a n u L (kd u L s) s (tE u L s) (tNum u L s) ∧ s ≤ L ∧ kd u L s ≠ 1
