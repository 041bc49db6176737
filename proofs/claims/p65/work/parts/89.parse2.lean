/-! pure: rows, words, commands as texts -/
theorem i10 : ¬ (1 : Int32) = 0 := by decide
def pB {α β : Type} (r : gPr α) (k : α → Nat → gPr β) : gPr β := match r with
  | .inl e => .inl e
  | .inr (x, s) => k x s
theorem pB_r {α β : Type} {r : gPr α} {k : α → Nat → gPr β} {y : β} {s' : Nat} (h : pB r k = .inr (y, s')) : ∃ x s, r = .inr (x, s) ∧ k x s = .inr (y, s') := by
  cases r with
  | inl e => cases h
  | inr q => exact ⟨q.1, q.2, rfl, h⟩
theorem pB_l {α β : Type} {r : gPr α} {k : α → Nat → gPr β} {e : Nat × Nat} (h : pB r k = .inl e) : r = .inl e ∨ ∃ x s, r = .inr (x, s) ∧ k x s = .inl e := by
  cases r with
  | inl e' => cases h; exact Or.inl rfl
  | inr q => exact Or.inr ⟨q.1, q.2, rfl, h⟩
def pRow (u : Nat → Nat) (L : Nat) : Nat → Nat → gPr (Nat → Int32)
  | 0, s => .inr (fun _ => 0, s)
  | k + 1, s => pB (pInt u L s) fun x s1 => pB (pRow u L k s1) fun r s2 => .inr (fun j => if j = 0 then x else r (j - 1), s2)
theorem sb_neg : ∀ b, b < 256 → 128 ≤ b → sb b < 0 := by decide +kernel
theorem sb_eq {b c : Nat} (hb : b < 256) (hc : c < 128) : sb b = nI c ↔ b = c := by
  by_cases h : b < 128
  · rw [sb_tab b hb, if_pos h]
    exact nI_eqI (by omega) (by omega)
  · have h1 := sb_neg b hb (by omega)
    constructor
    · intro z
      rw [z] at h1
      exact absurd h1 (nI_pos (by omega))
    · intro z
      omega
theorem iw_loop {E : gE} {w : gWd} {a sa n L s : Nat} {u : Nat → Nat} {l : List Nat} (h : RT E w a n u L s) (hs : sOf E sa l) (hl : s + l.length ≤ 700) (hln : s + l.length ≤ n) : ∀ (k i m : Nat), i + k = l.length → k < m → (∀ j, j < i → u (s + j) = l.getD j 0) → X6_isWord_28 E w.1 m a sa (nI i) = some (if ∀ j, j < l.length → u (s + j) = l.getD j 0 then 1 else 0) := by
  have h7 := h.1.2.1
  intro k
  induction k with
  | zero =>
    intro i m hi hm hj
    obtain ⟨m, rfl⟩ : ∃ q, m = q + 1 := ⟨m - 1, by omega⟩
    show X6_isWord_28_s E w.1 (X6_isWord_28 E w.1 m) a sa (nI i) = _
    unfold X6_isWord_28_s
    rw [ob_e hs.cl, ob_e hs.length, if_pos (nI_le (by omega) (by omega)), if_pos (fun j hjj => hj j (by omega))]
  | succ k ih =>
    intro i m hi hm hj
    obtain ⟨m, rfl⟩ : ∃ q, m = q + 1 := ⟨m - 1, by omega⟩
    have hc : l.getD i 0 < 128 := by
      obtain ⟨-, va, g, -, -, -, -, h6⟩ := hs
      exact (h6 i (by omega)).1
    obtain ⟨h1, h2, ⟨g, h3, h4⟩, h5, h6⟩ := h.1
    show X6_isWord_28_s E w.1 (X6_isWord_28 E w.1 m) a sa (nI i) = _
    unfold X6_isWord_28_s
    rw [ob_e hs.cl, ob_e hs.length, if_neg (nI_ge (by omega) (by omega)), ob_e (gfR_o h1.2.2 rfl), ob_e (gfI_o h1.2.2 rfl), nI_add, ob_e (h3.2.2.ld (show s + i < 700 by omega) (by omega)), ob_e hs.cl, ob_e (hs.char (show i < l.length by omega)), h4 _ (by omega)]
    by_cases he : u (s + i) = l.getD i 0
    · rw [if_pos ((sb_eq (h6 _) hc).mpr he), ← nI_succ]
      exact ih (i + 1) m (by omega) (by omega) (fun j hjj => by
        by_cases hz : j = i
        · rw [hz]; exact he
        · exact hj j (by omega))
    · rw [if_neg (fun z => he ((sb_eq (h6 _) hc).mp z)), if_neg (fun z => he (z i (by omega)))]
theorem RT.isWord {E : gE} {w : gWd} {a sa n L s : Nat} {u : Nat → Nat} {l : List Nat} (hN : 100000 ≤ gN E) (h : RT E w a n u L s) (hs : sOf E sa l) : X6_isWord_f E w.1 a sa = some (if isW u L s l = true then 1 else 0) := by
  have h7 := h.1.2.1
  have h8 := h.1.2.2.2.1
  have t1 := tE_le (u := u) h.2.1
  have t2 := tE_ge (u := u) h.2.1
  have hll : l.length < 100 := by
    obtain ⟨-, va, g, -, -, -, h5, -⟩ := hs
    exact h5
  have hk := kd_is (u := u) (L := L) (s := s) 2 (by decide)
  unfold X6_isWord_f X6_isWord X6_isWord_24 isW
  rw [ob_e (gfI_o h.1.1.2.2 rfl)]
  by_cases h2 : kd u L s = 2
  · rw [if_pos (show nI (kd u L s) = (2 : Int32) from hk.mpr h2), ob_e (gfI_o h.1.1.2.2 rfl), ob_e (gfI_o h.1.1.2.2 rfl), ob_e hs.cl, ob_e hs.length, nI_sub t2]
    by_cases h3 : tE u L s - s = l.length
    · rw [if_pos (by rw [h3])]
      rw [show (0 : Int32) = nI 0 from rfl, iw_loop h hs (by omega) (by omega) l.length 0 (gN E) (by omega) (by omega) (fun j hj => by omega)]
      simp only [h2, h3, true_and, decide_eq_true_eq]
      rfl
    · rw [if_neg (fun z => h3 ((nI_eqI (by omega) (by omega)).mp z)), if_neg]
      simp [h3]
  · rw [if_neg (show ¬ nI (kd u L s) = (2 : Int32) from fun z => h2 (hk.mp z)), if_neg]
    simp [h2]
/-- the kind of the command that the word is; 9 if it is none -/
def pKind (u : Nat → Nat) (L s : Nat) : Nat := fa_first (fun q => isW u L s (txtK q)) 9
abbrev gCmd : Type := Nat × Nat × Nat × Int32 × Bool × (Nat → Int32)
def pArgs (u : Nat → Nat) (L C k s : Nat) : gPr gCmd :=
  if k = 0 then pB (pRow u L C s) fun r s1 => .inr ((0, 0, 0, 0, false, r), s1)
  else if k = 1 then pB (pNum u L 0 (C - 1) s) fun x s1 => pB (pNum u L 0 59 s1) fun y s2 => pB (pInt u L s2) fun v s3 => .inr ((1, x, y, v, false, fun _ => 0), s3)
  else if k = 2 then pB (pNum u L 0 (C - 1) s) fun x s1 => .inr ((2, x, 0, 0, isW u L s1 txtD, fun _ => 0), if isW u L s1 txtD = true then tN u L s1 else s1)
  else if k = 6 then pB (pNum u L 0 7 s) fun y s1 => .inr ((6, 0, y, 0, false, fun _ => 0), s1)
  else if k = 7 then .inr ((7, 0, 0, 0, false, fun _ => 0), s)
  else if k = 8 then pB (pNum u L 0 (C - 1) s) fun x s1 => .inr ((8, x, 0, 0, false, fun _ => 0), s1)
  else pB (pNum u L 0 (C - 1) s) fun x s1 => pB (pInt u L s1) fun v s2 => .inr ((k, x, 0, v, false, fun _ => 0), s2)
def pScr (u : Nat → Nat) (L C : Nat) : Nat → Nat → gPr (Nat × (Nat → gCmd))
  | 0, s => if kd u L s = 0 then .inr ((0, fun _ => (0, 0, 0, 0, false, fun _ => 0)), s) else if pKind u L s = 9 then .inl (1, s) else .inl (3, s)
  | k + 1, s => if kd u L s = 0 then .inr ((0, fun _ => (0, 0, 0, 0, false, fun _ => 0)), s) else if pKind u L s = 9 then .inl (1, s) else
    pB (pArgs u L C (pKind u L s) (tN u L s)) fun cm s1 => pB (pSemi u L s1) fun _ s2 => pB (pScr u L C k s2) fun r s3 => .inr ((r.1 + 1, fun i => if i = 0 then cm else r.2 (i - 1)), s3)
def pExtra (u : Nat → Nat) (L s : Nat) : Nat × Nat := if kd u L s = 5 then (3, s) else if kd u L s = 3 then (if tNum u L s ≤ 9999 then (3, s) else (2, s)) else (1, s)
def pTab (u : Nat → Nat) (L C : Nat) : Nat → Nat → gPr (Nat × (Nat → Int32))
  | 0, s => if kd u L s = 0 then .inr ((0, fun _ => 0), s) else .inl (pExtra u L s)
  | k + 1, s => if kd u L s = 0 then .inr ((0, fun _ => 0), s) else
    pB (pRow u L C s) fun r s1 => pB (pSemi u L s1) fun _ s2 => pB (pTab u L C k s2) fun q s3 => .inr ((q.1 + 1, fun j => if j < C then r j else q.2 (j - C)), s3)
def pTable (u : Nat → Nat) (L s : Nat) : gPr (Nat × Nat × (Nat → Int32)) :=
  if isW u L s txtT = true then pB (pNum u L 1 6 (tN u L s)) fun C s1 => pB (pSemi u L s1) fun _ s2 => pB (pTab u L C 60 s2) fun q s3 => .inr ((C, q.1, q.2), s3) else .inl (1, s)
/-- a row with nothing behind it -/
def pRow1 (u : Nat → Nat) (L C s : Nat) : gPr (Nat → Int32) := pB (pRow u L C s) fun r s1 => if kd u L s1 = 0 then .inr (r, s1) else .inl (1, s1)
section PAS2
variable {E : gE} {a ia n L : Nat} {u : Nat → Nat} {er of ro cc : Int32}
theorem putS {r' : Nat → Int32} {g : Nat → Int32} {x : Int32} {p k : Nat} : fb_put (upd g p x) r' (p + 1) k = fb_put g (fun j => if j = 0 then x else r' (j - 1)) p (k + 1) := by
  funext j
  show (if p + 1 ≤ j ∧ j < p + 1 + k then r' (j - (p + 1)) else if j = p then x else g j) = (if p ≤ j ∧ j < p + (k + 1) then (if j - p = 0 then x else r' (j - p - 1)) else g j)
  by_cases h1 : j = p
  · rw [if_neg (by omega), if_pos h1, if_pos (by omega), if_pos (by omega)]
  · by_cases h2 : p + 1 ≤ j ∧ j < p + 1 + k
    · rw [if_pos h2, if_pos (by omega), if_neg (by omega), show j - (p + 1) = j - p - 1 by omega]
    · rw [if_neg h2, if_neg h1, if_neg (by omega)]
theorem tr_ok (hN : 100000 ≤ gN E) {ta first nn C : Nat} {tt : Nat × Nat × Nat} (htt : ¬ JQ tt) (hC : C ≤ 6) (hf : first + C ≤ nn) (hnn : nn < 2 ^ 31) : ∀ (k i m s : Nat) (w : gWd) (g : Nat → Int32) (nu : Int32), i + k = C → k < m → PA E w a ia n u L s er of nu (nI C) ro cc → ArI E w tt ta nn g → ∀ r s', pRow u L k s = .inr (r, s') →
    ∃ w' nu', X9_takeRow_2 E m a ta (nI first) (nI i) w.1 = some (1, w'.1) ∧ FS E (fun t => JQ t ∨ t = tt) w w' ∧ PA E w' a ia n u L s' er of nu' (nI C) ro cc ∧ ArI E w' tt ta nn (fb_put g r (first + i) k) := by
  intro k
  induction k with
  | zero =>
    intro i m s w g nu hi hm h hA r s' hp
    obtain ⟨m, rfl⟩ : ∃ q, m = q + 1 := ⟨m - 1, by omega⟩
    cases hp
    refine ⟨w, nu, ?_, FS.rf, h, by rw [fb_put_0]; exact hA⟩
    show X9_takeRow_2_s E (X9_takeRow_2 E m) a ta (nI first) (nI i) w.1 = _
    unfold X9_takeRow_2_s
    rw [ob_e (gfI_o h.1.2.2 rfl), if_pos (nI_le (by omega) (by omega))]
  | succ k ih =>
    intro i m s w g nu hi hm h hA r s' hp
    obtain ⟨m, rfl⟩ : ∃ q, m = q + 1 := ⟨m - 1, by omega⟩
    obtain ⟨x, s1, p1, hp⟩ := pB_r hp
    obtain ⟨r', s2, p2, hp⟩ := pB_r hp
    cases hp
    obtain ⟨w1, e1, F1, P1⟩ := h.int hN p1
    have A1 := hA.fr F1 htt
    obtain ⟨e2, A2, F2⟩ := A1.st (i := first + i) (by omega) hnn x (J := fun t => t = tt) rfl
    have P2 := P1.fr F2 (fun z => htt (Or.inl z.symm)) (fun κ z => htt (Or.inr (by rw [← z])))
    obtain ⟨w3, nu', e3, F3, P3, A3⟩ := ih (i + 1) m s1 _ _ x (by omega) (by omega) P2 A2 r' s' p2
    refine ⟨w3, nu', ?_, (F1.mono (fun t z => Or.inl z)).trans ((F2.mono (fun t z => Or.inr z)).trans F3), P3, ?_⟩
    · show X9_takeRow_2_s E (X9_takeRow_2 E m) a ta (nI first) (nI i) w.1 = _
      unfold X9_takeRow_2_s
      rw [ob_e (gfI_o h.1.2.2 rfl), if_neg (nI_ge (by omega) (by omega)), ob_e h.cl, ob_e e1]
      rw [if_neg i10, ob_e (gfI_o P1.1.2.2 rfl), nI_add, ob_e e2, ← nI_succ]
      exact e3
    · rw [← putS]
      exact A3
theorem tr_no (hN : 100000 ≤ gN E) {ta first nn C : Nat} {tt : Nat × Nat × Nat} (htt : ¬ JQ tt) (hC : C ≤ 6) (hf : first + C ≤ nn) (hnn : nn < 2 ^ 31) : ∀ (k i m s : Nat) (w : gWd) (g : Nat → Int32) (nu : Int32), i + k = C → k < m → PA E w a ia n u L s er of nu (nI C) ro cc → ArI E w tt ta nn g → ∀ c o, pRow u L k s = .inl (c, o) →
    ∃ w' s' nu' g', X9_takeRow_2 E m a ta (nI first) (nI i) w.1 = some (0, w'.1) ∧ FS E (fun t => JQ t ∨ t = tt) w w' ∧ PA E w' a ia n u L s' (nI c) (nI o) nu' (nI C) ro cc ∧ ArI E w' tt ta nn g' := by
  intro k
  induction k with
  | zero =>
    intro i m s w g nu hi hm h hA c o hp
    cases hp
  | succ k ih =>
    intro i m s w g nu hi hm h hA c o hp
    obtain ⟨m, rfl⟩ : ∃ q, m = q + 1 := ⟨m - 1, by omega⟩
    rcases pB_l hp with p1 | ⟨x, s1, p1, hp⟩
    · obtain ⟨w1, s1, nu', e1, F1, P1⟩ := h.intF hN p1
      refine ⟨w1, s1, nu', g, ?_, F1.mono (fun t z => Or.inl z), P1, hA.fr F1 htt⟩
      show X9_takeRow_2_s E (X9_takeRow_2 E m) a ta (nI first) (nI i) w.1 = _
      unfold X9_takeRow_2_s
      rw [ob_e (gfI_o h.1.2.2 rfl), if_neg (nI_ge (by omega) (by omega)), ob_e h.cl, ob_e e1]
      rw [if_pos rfl]
    · rcases pB_l hp with p2 | ⟨r', s2, p2, hp⟩
      · obtain ⟨w1, e1, F1, P1⟩ := h.int hN p1
        have A1 := hA.fr F1 htt
        obtain ⟨e2, A2, F2⟩ := A1.st (i := first + i) (by omega) hnn x (J := fun t => t = tt) rfl
        have P2 := P1.fr F2 (fun z => htt (Or.inl z.symm)) (fun κ z => htt (Or.inr (by rw [← z])))
        obtain ⟨w3, s3, nu', g', e3, F3, P3, A3⟩ := ih (i + 1) m s1 _ _ x (by omega) (by omega) P2 A2 c o p2
        refine ⟨w3, s3, nu', g', ?_, (F1.mono (fun t z => Or.inl z)).trans ((F2.mono (fun t z => Or.inr z)).trans F3), P3, A3⟩
        show X9_takeRow_2_s E (X9_takeRow_2 E m) a ta (nI first) (nI i) w.1 = _
        unfold X9_takeRow_2_s
        rw [ob_e (gfI_o h.1.2.2 rfl), if_neg (nI_ge (by omega) (by omega)), ob_e h.cl, ob_e e1]
        rw [if_neg i10, ob_e (gfI_o P1.1.2.2 rfl), nI_add, ob_e e2, ← nI_succ]
        exact e3
      · cases hp
theorem PA.row (hN : 100000 ≤ gN E) {ta first nn C s : Nat} {w : gWd} {g : Nat → Int32} {nu : Int32} {tt : Nat × Nat × Nat} (htt : ¬ JQ tt) (hC : C ≤ 6) (hf : first + C ≤ nn) (hnn : nn < 2 ^ 31) (h : PA E w a ia n u L s er of nu (nI C) ro cc) (hA : ArI E w tt ta nn g) {r : Nat → Int32} {s' : Nat} (hp : pRow u L C s = .inr (r, s')) :
    ∃ w' nu', X9_takeRow_f E a ta (nI first) w.1 = some (1, w'.1) ∧ FS E (fun t => JQ t ∨ t = tt) w w' ∧ PA E w' a ia n u L s' er of nu' (nI C) ro cc ∧ ArI E w' tt ta nn (fb_put g r first C) :=
  tr_ok hN htt hC hf hnn C 0 (gN E) s w g nu (by omega) (by omega) h hA r s' hp
theorem PA.rowF (hN : 100000 ≤ gN E) {ta first nn C s : Nat} {w : gWd} {g : Nat → Int32} {nu : Int32} {tt : Nat × Nat × Nat} (htt : ¬ JQ tt) (hC : C ≤ 6) (hf : first + C ≤ nn) (hnn : nn < 2 ^ 31) (h : PA E w a ia n u L s er of nu (nI C) ro cc) (hA : ArI E w tt ta nn g) {c o : Nat} (hp : pRow u L C s = .inl (c, o)) :
    ∃ w' s' nu' g', X9_takeRow_f E a ta (nI first) w.1 = some (0, w'.1) ∧ FS E (fun t => JQ t ∨ t = tt) w w' ∧ PA E w' a ia n u L s' (nI c) (nI o) nu' (nI C) ro cc ∧ ArI E w' tt ta nn g' :=
  tr_no hN htt hC hf hnn C 0 (gN E) s w g nu (by omega) (by omega) h hA c o hp
end PAS2
