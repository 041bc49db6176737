/-! pure: the reference reads numbers and rows -/
/-- a number is looked at: the mode, the value -/
def lkm (u : Nat → Nat) (L lo hi : Nat) (t : gMd) : gMd := match t with
  | .inl p => .inl p
  | .inr s => match pNum u L lo hi s with
    | .inl p => .inl p
    | .inr _ => .inr s
def lkv (u : Nat → Nat) (L lo hi : Nat) (t : gMd) : Nat := match t with
  | .inl _ => lo
  | .inr s => match pNum u L lo hi s with
    | .inl _ => lo
    | .inr q => q.1
def iv (u : Nat → Nat) (L : Nat) (t : gMd) : Int32 := match t with
  | .inl _ => 0
  | .inr s => match pInt u L s with
    | .inl _ => 0
    | .inr q => q.1
theorem lkm_adv (u : Nat → Nat) (L lo hi : Nat) (t : gMd) : adv u L (lkm u L lo hi t) = mdg (pNum u L lo hi) t := by
  cases t with
  | inl p => rfl
  | inr s =>
    show adv u L (match pNum u L lo hi s with
      | .inl p => .inl p
      | .inr _ => .inr s) = mdf (pNum u L lo hi s)
    unfold pNum
    by_cases h3 : kd u L s = 3
    · rw [if_pos h3]
      by_cases h : tNum u L s < lo ∨ hi < tNum u L s
      · rw [if_pos h]
        rfl
      · rw [if_neg h]
        rfl
    · rw [if_neg h3]
      rfl
section MM
variable {E : gE} {w : gWd} {m ro L : Nat} {fi0 : Nat → Int32} {G : Nat → Nat → Int32} {u : Nat → Nat} {t : gMd}
theorem PQ.errN {p : Nat × Nat} (h : PQ E w m ro fi0 G u L (.inl p)) : ∃ x, gfI w.1 m 11 22 = some x ∧ ¬ x = 0 := by
  obtain ⟨fi, h1, p1, q1, d1⟩ := h
  exact ⟨fi 22, gfI_o (x := fi 22) h1.1.2.2 rfl, d1.e22⟩
theorem PQ.err0 {s : Nat} (h : PQ E w m ro fi0 G u L (.inr s)) : gfI w.1 m 11 22 = some 0 := by
  obtain ⟨fi, h1, p1, q1, d1⟩ := h
  rw [← d1.2]
  exact gfI_o (x := fi 22) h1.1.2.2 rfl
theorem PQ.val (h : PQ E w m ro fi0 G u L t) (hN : 100000 ≤ gN E) (hB : BU G u L) : ∃ v, X13_value__f E w.1 m = some (nI v) ∧ v ≤ 100000300 ∧ ∀ s, t = .inr s → v = if kd u L s = 3 then dv u s (tE u L s - s) else 0 := by
  obtain ⟨fi, h1, p1, q1, d1⟩ := h
  have hb : ∀ s, (if kd u L s = 3 then dv u s (tE u L s - s) else 0) ≤ 100000300 := fun s => by
    split
    · exact dv_le u s hB.2.1 _
    · omega
  cases t with
  | inl p =>
    obtain ⟨s, hT⟩ := d1.ts
    exact ⟨_, val_u h1 hN hB hT, hb s, fun s z => by cases z⟩
  | inr s => exact ⟨_, val_u h1 hN hB d1.1, hb s, fun s' z => by cases z; rfl⟩
theorem in_nn {σ : gS} {v lo hi : Nat} (hv : v < 2 ^ 31) (hlo : lo < 2 ^ 31) (hhi : hi < 2 ^ 31) : X13_inRange_f E σ (nI v) (nI lo) (nI hi) = some (if lo ≤ v ∧ v ≤ hi then 1 else 0) := by
  rw [in_f, nI_toInt hv, nI_toInt hlo, nI_toInt hhi]
  by_cases h : lo ≤ v ∧ v ≤ hi
  · rw [if_pos h, if_pos (by omega)]
  · rw [if_neg h, if_neg (by omega)]
theorem PQ.look14 (h : PQ E w m ro fi0 G u L t) (hN : 100000 ≤ gN E) (hB : BU G u L) {lo hi : Nat} (hhi : hi ≤ 9999) (hlo : lo ≤ hi) {b : Int32} (hb : ∀ s, t = .inr s → (b = 0 ↔ ¬ kd u L s = 3)) : ∃ w', X13_look_14 E m (nI lo) (nI hi) b m w.1 = some (nI (lkv u L lo hi t), w'.1) ∧ FS E J30 w w' ∧ PQ E w' m ro fi0 G u L (lkm u L lo hi t) := by
  obtain ⟨w1, e1, F1, h1⟩ := h.check b (c := 1) (by decide)
  have e1 : X13_check_f E m b (1 : Int32) w.1 = some w1.1 := e1
  obtain ⟨v, e2, hv, hv2⟩ := h1.val hN hB
  obtain ⟨w2, e3, F2, h2⟩ := h1.check (if lo ≤ v ∧ v ≤ hi then 1 else 0) (c := 2) (by decide)
  have e3 : X13_check_f E m _ (2 : Int32) w1.1 = some w2.1 := e3
  have hfirst : X13_look_14 E m (nI lo) (nI hi) b m w.1 = ob (gfI w2.1 m 11 22) fun x12 => if x12 = 0 then some (nI v, w2.1) else some (nI lo, w2.1) := by
    unfold X13_look_14
    rw [ob_e h.cl, ob_e e1, ob_e h1.cl, ob_e e2, ob_e (in_nn (by omega) (by omega) (by omega)), ob_e h1.cl, ob_e e3]
  have bad : ∀ p, chk (if lo ≤ v ∧ v ≤ hi then 1 else 0) 2 (chk b 1 t) = .inl p → lkm u L lo hi t = .inl p → lkv u L lo hi t = lo → ∃ w', X13_look_14 E m (nI lo) (nI hi) b m w.1 = some (nI (lkv u L lo hi t), w'.1) ∧ FS E J30 w w' ∧ PQ E w' m ro fi0 G u L (lkm u L lo hi t) := fun p z1 z2 z3 => by
    rw [z1] at h2
    obtain ⟨x, x1, x2⟩ := h2.errN
    rw [z2, z3]
    refine ⟨w2, ?_, F1.trans F2, h2⟩
    rw [hfirst, ob_e x1, if_neg x2]
  cases t with
  | inl p => exact bad p rfl rfl rfl
  | inr s =>
    have hbs := hb s rfl
    by_cases h3 : kd u L s = 3
    · have hb0 : ¬ b = 0 := fun z => (hbs.mp z) h3
      have c1 : chk b 1 (.inr s) = .inr s := if_neg hb0
      have hvv := hv2 s c1
      rw [if_pos h3] at hvv
      have hn : tNum u L s = dg u s (tE u L s - s) := if_pos h3
      have hdd := dv_dg u s (tE u L s - s)
      rw [← hvv, ← hn] at hdd
      by_cases hin : lo ≤ v ∧ v ≤ hi
      · have hte : v = tNum u L s := by omega
        have hp : pNum u L lo hi s = .inr (tNum u L s, tN u L s) := by
          unfold pNum
          rw [if_pos h3, if_neg (by omega)]
        have k1 : lkm u L lo hi (.inr s) = .inr s := by
          show (match pNum u L lo hi s with
            | .inl p => .inl p
            | .inr _ => .inr s : gMd) = _
          rw [hp]
        have k2 : lkv u L lo hi (.inr s) = v := by
          show (match pNum u L lo hi s with
            | .inl _ => lo
            | .inr q => q.1) = _
          rw [hp, hte]
        rw [c1, if_pos hin] at h2
        have h2 : PQ E w2 m ro fi0 G u L (.inr s) := h2
        rw [k1, k2]
        refine ⟨w2, ?_, F1.trans F2, h2⟩
        rw [hfirst, ob_e h2.err0, if_pos rfl]
      · have hp : pNum u L lo hi s = .inl (2, s) := by
          unfold pNum
          rw [if_pos h3, if_pos (by omega)]
        refine bad (2, s) ?_ ?_ ?_
        · rw [c1, if_neg hin]
          rfl
        · show (match pNum u L lo hi s with
            | .inl p => .inl p
            | .inr _ => .inr s : gMd) = _
          rw [hp]
        · show (match pNum u L lo hi s with
            | .inl _ => lo
            | .inr q => q.1) = _
          rw [hp]
    · have hb0 : b = 0 := hbs.mpr h3
      have hp : pNum u L lo hi s = .inl (1, s) := by
        unfold pNum
        rw [if_neg h3]
      refine bad (1, s) ?_ ?_ ?_
      · have c1 : chk b 1 (.inr s) = .inl (1, s) := if_pos hb0
        rw [c1]
        rfl
      · show (match pNum u L lo hi s with
          | .inl p => .inl p
          | .inr _ => .inr s : gMd) = _
        rw [hp]
      · show (match pNum u L lo hi s with
          | .inl _ => lo
          | .inr q => q.1) = _
        rw [hp]
theorem PQ.number (h : PQ E w m ro fi0 G u L t) (hN : 100000 ≤ gN E) (hB : BU G u L) {lo hi : Nat} (hhi : hi ≤ 9999) (hlo : lo ≤ hi) : ∃ w', X13_readNumber_f E m (nI lo) (nI hi) w.1 = some (nI (lkv u L lo hi t), w'.1) ∧ FS E J30 w w' ∧ PQ E w' m ro fi0 G u L (mdg (pNum u L lo hi) t) := by
  have hl : ∃ w', X13_look_f E m (nI lo) (nI hi) w.1 = some (nI (lkv u L lo hi t), w'.1) ∧ FS E J30 w w' ∧ PQ E w' m ro fi0 G u L (lkm u L lo hi t) := by
    obtain ⟨fi, h1, p1, q1, d1⟩ := id h
    obtain ⟨s0, hT⟩ := d1.ts
    have r21 : gfI w.1 m 11 21 = some (fi 21) := gfI_o (x := fi 21) h1.1.2.2 rfl
    have ht := tkn_le (kd u L s0)
    rw [hT.2.2.2.1] at r21
    unfold X13_look_f X13_look
    rw [ob_e r21]
    have hss : ∀ s, t = .inr s → tkn (kd u L s) = tkn (kd u L s0) := fun s z => by
      subst z
      have e := d1.1.2.2.2.1
      rw [hT.2.2.2.1] at e
      have := tkn_le (kd u L s)
      exact ((nI_eqI (by omega) (by omega)).mp e).symm
    by_cases z : tkn (kd u L s0) = 2
    · rw [if_pos (show nI (tkn (kd u L s0)) = (2 : Int32) from by rw [z]; rfl)]
      exact h.look14 hN hB hhi hlo fun s zs => ⟨fun y => absurd y i10, fun y => absurd ((tkn_2 _).mp ((hss s zs).trans z)) y⟩
    · rw [if_neg (show ¬ nI (tkn (kd u L s0)) = (2 : Int32) from fun y => z ((nI_eqI (b := 2) (by omega) (by omega)).mp y))]
      exact h.look14 hN hB hhi hlo fun s zs => ⟨fun _ y => z ((hss s zs).symm.trans ((tkn_2 _).mpr y)), fun _ => rfl⟩
  obtain ⟨w1, e1, F1, h1⟩ := hl
  obtain ⟨w2, e2, F2, h2⟩ := h1.advance hN hB
  rw [lkm_adv] at h2
  refine ⟨w2, ?_, F1.trans F2, h2⟩
  unfold X13_readNumber_f X13_readNumber
  rw [ob_e h.cl, ob_e e1, ob_e h1.cl, ob_e e2]
theorem PQ.integer (h : PQ E w m ro fi0 G u L t) (hN : 100000 ≤ gN E) (hB : BU G u L) : ∃ w', X13_readInteger_f E m w.1 = some (iv u L t, w'.1) ∧ FS E J30 w w' ∧ PQ E w' m ro fi0 G u L (mdg (pInt u L) t) := by
  have hs := h.sym hB (c := 45) (K := 5) (by decide) bk_5 (Or.inr rfl)
  have hs : X13_isSymbol_f E w.1 m (45 : Int32) = some (sy u L 5 t) := hs
  have key : ∀ s, match pNum u L 0 9999 s with
      | .inl p => mdf (pNum u L 0 9999 s) = .inl p ∧ lkv u L 0 9999 (.inr s) = 0
      | .inr q => mdf (pNum u L 0 9999 s) = .inr q.2 ∧ lkv u L 0 9999 (.inr s) = q.1 := fun s => by
    have e2 : lkv u L 0 9999 (.inr s) = match pNum u L 0 9999 s with
      | .inl _ => 0
      | .inr q => q.1 := rfl
    rw [e2]
    unfold mdf
    cases pNum u L 0 9999 s with
    | inl p => exact ⟨rfl, rfl⟩
    | inr q => exact ⟨rfl, rfl⟩
  unfold X13_readInteger_f X13_readInteger X13_readInteger_15
  rw [ob_e h.cl, ob_e hs]
  by_cases z : sy u L 5 t = 0
  · obtain ⟨w1, e1, F1, h1⟩ := h.number hN hB (lo := 0) (hi := 9999) (by omega) (by omega)
    have e1 : X13_readNumber_f E m (0 : Int32) (9999 : Int32) w.1 = some (nI (lkv u L 0 9999 t), w1.1) := e1
    rw [if_pos z, ob_e h.cl, ob_e e1, if_pos z]
    cases t with
    | inl p => exact ⟨w1, rfl, F1, h1⟩
    | inr s =>
      have k5 : ¬ kd u L s = 5 := fun y => by
        have : sy u L 5 (.inr s) = 1 := if_pos y
        rw [this] at z
        exact i10 z
      have hk := key s
      have hp : pInt u L s = pInt1 u L s := by
        unfold pInt
        rw [if_neg k5]
      have h1 : PQ E w1 m ro fi0 G u L (mdf (pNum u L 0 9999 s)) := h1
      have e2 : iv u L (.inr s) = nI (lkv u L 0 9999 (.inr s)) ∧ mdf (pInt u L s) = mdf (pNum u L 0 9999 s) := by
        unfold iv
        simp only
        rw [hp]
        unfold pInt1
        cases hpn : pNum u L 0 9999 s with
        | inl p =>
          rw [hpn] at hk
          exact ⟨by rw [hk.2]; rfl, rfl⟩
        | inr q =>
          rw [hpn] at hk
          exact ⟨by rw [hk.2], rfl⟩
      show ∃ w', some (nI (lkv u L 0 9999 (.inr s)), w1.1) = some (iv u L (.inr s), w'.1) ∧ _ ∧ PQ E w' m ro fi0 G u L (mdf (pInt u L s))
      rw [e2.1, e2.2]
      exact ⟨w1, rfl, F1, h1⟩
  · cases t with
    | inl p => exact absurd rfl z
    | inr s =>
      have k5 : kd u L s = 5 := by
        by_cases y : kd u L s = 5
        · exact y
        · exact absurd (if_neg y) z
      obtain ⟨w0, e0, F0, h0⟩ := h.advance hN hB
      have h0 : PQ E w0 m ro fi0 G u L (.inr (tN u L s)) := h0
      obtain ⟨w1, e1, F1, h1⟩ := h0.number hN hB (lo := 0) (hi := 9999) (by omega) (by omega)
      have e1 : X13_readNumber_f E m (0 : Int32) (9999 : Int32) w0.1 = some (nI (lkv u L 0 9999 (.inr (tN u L s))), w1.1) := e1
      rw [if_neg z, ob_e h.cl, ob_e e0, ob_e h0.cl, ob_e e1, if_neg z]
      have hk := key (tN u L s)
      have h1 : PQ E w1 m ro fi0 G u L (mdf (pNum u L 0 9999 (tN u L s))) := h1
      have e2 : iv u L (.inr s) = -nI (lkv u L 0 9999 (.inr (tN u L s))) ∧ mdf (pInt u L s) = mdf (pNum u L 0 9999 (tN u L s)) := by
        unfold iv
        simp only
        unfold pInt
        rw [if_pos k5]
        cases hpn : pNum u L 0 9999 (tN u L s) with
        | inl p =>
          rw [hpn] at hk
          exact ⟨by rw [hk.2]; rfl, rfl⟩
        | inr q =>
          rw [hpn] at hk
          exact ⟨by rw [hk.2], rfl⟩
      show ∃ w', some (-nI (lkv u L 0 9999 (.inr (tN u L s))), w1.1) = some (iv u L (.inr s), w'.1) ∧ _ ∧ PQ E w' m ro fi0 G u L (mdf (pInt u L s))
      rw [e2.1, e2.2]
      exact ⟨w1, rfl, F0.trans F1, h1⟩
end MM
