/-! the law: all, alike -/
/-- what stands in the dictionary at a place -/
def evf (S : gT) (c i : Nat) : Int32 := xp (kth (tD S c) 19999 i)
def aCol (S : gT) (c : Nat) (s : Nat × (Nat → Int32)) : Nat × (Nat → Int32) := (s.1 + 1 + tR S + dsz (tD S c), fb_put (fb_put (upd s.2 s.1 (nI (dsz (tD S c)))) (tV S c) (s.1 + 1) (tR S)) (evf S c) (s.1 + 1 + tR S) (dsz (tD S c)))
def aCols (S : gT) : Nat → Nat × (Nat → Int32)
  | 0 => (3, upd (upd (upd (fun _ => 0) 0 (nI S.1)) 1 (nI (tR S))) 2 (nI (tK S)))
  | c + 1 => aCol S c (aCols S c)
def aCon (S : gT) (i : Nat) (s : Nat × (Nat → Int32)) : Nat × (Nat → Int32) := (s.1 + 3, upd (upd (upd s.2 s.1 (nI (tFc S i))) (s.1 + 1) (tFv S i)) (s.1 + 1 + 1) (tFd S i))
def aCons (S : gT) : Nat → Nat × (Nat → Int32)
  | 0 => aCols S S.1
  | i + 1 => aCon S i (aCons S i)
def allG (S : gT) : Nat → Int32 := (aCons S (tK S)).2
def allN (S : gT) : Nat := 3 + S.1 * (tR S + 1) + fb_sm (fun c => dsz (tD S c)) S.1 + 3 * tK S
theorem aCols_at (S : gT) : ∀ c, (aCols S c).1 = 3 + c * (tR S + 1) + fb_sm (fun c => dsz (tD S c)) c := by
  intro c
  induction c with
  | zero => show 3 = 3 + 0 * (tR S + 1) + 0; omega
  | succ c ih =>
    show (aCols S c).1 + 1 + tR S + dsz (tD S c) = _
    rw [ih, fb_sm_succ, Nat.succ_mul]
    omega
theorem aCons_at (S : gT) : ∀ i, (aCons S i).1 = 3 + S.1 * (tR S + 1) + fb_sm (fun c => dsz (tD S c)) S.1 + 3 * i := by
  intro i
  induction i with
  | zero => exact aCols_at S S.1
  | succ i ih =>
    show (aCons S i).1 + 3 = _
    rw [ih]
    omega
def RA (E : gE) (l : Nat) (ad : Nat → Nat) (Q : gQ) (q : Nat) (g : Nat → Int32) (w : gWd) : Prop := RW E l ad Q w ∧ ArI E w tL q (allN (qS Q)) g
def LA (E : gE) (l : Nat) (ad : Nat → Nat) (Q : gQ) (q : Nat) (w : gWd) (res : Option (Nat × gS)) : Prop := ∃ w', res = some (q, w'.1) ∧ KP E (fun b => b = q) 0 w w' ∧ RK E w' l ad Q ∧ ArI E w' tL q (allN (qS Q)) (allG (qS Q))
section LAS
variable {E : gE} {l : Nat} {ad : Nat → Nat} {Q : gQ} {w : gWd} {α : Type} {v : α} {q i : Nat} {g : Nat → Int32} {x : Int32}
theorem LA.call {f : Option ((Nat ⊕ α) × gS)} {k : α → gS → Option (Nat × gS)} (h : RA E l ad Q q g w) (hf : XA E w l ad Q (Sum.inr v) f) (kk : ∀ w1, RA E l ad Q q g w1 → LA E l ad Q q w1 (k v w1.1)) : LA E l ad Q q w (ob (gcl w.1 l 10) fun _ => ob f fun x => gtry x (fun _ _ => none) k) := by
  obtain ⟨w1, e1, F1, h1⟩ := hf
  have F2 : KP E (fun _ => False) 0 w w1 := F1.kp
  obtain ⟨w2, e2, F3, h2⟩ := kk w1 ⟨⟨h1, F1.2 _ h.1.2⟩, h.2.fp F2.1 (fun z => z)⟩
  refine ⟨w2, ?_, (F2.mono (fun _ z => z.elim)).tr F3, h2⟩
  rw [ob_e h.1.1.cl, ob_e e1]
  exact e2
theorem LA.ask {f : Option α} {k : α → Option (Nat × gS)} (h : RA E l ad Q q g w) (hf : f = some v) (kk : LA E l ad Q q w (k v)) : LA E l ad Q q w (ob (gcl w.1 l 10) fun _ => ob f k) := by
  obtain ⟨w2, e2, F2, h2⟩ := kk
  refine ⟨w2, ?_, F2, h2⟩
  rw [ob_e h.1.1.cl, ob_e hf]
  exact e2
theorem LA.st {k : gS → Option (Nat × gS)} (h : RA E l ad Q q g w) (hi : i < allN (qS Q)) (hn : allN (qS Q) < 2 ^ 31) (kk : ∀ w1, RA E l ad Q q (upd g i x) w1 → LA E l ad Q q w1 (k w1.1)) : LA E l ad Q q w (ob (gwaI E w.1 q (nI i) x) k) := by
  obtain ⟨e1, A1, -⟩ := h.2.st hi hn x (J := fun t => t = tL) rfl
  obtain ⟨F1, F2⟩ := fp_up (E := E) h.2.1 (.inl (gcy E 0, allN (qS Q), .inl (upd g i x)))
  obtain ⟨w2, e2, F3, h2⟩ := kk _ ⟨⟨h.1.1.tl F1, F2.2 _ h.1.2⟩, A1⟩
  refine ⟨w2, ?_, F2.tr F3, h2⟩
  rw [ob_e e1]
  exact e2
theorem LA.it {c : Prop} {_ : Decidable c} {a b : Option (Nat × gS)} (hc : c) (h : LA E l ad Q q w a) : LA E l ad Q q w (if c then a else b) := by rw [if_pos hc]; exact h
theorem LA.ie {c : Prop} {_ : Decidable c} {a b : Option (Nat × gS)} (hc : ¬ c) (h : LA E l ad Q q w b) : LA E l ad Q q w (if c then a else b) := by rw [if_neg hc]; exact h
variable {c at0 : Nat} {x1 x2 : Int32}
theorem evf_p {S : gT} {c i p : Nat} (p1 : p < 19999) (p2 : tD S c p = true) (p3 : fb_ct (tD S c) p = i) : xp p = evf S c i := by
  unfold evf
  rw [← p3, kth_uq p1 p2]
/-- the entries of a dictionary -/
theorem al_dict (hN : 100000 ≤ gN E) (hG : GQ Q) (hc : c < (qS Q).1) (hn : allN (qS Q) < 2 ^ 31) (hat : at0 + dsz (tD (qS Q) c) ≤ allN (qS Q)) {r_92 : Nat → Int32 → Int32 → Nat → Int32 → Int32 → gS → Option (Nat × gS)}
    (kk : ∀ w, RA E l ad Q q (fb_put g (evf (qS Q) c) at0 (dsz (tD (qS Q) c))) w → LA E l ad Q q w (r_92 l x1 x2 q (nI (at0 + dsz (tD (qS Q) c))) (nI c + 1) w.1)) :
    ∀ (d k m : Nat) (w : gWd), k + d = dsz (tD (qS Q) c) → d < m → RA E l ad Q q (fb_put g (evf (qS Q) c) at0 k) w → LA E l ad Q q w (L_all_146 E r_92 m l x1 x2 q (nI (at0 + k)) (nI c) (nI k) w.1) := by
  have hd := dsz_le (tD (qS Q) c)
  intro d
  induction d with
  | zero =>
    intro k m w hk hm h
    obtain ⟨m, rfl⟩ : ∃ q, m = q + 1 := ⟨m - 1, by omega⟩
    show LA E l ad Q q w (L_all_146_s E r_92 (L_all_146 E r_92 m) l x1 x2 q (nI (at0 + k)) (nI c) (nI k) w.1)
    unfold L_all_146_s
    refine LA.call h (K_dictionarySize hN h.1.1 hG hc) fun w1 h1 => ?_
    refine LA.it (nI_le (by omega) (by omega)) ?_
    obtain rfl : k = dsz (tD (qS Q) c) := by omega
    exact kk w1 h1
  | succ d ih =>
    intro k m w hk hm h
    obtain ⟨m, rfl⟩ : ∃ q, m = q + 1 := ⟨m - 1, by omega⟩
    show LA E l ad Q q w (L_all_146_s E r_92 (L_all_146 E r_92 m) l x1 x2 q (nI (at0 + k)) (nI c) (nI k) w.1)
    unfold L_all_146_s
    refine LA.call h (K_dictionarySize hN h.1.1 hG hc) fun w1 h1 => ?_
    refine LA.ie (nI_ge (by omega) (by omega)) ?_
    obtain ⟨p, p1, p2, p3, hv⟩ := K_dictionaryValue hN h1.1.1 hG hc (i := k) (by omega)
    refine LA.call h1 hv fun w2 h2 => ?_
    refine LA.st h2 (by omega) hn fun w3 h3 => ?_
    rw [evf_p p1 p2 p3, fb_put_succ] at h3
    rw [← nI_succ, ← nI_succ]
    exact ih (k + 1) m w3 (by omega) (by omega) h3
/-- the values of a column -/
theorem al_vals (hN : 100000 ≤ gN E) (hG : GQ Q) (hc : c < (qS Q).1) (hn : allN (qS Q) < 2 ^ 31) (hat : at0 + tR (qS Q) + dsz (tD (qS Q) c) ≤ allN (qS Q)) {r_92 : Nat → Int32 → Int32 → Nat → Int32 → Int32 → gS → Option (Nat × gS)}
    (kk : ∀ w, RA E l ad Q q (fb_put (fb_put g (tV (qS Q) c) at0 (tR (qS Q))) (evf (qS Q) c) (at0 + tR (qS Q)) (dsz (tD (qS Q) c))) w → LA E l ad Q q w (r_92 l x1 (nI (tR (qS Q))) q (nI (at0 + tR (qS Q) + dsz (tD (qS Q) c))) (nI c + 1) w.1)) :
    ∀ (d k m : Nat) (w : gWd), k + d = tR (qS Q) → d < m → RA E l ad Q q (fb_put g (tV (qS Q) c) at0 k) w → LA E l ad Q q w (L_all_115 E r_92 m l x1 (nI (tR (qS Q))) q (nI (at0 + k)) (nI c) (nI k) w.1) := by
  have hd := dsz_le (tD (qS Q) c)
  have h60 := hG.1.2.2.2.1
  intro d
  induction d with
  | zero =>
    intro k m w hk hm h
    obtain ⟨m, rfl⟩ : ∃ q, m = q + 1 := ⟨m - 1, by omega⟩
    show LA E l ad Q q w (L_all_115_s E r_92 (L_all_115 E r_92 m) l x1 (nI (tR (qS Q))) q (nI (at0 + k)) (nI c) (nI k) w.1)
    unfold L_all_115_s
    refine LA.it (nI_le (by omega) (by omega)) ?_
    obtain rfl : k = tR (qS Q) := by omega
    have h9 := al_dict (x1 := x1) (x2 := nI (tR (qS Q))) (at0 := at0 + tR (qS Q)) hN hG hc hn (by omega) kk (dsz (tD (qS Q) c)) 0 (gN E) w (Nat.zero_add _) (by omega) (by rw [fb_put_0]; exact h)
    exact h9
  | succ d ih =>
    intro k m w hk hm h
    obtain ⟨m, rfl⟩ : ∃ q, m = q + 1 := ⟨m - 1, by omega⟩
    show LA E l ad Q q w (L_all_115_s E r_92 (L_all_115 E r_92 m) l x1 (nI (tR (qS Q))) q (nI (at0 + k)) (nI c) (nI k) w.1)
    unfold L_all_115_s
    refine LA.ie (nI_ge (by omega) (by omega)) ?_
    refine LA.call h (K_value hN h.1.1 hG hc (r := k) (by omega)) fun w2 h2 => ?_
    refine LA.st h2 (by omega) hn fun w3 h3 => ?_
    rw [fb_put_succ] at h3
    rw [← nI_succ, ← nI_succ]
    exact ih (k + 1) m w3 (by omega) (by omega) h3
/-- the conditions -/
theorem al_cons (hN : 100000 ≤ gN E) (hG : GQ Q) (hn : allN (qS Q) < 2 ^ 31) :
    ∀ (d i m : Nat) (w : gWd), i + d = tK (qS Q) → d < m → RA E l ad Q q (aCons (qS Q) i).2 w → LA E l ad Q q w (L_all_188 E m l q (nI (aCons (qS Q) i).1) (nI i) w.1) := by
  have hK8 := hG.1.2.2.2.2.2.1
  intro d
  induction d with
  | zero =>
    intro i m w hi hm h
    obtain ⟨m, rfl⟩ : ∃ q, m = q + 1 := ⟨m - 1, by omega⟩
    show LA E l ad Q q w (L_all_188_s E (L_all_188 E m) l q (nI (aCons (qS Q) i).1) (nI i) w.1)
    unfold L_all_188_s
    refine LA.ask h (K_conditionCount hN h.1.1 hG) ?_
    refine LA.it (nI_le (by omega) (by omega)) ?_
    obtain rfl : i = tK (qS Q) := by omega
    exact ⟨w, rfl, KP.rf, h.1.1, h.2⟩
  | succ d ih =>
    intro i m w hi hm h
    obtain ⟨m, rfl⟩ : ∃ q, m = q + 1 := ⟨m - 1, by omega⟩
    have hat := aCons_at (qS Q) i
    have hil : i < tK (qS Q) := by omega
    have hlt : (aCons (qS Q) i).1 + 3 ≤ allN (qS Q) := by unfold allN; omega
    show LA E l ad Q q w (L_all_188_s E (L_all_188 E m) l q (nI (aCons (qS Q) i).1) (nI i) w.1)
    unfold L_all_188_s
    refine LA.ask h (K_conditionCount hN h.1.1 hG) ?_
    refine LA.ie (nI_ge (by omega) (by omega)) ?_
    refine LA.call h (K_conditionColumn hN h.1.1 hG hil) fun w1 h1 => ?_
    refine LA.st h1 (by omega) hn fun w2 h2 => ?_
    refine LA.call h2 (K_conditionValue hN h2.1.1 hG hil) fun w3 h3 => ?_
    rw [← nI_succ]
    refine LA.st h3 (by omega) hn fun w4 h4 => ?_
    refine LA.call h4 (K_conditionDirection hN h4.1.1 hG hil) fun w5 h5 => ?_
    rw [← nI_succ]
    refine LA.st h5 (by omega) hn fun w6 h6 => ?_
    rw [← nI_succ, ← nI_succ]
    exact ih (i + 1) m w6 (by omega) (by omega) h6
theorem al_cols (hN : 100000 ≤ gN E) (hG : GQ Q) (hn : allN (qS Q) < 2 ^ 31) :
    ∀ (d c m : Nat) (w : gWd), c + d = (qS Q).1 → d < m → RA E l ad Q q (aCols (qS Q) c).2 w → LA E l ad Q q w (L_all_92 E m l (nI (qS Q).1) (nI (tR (qS Q))) q (nI (aCols (qS Q) c).1) (nI c) w.1) := by
  have hC6 := hG.1.2.1
  have h60 := hG.1.2.2.2.1
  have hK8 := hG.1.2.2.2.2.2.1
  intro d
  induction d with
  | zero =>
    intro c m w hc hm h
    obtain ⟨m, rfl⟩ : ∃ q, m = q + 1 := ⟨m - 1, by omega⟩
    show LA E l ad Q q w (L_all_92_s E (L_all_92 E m) l (nI (qS Q).1) (nI (tR (qS Q))) q (nI (aCols (qS Q) c).1) (nI c) w.1)
    unfold L_all_92_s
    refine LA.it (nI_le (by omega) (by omega)) ?_
    obtain rfl : c = (qS Q).1 := by omega
    exact al_cons hN hG hn (tK (qS Q)) 0 (gN E) w (Nat.zero_add _) (by omega) h
  | succ d ih =>
    intro c m w hc hm h
    obtain ⟨m, rfl⟩ : ∃ q, m = q + 1 := ⟨m - 1, by omega⟩
    have hcl : c < (qS Q).1 := by omega
    have hat := aCols_at (qS Q) (c + 1)
    have hat2 : (aCols (qS Q) c).1 + 1 + tR (qS Q) + dsz (tD (qS Q) c) = (aCols (qS Q) (c + 1)).1 := rfl
    have hle : (aCols (qS Q) c).1 + 1 + tR (qS Q) + dsz (tD (qS Q) c) ≤ allN (qS Q) := by
      rw [hat2, hat]
      unfold allN
      have m1 : (c + 1) * (tR (qS Q) + 1) ≤ (qS Q).1 * (tR (qS Q) + 1) := Nat.mul_le_mul_right _ hcl
      have m2 : fb_sm (fun c => dsz (tD (qS Q) c)) (c + 1) ≤ fb_sm (fun c => dsz (tD (qS Q) c)) (qS Q).1 := by
        have := fb_sm_mono (fun c => dsz (tD (qS Q) c)) (c + 1) ((qS Q).1 - (c + 1))
        rwa [show c + 1 + ((qS Q).1 - (c + 1)) = (qS Q).1 by omega] at this
      omega
    show LA E l ad Q q w (L_all_92_s E (L_all_92 E m) l (nI (qS Q).1) (nI (tR (qS Q))) q (nI (aCols (qS Q) c).1) (nI c) w.1)
    unfold L_all_92_s
    refine LA.ie (nI_ge (by omega) (by omega)) ?_
    refine LA.call h (K_dictionarySize hN h.1.1 hG hcl) fun w1 h1 => ?_
    refine LA.st h1 (by omega) hn fun w2 h2 => ?_
    rw [← nI_succ]
    exact al_vals (x1 := nI (qS Q).1) (at0 := (aCols (qS Q) c).1 + 1) hN hG hcl hn (by omega) (fun w3 h3 => by
      rw [← nI_succ]
      exact ih (c + 1) m w3 (by omega) (by omega) h3) (tR (qS Q)) 0 (gN E) w2 (Nat.zero_add _) (by omega) (by rw [fb_put_0]; exact h2)
/-- before the array is made -/
def LB (E : gE) (l : Nat) (ad : Nat → Nat) (Q : gQ) (w : gWd) (res : Option (Nat × gS)) : Prop := ∃ w' q, res = some (q, w'.1) ∧ KP E (fun _ => False) 400 w w' ∧ RK E w' l ad Q ∧ ArI E w' tL q (allN (qS Q)) (allG (qS Q)) ∧ w.1.2.1 ≤ q
theorem LB.call {f : Option ((Nat ⊕ α) × gS)} {k : α → gS → Option (Nat × gS)} (h : RK E w l ad Q ∧ RM E w 401) (hf : XA E w l ad Q (Sum.inr v) f) (kk : ∀ w1, (RK E w1 l ad Q ∧ RM E w1 401) → LB E l ad Q w1 (k v w1.1)) : LB E l ad Q w (ob (gcl w.1 l 10) fun _ => ob f fun x => gtry x (fun _ _ => none) k) := by
  obtain ⟨w1, e1, F1, h1⟩ := hf
  have F2 : KP E (fun _ => False) 0 w w1 := F1.kp
  obtain ⟨w2, q, e2, F3, h2, h3, h4⟩ := kk w1 ⟨h1, F1.2 _ h.2⟩
  refine ⟨w2, q, ?_, (F2.tr F3).le (by omega), h2, h3, Nat.le_trans F1.1.1 h4⟩
  rw [ob_e h.1.cl, ob_e e1]
  exact e2
theorem al_sizes (hN : 100000 ≤ gN E) (hG : GQ Q) (hn : allN (qS Q) ≤ 2400) :
    ∀ (d c m : Nat) (w : gWd), c + d = (qS Q).1 → d < m → (RK E w l ad Q ∧ RM E w 401) → LB E l ad Q w (L_all_15 E m l (nI (qS Q).1) (nI (tR (qS Q))) (nI (fb_sm (fun c => dsz (tD (qS Q) c)) c)) (nI c) w.1) := by
  have hC6 := hG.1.2.1
  have h60 := hG.1.2.2.2.1
  have hK8 := hG.1.2.2.2.2.2.1
  intro d
  induction d with
  | zero =>
    intro c m w hc hm h
    obtain ⟨m, rfl⟩ : ∃ q, m = q + 1 := ⟨m - 1, by omega⟩
    show LB E l ad Q w (L_all_15_s E (L_all_15 E m) l (nI (qS Q).1) (nI (tR (qS Q))) (nI (fb_sm (fun c => dsz (tD (qS Q) c)) c)) (nI c) w.1)
    obtain rfl : c = (qS Q).1 := by omega
    unfold L_all_15_s
    rw [if_pos (nI_le (Nat.le_refl _) (by omega))]
    obtain ⟨e1, A1⟩ := fp_naI (n := allN (qS Q)) (v := 1) (u := 400) h.2 (by omega) (by omega) h.1.pos (by omega)
    obtain ⟨F1, F2⟩ := fp_new (E := E) (P := fun _ => False) (n := allN (qS Q)) (u := 400) h.1.pos (.inl (gcy E 0, allN (qS Q), .inl fun _ => 0)) (by omega) (by omega)
    have h1 : RK E (wNew w tL (.inl (gcy E 0, allN (qS Q), .inl fun _ => 0)) (allN (qS Q)) w.2.2) l ad Q := RK.fr (E := E0 E) h.1 F1 (fun _ _ _ _ z => z)
    have hR1 := F2.2 1 h.2
    have hsum : (((3 : Int32) + nI (qS Q).1 * (nI (tR (qS Q)) + 1)) + nI (fb_sm (fun c => dsz (tD (qS Q) c)) (qS Q).1)) + 3 * nI (tK (qS Q)) = nI (allN (qS Q)) := by
      rw [← nI_succ, show (3 : Int32) = nI 3 from rfl, nI_mul, nI_mul, nI_add, nI_add, nI_add]
      rfl
    have key : LA E l ad Q w.1.2.1 (wNew w tL (.inl (gcy E 0, allN (qS Q), .inl fun _ => 0)) (allN (qS Q)) w.2.2) (ob (gwaI E (wNew w tL (.inl (gcy E 0, allN (qS Q), .inl fun _ => 0)) (allN (qS Q)) w.2.2).1 w.1.2.1 (0 : Int32) (nI (qS Q).1)) fun σ60 =>
        ob (gwaI E σ60 w.1.2.1 ((0 : Int32) + 1) (nI (tR (qS Q)))) fun σ62 => ob (gcl σ62 l 10) fun _ => ob (X12_conditionCount_f E σ62 l) fun x64 => ob (gwaI E σ62 w.1.2.1 (((0 : Int32) + 1) + 1) x64) fun σ67 => L_all_92 E (gN E) l (nI (qS Q).1) (nI (tR (qS Q))) w.1.2.1 ((((0 : Int32) + 1) + 1) + 1) (0 : Int32) σ67) := by
      have h3 : 3 ≤ allN (qS Q) := by unfold allN; omega
      refine LA.st (i := 0) (g := fun _ => 0) ⟨⟨h1, hR1⟩, A1⟩ (by omega) (by omega) fun w2 h2 => ?_
      refine LA.st (i := 1) h2 (by omega) (by omega) fun w3 h3 => ?_
      refine LA.ask h3 (K_conditionCount hN h3.1.1 hG) ?_
      refine LA.st (i := 2) h3 (by omega) (by omega) fun w4 h4 => ?_
      exact al_cols hN hG (by omega) (qS Q).1 0 (gN E) w4 (Nat.zero_add _) (by omega) h4
    obtain ⟨w5, e5, F5, h5, A5⟩ := key
    refine ⟨w5, w.1.2.1, ?_, ?_, h5, A5, Nat.le_refl _⟩
    · rw [ob_e h.1.cl, ob_e (K_conditionCount hN h.1 hG), hsum, ob_e e1]
      exact e5
    · have F6 : KP E (fun b => b = w.1.2.1) (400 + 0) w w5 := (F2.mono (fun _ z => z.elim)).tr F5
      exact F6.old (fun a ha z => by omega)
  | succ d ih =>
    intro c m w hc hm h
    obtain ⟨m, rfl⟩ : ∃ q, m = q + 1 := ⟨m - 1, by omega⟩
    show LB E l ad Q w (L_all_15_s E (L_all_15 E m) l (nI (qS Q).1) (nI (tR (qS Q))) (nI (fb_sm (fun c => dsz (tD (qS Q) c)) c)) (nI c) w.1)
    unfold L_all_15_s
    rw [if_neg (nI_ge (by omega) (by omega))]
    refine LB.call h (K_dictionarySize hN h.1 hG (c := c) (by omega)) fun w1 h1 => ?_
    rw [nI_add, ← fb_sm_succ (fun c => dsz (tD (qS Q) c)), ← nI_succ]
    exact ih (c + 1) m w1 (by omega) (by omega) h1
theorem K_all (hN : 100000 ≤ gN E) (hG : GQ Q) (hn : allN (qS Q) ≤ 2400) (h : RK E w l ad Q) (hR : RM E w 401) : LB E l ad Q w (L_all_f E l w.1) := by
  have hC6 := hG.1.2.1
  have h9 := al_sizes (l := l) (ad := ad) hN hG hn (qS Q).1 0 (gN E) w (Nat.zero_add _) (by omega) ⟨h, hR⟩
  unfold L_all_f L_all
  rw [ob_e h.cl, ob_e (K_columnCount hN h hG), ob_e h.cl, ob_e (K_rowCount hN h hG)]
  exact h9
/-- two arrays that hold the same -/
theorem K_alike {a b n : Nat} (hN : 100000 ≤ gN E) (hn : n ≤ 2400) (ha : ArI E w tL a n g) (hb : ArI E w tL b n g) : L_alike_f E w.1 a b = some 1 := by
  have key : ∀ (d i m : Nat), i + d = n → d < m → L_alike_11 E w.1 m a b (nI i) = some 1 := by
    intro d
    induction d with
    | zero =>
      intro i m hi hm
      obtain ⟨m, rfl⟩ : ∃ q, m = q + 1 := ⟨m - 1, by omega⟩
      show L_alike_11_s E w.1 (L_alike_11 E w.1 m) a b (nI i) = _
      unfold L_alike_11_s
      rw [ob_e ha.2.2.len, if_pos (nI_le (by omega) (by omega))]
    | succ d ih =>
      intro i m hi hm
      obtain ⟨m, rfl⟩ : ∃ q, m = q + 1 := ⟨m - 1, by omega⟩
      show L_alike_11_s E w.1 (L_alike_11 E w.1 m) a b (nI i) = _
      unfold L_alike_11_s
      rw [ob_e ha.2.2.len, if_neg (nI_ge (by omega) (by omega)), ob_e (ha.2.2.ld (by omega) (by omega)), ob_e (hb.2.2.ld (by omega) (by omega)), if_pos rfl, ← nI_succ]
      exact ih (i + 1) m (by omega) (by omega)
  unfold L_alike_f L_alike
  rw [ob_e ha.2.2.len, ob_e hb.2.2.len, if_pos rfl]
  exact key n 0 (gN E) (Nat.zero_add _) (by omega)
end LAS
