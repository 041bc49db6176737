/-! pure: the law's world -/
def ArD (E : gE) (w : gWd) (t : Nat × Nat × Nat) (a n : Nat) (g : Nat → UInt64) : Prop := w.2.1 a = t ∧ a < w.1.2.1 ∧ w.1.1 a = .inl (gcy E 3, n, .inr (.inr (.inr (.inl g))))
theorem ArD.fr {E : gE} {J : Nat × Nat × Nat → Prop} {w w' : gWd} {t : Nat × Nat × Nat} {a n : Nat} {g : Nat → UInt64} (h : ArD E w t a n g) (hF : FS E J w w') (hj : ¬ J t) : ArD E w' t a n g := by
  obtain ⟨h1, h2, h3⟩ := hF.at h.2.1 h.1 hj
  exact ⟨h2, h3, by rw [h1]; exact h.2.2⟩
theorem ArD.ld {E : gE} {w : gWd} {t : Nat × Nat × Nat} {a : Nat} {g : Nat → UInt64} (h : ArD E w t a 1 g) : graD E w.1 a (0 : Int32) = some (g 0) := by
  show graD E w.1 a (nI 0) = _
  have h2 := nI_in (c := 0) (N := 1) (by omega) (by omega)
  unfold graD
  rw [h.2.2]
  simp only [true_and]
  rw [if_pos h2, nI_clamp (by omega)]
theorem ArD.st {E : gE} {w : gWd} {t : Nat × Nat × Nat} {a : Nat} {g : Nat → UInt64} (h : ArD E w t a 1 g) (x : UInt64) {J : Nat × Nat × Nat → Prop} (hJ : J t) : ∃ w', gwaD E w.1 a (0 : Int32) x = some w'.1 ∧ (∃ g', ArD E w' t a 1 g' ∧ g' 0 = x) ∧ FS E J w w' := by
  refine ⟨wUp w a (.inl (gcy E 3, 1, .inr (.inr (.inr (.inl (vf_upd g 0 x)))))), ?_, ⟨vf_upd g 0 x, ⟨h.1, h.2.1, wUp_at⟩, if_pos rfl⟩, FS.up (by rw [h.1]; exact hJ)⟩
  show gwaD E w.1 a (nI 0) x = _
  have h2 := nI_in (c := 0) (N := 1) (by omega) (by omega)
  unfold gwaD
  rw [h.2.2]
  simp only [true_and]
  rw [if_pos h2, nI_clamp (by omega)]
  rfl
/-- the class's object, the reference, the law's two arrays -/
def LW (E : gE) (w : gWd) (l1 l2 l3 l4 : Nat) (ad : Nat → Nat) (Q : gQ) : Prop := RK E w l1 ad Q ∧ (∃ th, RX E w l2 th Q) ∧ GQ Q ∧ (∃ f, ArJ E w (50, 40, 0) l3 1 f) ∧ ∃ f, ArD E w (51, 40, 0) l4 1 f
/-- room for one exception is spent at most -/
def KX (E : gE) (w w' : gWd) : Prop := ∀ y, RM E w (y + 1) → RM E w' y
/-- the script's ints behind the call's first -/
def SC (E : gE) (l0 p : Nat) (a b c d e : Int32) : Prop := (∀ σ, graI E 0 σ l0 (nI p + (1 : Int32)) = some a) ∧ (∀ σ, graI E 0 σ l0 (nI p + (2 : Int32)) = some b) ∧ (∀ σ, graI E 0 σ l0 (nI p + (3 : Int32)) = some c) ∧ (∀ σ, graI E 0 σ l0 (nI p + (4 : Int32)) = some d) ∧ ∀ σ, graI E 0 σ l0 (nI p + (5 : Int32)) = some e
theorem FS.kx {E : gE} {J : Nat × Nat × Nat → Prop} {w w' : gWd} (h : FS E J w w') : KX E w w' := fun _ hy => h.2.2.2 _ (hy.dn (Nat.le_succ _))
theorem KX.fs {E : gE} {J : Nat × Nat × Nat → Prop} {w w1 w2 : gWd} (h : KX E w w1) (h2 : FS E J w1 w2) : KX E w w2 := fun _ hy => h2.2.2.2 _ (h _ hy)
theorem cmp_rf (x : Int64) : lg_cmp x x = 0 := by
  unfold lg_cmp
  rw [if_neg (show ¬ x > x from Int64.lt_irrefl), if_pos rfl]
/-- the law's answer compared -/
def tlJ (E : gE) (l2 l3 : Nat) (k : Int32) (v : Int64) (σ : gS) (nx : gS → Option (Int32 × gS)) : Option (Int32 × gS) := ob (gcl σ l2 11) fun _ => ob (X13_thrown_f E σ l2) fun x37 => if x37 = k then if k = 0 then ob (graJ E σ l3 (0 : Int32)) fun x40 => if lg_cmp x40 v = 0 then nx σ else some ((0 : Int32), σ) else nx σ else some ((0 : Int32), σ)
/-- class and reference answer alike -/
def AGR {α : Type} (E : gE) (w : gWd) (l1 l2 : Nat) (ad : Nat → Nat) (Q : gQ) (fk : Nat → gS → Option (Int32 × gS)) (cX : Option ((Nat ⊕ α) × gS)) (cM : gS → Option (α × gS)) : Prop :=
  (∃ v Q', GQ Q' ∧ XA E w l1 ad Q' (Sum.inr v) cX ∧ ∀ (w2 : gWd) th, RX E w2 l2 th Q → XM E w2 l2 0 Q' v (cM w2.1)) ∨ ∃ k c z, ¬ c = 0 ∧ (∀ σ, fk k σ = some (c, σ)) ∧ XA E w l1 ad Q (Sum.inl k) cX ∧ ∀ (w2 : gWd) th, RX E w2 l2 th Q → XM E w2 l2 c Q z (cM w2.1)
section LA
variable {E : gE} {w w' : gWd} {l1 l2 l3 l4 : Nat} {ad : Nat → Nat} {Q Q' : gQ} {th : Int32}
theorem nJK {κ c : Nat} : ¬ JK (κ, 40, c) := fun z => by have z1 : 40 < 30 := z; omega
theorem nJK30 : ∀ κ : Nat, ¬ JK (κ, 30, 0) := fun κ z => by have z1 : 30 < 30 := z; omega
theorem nJ30 {κ c : Nat} : ¬ J30 (κ, 40, c) := fun z => by cases (show (40 : Nat) = 30 from z)
theorem RK.j30 (h : RK E w l1 ad Q) (hF : FS E J30 w w') : RK E w' l1 ad Q := h.fr hF (fun κ j c hj z => by have z1 : j = 30 := z; omega)
abbrev J40 : Nat × Nat × Nat → Prop := fun t => t = (50, 40, 0)
abbrev J41 : Nat × Nat × Nat → Prop := fun t => t = (51, 40, 0)
theorem RK.j40 (h : RK E w l1 ad Q) (hF : FS E J40 w w') : RK E w' l1 ad Q := h.fr hF (fun κ j c hj z => by have z1 : j = 40 := tj z; omega)
theorem RK.j41 (h : RK E w l1 ad Q) (hF : FS E J41 w w') : RK E w' l1 ad Q := h.fr hF (fun κ j c hj z => by have z1 : j = 40 := tj z; omega)
theorem RX.j41 (h : RX E w l2 th Q) (hF : FS E J41 w w') : RX E w' l2 th Q := h.fr hF (fun κ z => by cases (show (30 : Nat) = 40 from tj z))
theorem RX.j40 (h : RX E w l2 th Q) (hF : FS E J40 w w') : RX E w' l2 th Q := h.fr hF (fun κ z => by cases (show (30 : Nat) = 40 from tj z))
theorem RX.kk (h : RX E w l2 th Q) (hF : KK E JK w w') : RX E w' l2 th Q := RX.fr (E := E0 E) h hF.1 nJK30
theorem ArJ.kk {t : Nat × Nat × Nat} {a n : Nat} {g : Nat → Int64} (h : ArJ E w t a n g) (hF : KK E JK w w') (ht : ¬ JK t) : ArJ E w' t a n g := ArJ.fr (E := E0 E) h hF.1 ht
theorem ArD.kk {t : Nat × Nat × Nat} {a n : Nat} {g : Nat → UInt64} (h : ArD E w t a n g) (hF : KK E JK w w') (ht : ¬ JK t) : ArD E w' t a n g := ArD.fr (E := E0 E) h hF.1 ht
theorem lawJ {α : Type} (cv : α → Int64) {fk : Nat → gS → Option (Int32 × gS)} {cX : Option ((Nat ⊕ α) × gS)} {cM : gS → Option (α × gS)} (hl : LW E w l1 l2 l3 l4 ad Q) (hA : AGR E w l1 l2 ad Q fk cX cM) : ∃ (w1 w2 : gWd) (Q' : gQ) (k : Int32) (v : α), (ob cX fun x1 => gtry x1 fk (fun x5 σ4 => ob (gwaJ E σ4 l3 (0 : Int32) (cv x5)) fun σ6 => some ((0 : Int32), σ6))) = some (k, w1.1) ∧ gcl w1.1 l2 11 = some () ∧ cM w1.1 = some (v, w2.1) ∧ (∀ nx, tlJ E l2 l3 k (cv v) w2.1 nx = nx w2.1) ∧ LW E w2 l1 l2 l3 l4 ad Q' ∧ KX E w w2 := by
  obtain ⟨hK, ⟨th, hX⟩, hG, ⟨f, hJ⟩, g, hD⟩ := hl
  rcases hA with ⟨v, Q', hG', ⟨w1, e1, K1, k1⟩, hM⟩ | ⟨k, c, z, hc, hfk, ⟨w1, e1, K1, k1⟩, hM⟩
  · have J1 := hJ.kk K1 nJK
    have D1 := hD.kk K1 nJK
    obtain ⟨e2, J2, F2⟩ := J1.st (i := 0) (by omega) (by omega) (cv v) (J := J40) rfl
    have e2 : gwaJ E w1.1 l3 (0 : Int32) (cv v) = _ := e2
    have X2 := (hX.kk K1).j40 F2
    obtain ⟨w3, e3, F3, X3⟩ := hM _ th X2
    have J3 := J2.fr F3 nJ30
    refine ⟨_, w3, Q', 0, v, ?_, X2.cl, e3, fun nx => ?_, ⟨(k1.j40 F2).j30 F3, ⟨0, X3⟩, hG', ⟨_, J3⟩, g, ((D1.fr F2 (by decide))).fr F3 nJ30⟩, ?_⟩
    · rw [e1]
      show ob (gwaJ E w1.1 l3 (0 : Int32) (cv v)) _ = _
      rw [ob_e e2]
    · unfold tlJ
      have r : graJ E w3.1 l3 (0 : Int32) = some (vp_updL f 0 (cv v) 0) := J3.2.2.2.ld (i := 0) (by omega) (by omega)
      have r2 : vp_updL f 0 (cv v) 0 = cv v := if_pos rfl
      rw [ob_e X3.cl, ob_e X3.thr, if_pos rfl, if_pos rfl, ob_e r, r2, if_pos (cmp_rf _)]
    · exact fun y hy => F3.2.2.2 _ (F2.2.2.2 _ (K1.2 _ hy))
  · have J1 := hJ.kk K1 nJK
    have D1 := hD.kk K1 nJK
    have X1 := hX.kk K1
    obtain ⟨w3, e3, F3, X3⟩ := hM _ th X1
    refine ⟨w1, w3, Q, c, z, ?_, X1.cl, e3, fun nx => ?_, ⟨k1.j30 F3, ⟨c, X3⟩, hG, ⟨_, J1.fr F3 nJ30⟩, g, D1.fr F3 nJ30⟩, ?_⟩
    · rw [e1]
      exact hfk _
    · unfold tlJ
      rw [ob_e X3.cl, ob_e X3.thr, if_pos rfl, if_neg hc]
    · exact fun y hy => F3.2.2.2 _ (K1.2 _ hy)
/-- a question without exceptions -/
theorem law0 {α : Type} {v : α} {cM : gS → Option (α × gS)} (hl : LW E w l1 l2 l3 l4 ad Q) (hM : ∀ (w2 : gWd) th, RX E w2 l2 th Q → XM E w2 l2 0 Q v (cM w2.1)) : ∃ w2 : gWd, gcl w.1 l1 10 = some () ∧ gcl w.1 l2 11 = some () ∧ cM w.1 = some (v, w2.1) ∧ LW E w2 l1 l2 l3 l4 ad Q ∧ KX E w w2 := by
  obtain ⟨hK, ⟨th, hX⟩, hG, ⟨f, hJ⟩, g, hD⟩ := hl
  obtain ⟨w3, e3, F3, X3⟩ := hM _ th hX
  exact ⟨w3, hK.cl, hX.cl, e3, ⟨hK.j30 F3, ⟨_, X3⟩, hG, ⟨_, hJ.fr F3 nJ30⟩, g, hD.fr F3 nJ30⟩, F3.kx⟩
/-- a change without exceptions -/
theorem law1 {α : Type} {v : α} {cM : gS → Option (α × gS)} {w1 : gWd} {J : Nat × Nat × Nat → Prop} (hl : LW E w l1 l2 l3 l4 ad Q) (hF : FS E J w w1) (hJK : ∀ t, J t → JK t) (k1 : RK E w1 l1 ad Q') (hG' : GQ Q') (hM : ∀ (w2 : gWd) th, RX E w2 l2 th Q → XM E w2 l2 0 Q' v (cM w2.1)) : ∃ w2 : gWd, gcl w.1 l1 10 = some () ∧ gcl w1.1 l2 11 = some () ∧ cM w1.1 = some (v, w2.1) ∧ LW E w2 l1 l2 l3 l4 ad Q' ∧ KX E w w2 := by
  obtain ⟨hK, ⟨th, hX⟩, hG, ⟨f, hJ⟩, g, hD⟩ := hl
  have F1 := hF.mono (J' := JK) hJK
  have X1 := hX.fr F1 nJK30
  obtain ⟨w3, e3, F3, X3⟩ := hM _ th X1
  exact ⟨w3, hK.cl, X1.cl, e3, ⟨k1.j30 F3, ⟨_, X3⟩, hG', ⟨_, (hJ.fr F1 nJK).fr F3 nJ30⟩, g, (hD.fr F1 nJK).fr F3 nJ30⟩, F1.kx.fs F3⟩
end LA
