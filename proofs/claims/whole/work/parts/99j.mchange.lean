/-! pure: the reference's changes of a row -/
def MX (E : gE) (w : gWd) (m k : Nat) (fi : Nat → Int32) (G : Nat → Nat → Int32) (S : gT) : Prop := MS E w m (m + k) fi G ∧ (k = 1 ∨ k = 2) ∧ MT (G k) S ∧ GS S
/-- only the row and what is scratch has changed -/
def MO (k : Nat) (G G' : Nat → Nat → Int32) : Prop := ∀ j, j ≠ k → j ≠ 6 → j ≠ 8 → G' j = G j
theorem MO.rf {k : Nat} {G : Nat → Nat → Int32} : MO k G G := fun _ _ _ _ => rfl
theorem MO.tr {k : Nat} {G G' G2 : Nat → Nat → Int32} (h : MO k G G') (h2 : MO k G' G2) : MO k G G2 := fun j a b c => (h2 j a b c).trans (h j a b c)
theorem MO.u (k : Nat) (G : Nat → Nat → Int32) (g : Nat → Int32) : MO k G (updG G k g) := fun j a _ _ => updG_o _ _ a
def lrn (g : Nat → Int32) (c p : Nat) : Nat → Int32 := upd g (387 + 625 * c + p / 32) (g (387 + 625 * c + p / 32) ||| ((1 : Int32) <<< (nI (p % 32) &&& 31)))
theorem upd_s (g : Nat → Int32) (i : Nat) (x : Int32) : upd g i x i = x := if_pos rfl
theorem upd_o (g : Nat → Int32) {i j : Nat} (x : Int32) (h : j ≠ i) : upd g i x j = g j := if_neg h
theorem lrn_lo (g : Nat → Int32) (c p : Nat) {i : Nat} (h : i < 387) : lrn g c p i = g i := upd_o _ _ (by omega)
theorem b_or1 (x : Int32) {j i : Nat} (hj : j < 32) (hi : i < 32) : bt (x ||| ((1 : Int32) <<< (nI j &&& 31))) i = (bt x i || decide (i = j)) := by
  rw [b_or, b_shl j hj _ hi]
  congr 1
  by_cases h : j ≤ i
  · rw [decide_eq_true h, Bool.true_and, b_one _ (by omega)]
    exact decide_eq_decide.mpr ⟨by omega, by omega⟩
  · rw [decide_eq_false h, Bool.false_and, decide_eq_false (by omega)]
theorem lrn_bt (g : Nat → Int32) {c c' p k i : Nat} (hp : p < 20000) (hk : k < 625) (hi : i < 32) : bt (lrn g c p (387 + 625 * c' + k)) i = if c' = c ∧ 32 * k + i = p then true else bt (g (387 + 625 * c' + k)) i := by
  unfold lrn
  by_cases h : 387 + 625 * c' + k = 387 + 625 * c + p / 32
  · rw [h, upd_s, b_or1 _ (by omega) hi]
    by_cases h2 : i = p % 32
    · rw [decide_eq_true h2, Bool.or_true, if_pos (by omega)]
    · rw [decide_eq_false h2, Bool.or_false, if_neg (by omega)]
  · rw [upd_o _ _ h, if_neg (by omega)]
theorem MT.cong {g g' : Nat → Int32} {S : gT} (h : MT g S) (hG : GS S) (hc : ∀ i, i < 4137 → g' i = g i) : MT g' S := by
  have hC : S.1 ≤ 6 := hG.2.1
  have hR : tR S ≤ 60 := hG.2.2.2.1
  have hK : tK S ≤ 8 := hG.2.2.2.2.2.1
  obtain ⟨a1, a2, a3, a4, a5, a6⟩ := h
  refine ⟨by rw [hc _ (by omega)]; exact a1, by rw [hc _ (by omega)]; exact a2, by rw [hc _ (by omega)]; exact a3, fun i hi => ?_, fun c r h1 h2 => by rw [hc _ (by omega)]; exact a5 c r h1 h2, fun c h1 => ⟨(a6 c h1).1, fun k i hk hi => by rw [hc _ (by omega)]; exact (a6 c h1).2 k i hk hi⟩⟩
  rw [hc _ (by omega), hc _ (by omega), hc _ (by omega)]
  exact a4 i hi
theorem MT.put {g : Nat → Int32} {S : gT} (h : MT g S) (hG : GS S) {c r : Nat} {v : Int32} (hc : c < S.1) (hr : r < tR S) (hv : vIn v) : MT (lrn (upd g (27 + 6 * r + c) v) c (px v)) (putT1 S c r v) := by
  have hC : S.1 ≤ 6 := hG.2.1
  have hR : tR S ≤ 60 := hG.2.2.2.1
  have hK : tK S ≤ 8 := hG.2.2.2.2.2.1
  have hp := px_lt hv
  obtain ⟨a1, a2, a3, a4, a5, a6⟩ := h
  have hlo : ∀ i, i < 27 → lrn (upd g (27 + 6 * r + c) v) c (px v) i = g i := fun i hi => by rw [lrn_lo _ _ _ (by omega), upd_o _ _ (by omega)]
  have hrr := (hG.put hc hr hv).2
  have hcol : ∀ c', (putT1 S c r v).2.1 c' = if c' = c then opPut r v (S.2.1 c) else S.2.1 c' := fun _ => rfl
  refine ⟨by rw [hlo _ (by omega)]; exact a1, by rw [hlo _ (by omega), hrr]; exact a2, by rw [hlo _ (by omega)]; exact a3, fun i hi => ?_, fun c' r' h1 h2 => ?_, fun c' h1 => ⟨?_, fun k i hk hi => ?_⟩⟩
  · have hi : i < tK S := hi
    rw [hlo _ (by omega), hlo _ (by omega), hlo _ (by omega)]
    exact a4 i hi
  · have h1 : c' < S.1 := h1
    rw [hrr] at h2
    rw [tV, hcol, lrn_lo _ _ _ (by omega)]
    by_cases e : c' = c
    · subst e
      rw [if_pos rfl]
      show _ = upd (tV S c') r v r'
      by_cases e2 : r' = r
      · rw [e2, upd_s, upd_s]
      · rw [upd_o _ _ (by omega), upd_o _ _ e2]
        exact a5 c' r' h1 h2
    · rw [if_neg e, upd_o _ _ (by omega)]
      exact a5 c' r' h1 h2
  · have h1 : c' < S.1 := h1
    rw [tD, hcol]
    by_cases e : c' = c
    · rw [if_pos e]
      exact dins_ok (a6 c hc).1 hp
    · rw [if_neg e]
      exact (a6 c' h1).1
  · have h1 : c' < S.1 := h1
    rw [tD, hcol, lrn_bt _ (by omega) hk hi, upd_o _ _ (by omega), (a6 c' h1).2 k i hk hi]
    by_cases e : c' = c
    · subst e
      rw [if_pos rfl]
      show _ = dins (tD S c') (px v) (32 * k + i)
      unfold dins
      by_cases e2 : 32 * k + i = px v
      · rw [if_pos ⟨rfl, e2⟩, if_pos e2]
      · rw [if_neg (fun z => e2 z.2), if_neg e2]
    · rw [if_neg (fun z => e z.1), if_neg e]
section MM
variable {E : gE} {w : gWd} {m k : Nat} {fi : Nat → Int32} {G : Nat → Nat → Int32} {S : gT}
theorem MX.q (h : MX E w m k fi G S) : mQ E w.1 m (m + k) (G k) S := h.1.q h.2.1 h.2.2.1 h.2.2.2
theorem MX.mz (h : MX E w m k fi G S) : mz k = 4137 := by rcases h.2.1 with rfl | rfl <;> rfl
theorem mz12 (hk : k = 1 ∨ k = 2) : mz k = 4137 := by rcases hk with rfl | rfl <;> rfl
theorem MS.wr (h : MS E w m (m + k) fi G) (hk : k = 1 ∨ k = 2) {i : Nat} (hi : i < 4137) (x : Int32) : ∃ w', gwaI E w.1 (m + k) (nI i) x = some w'.1 ∧ FS E J30 w w' ∧ MS E w' m (m + k) fi (updG G k (upd (G k) i x)) := h.st k (by omega) (by omega) (by rw [mz12 hk]; exact hi) x
theorem MS.rd (h : MS E w m (m + k) fi G) (hk : k = 1 ∨ k = 2) {i : Nat} (hi : i < 4137) : graI E 0 w.1 (m + k) (nI i) = some (G k i) := h.ld k (by omega) (by omega) (by rw [mz12 hk]; exact hi)
theorem updG_t (G : Nat → Nat → Int32) (k : Nat) (g g' : Nat → Int32) : updG (updG G k g) k g' = updG G k g' := by
  funext j
  by_cases h : j = k
  · rw [h, updG_s, updG_s]
  · rw [updG_o _ _ h, updG_o _ _ h, updG_o _ _ h]
theorem MS.learn (h : MS E w m (m + k) fi G) (hk : k = 1 ∨ k = 2) {c : Nat} (hc : c < 6) {v : Int32} (hv : vIn v) : ∃ w', X13_learn_f E m (nI c) v w.1 = some w'.1 ∧ FS E J30 w w' ∧ MS E w' m (m + k) fi (updG G k (lrn (G k) c (px v))) := by
  have hp := px_lt hv
  obtain ⟨w1, e1, F1, h1⟩ := h.wr hk (i := 387 + 625 * c + px v / 32) (by omega) (G k (387 + 625 * c + px v / 32) ||| ((1 : Int32) <<< (nI (px v % 32) &&& 31)))
  refine ⟨w1, ?_, F1, h1⟩
  have e32 := p32 (px v) (by omega)
  unfold X13_learn_f X13_learn
  rw [v99 hv, e32, d32 _ (by omega), di_i, ob_e h.row, ob_e (h.rd hk (by omega)), ob_e e1]
theorem putF {ro : Nat} {fi : Nat → Int32} (m : Nat) (x : Int32) : (mF m ro fi).set 12 (.int x) = mF m ro (upd fi 12 x) := rfl
theorem MX.set (h : MX E w m k fi G S) {c r : Nat} {v : Int32} (hc : c < S.1) (hr : r < tR S) (hv : vIn v) : ∃ w' G', X13_doSet_f E m (nI c) (nI r) v w.1 = some (0, w'.1) ∧ FS E J30 w w' ∧ MX E w' m k (upd fi 12 (tV S c r)) G' (putT1 S c r v) ∧ MO k G G' := by
  have hQ := h.q
  obtain ⟨hM, hk, hT, hG⟩ := h
  have hC : S.1 ≤ 6 := hG.2.1
  have hR : tR S ≤ 60 := hG.2.2.2.1
  obtain ⟨w1, e1, F1, h1⟩ := hM.put 12 (tV S c r) (putF m _) (by decide)
  obtain ⟨w2, e2, F2, h2⟩ := h1.wr hk (i := 27 + 6 * r + c) (by omega) v
  obtain ⟨w3, e3, F3, h3⟩ := h2.learn hk (c := c) (by omega) hv
  rw [updG_s, updG_t] at h3
  refine ⟨w3, _, ?_, (F1.trans F2).trans F3, ⟨h3, hk, ?_, (hG.put hc hr hv).1⟩, MO.u _ _ _⟩
  · have hcell : cOK S (nI c) ∧ rOK S (nI r) := by
      rw [cOK, rOK, nI_toInt (by omega), nI_toInt (by omega)]
      omega
    unfold X13_doSet_f X13_doSet
    rw [ob_e hQ.cl, ob_e (hQ.cell _ _), if_pos hcell, if_neg i10, ob_e hQ.cl, ob_e (hQ.at hc hr), ob_e e1, ob_e h1.row, ob_e (pl_f c r), ob_e e2, ob_e h2.cl, ob_e e3]
  · rw [updG_s]
    exact hT.put hG hc hr hv
theorem MX.setF (h : MX E w m k fi G S) {a b : Int32} (ha : ¬ (cOK S a ∧ rOK S b)) (v : Int32) : X13_doSet_f E m a b v w.1 = some (1, w.1) := by
  have hQ := h.q
  unfold X13_doSet_f X13_doSet
  rw [ob_e hQ.cl, ob_e (hQ.cell _ _), if_neg ha, if_pos rfl]
end MM
