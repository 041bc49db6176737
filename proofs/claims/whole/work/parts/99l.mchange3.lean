/-! pure: the reference's changes of a row: a new row, deleting rows -/
theorem MT.congS {g : Nat → Int32} {S S' : gT} (h : MT g S) (h1 : S'.1 = S.1) (h2 : tR S' = tR S) (h3 : S'.2.2 = S.2.2) (h4 : ∀ c r, c < S.1 → r < tR S → tV S' c r = tV S c r) (h5 : ∀ c, c < S.1 → tD S' c = tD S c) : MT g S' := by
  obtain ⟨a1, a2, a3, a4, a5, a6⟩ := h
  refine ⟨by rw [h1]; exact a1, by rw [h2]; exact a2, ?_, fun i hi => ?_, fun c r hc hr => ?_, fun c hc => ?_⟩
  · show g 2 = nI S'.2.2.1
    rw [h3]
    exact a3
  · have hi : i < S'.2.2.1 := hi
    show g _ = nI (S'.2.2.2.1 i) ∧ g _ = S'.2.2.2.2.1 i ∧ g _ = S'.2.2.2.2.2 i
    rw [h3] at hi ⊢
    exact a4 i hi
  · rw [h1] at hc
    rw [h2] at hr
    rw [h4 c r hc hr]
    exact a5 c r hc hr
  · rw [h1] at hc
    rw [h5 c hc]
    exact a6 c hc
/-- the row z goes in, its first c cells -/
def pg (g z : Nat → Int32) (R : Nat) : Nat → (Nat → Int32)
  | 0 => g
  | c + 1 => lrn (upd (pg g z R c) (27 + 6 * R + c) (z c)) c (px (z c))
theorem pg_lo (g z : Nat → Int32) {R : Nat} : ∀ (c i : Nat), i < 27 → pg g z R c i = g i
  | 0, _, _ => rfl
  | c + 1, i, h => by
    show lrn _ c _ i = _
    rw [lrn_lo _ _ _ (by omega), upd_o _ _ (by omega), pg_lo g z c i h]
theorem pg_v (g z : Nat → Int32) {R : Nat} (hR : R < 60) : ∀ (c : Nat), c ≤ 6 → ∀ (c' r : Nat), c' < 6 → r < 60 → pg g z R c (27 + 6 * r + c') = if r = R ∧ c' < c then z c' else g (27 + 6 * r + c')
  | 0, _, c', r, _, _ => by rw [if_neg (by omega)]; rfl
  | c + 1, hc, c', r, h1, h2 => by
    have ih := pg_v g z hR c (by omega) c' r h1 h2
    show lrn _ c _ _ = _
    rw [lrn_lo _ _ _ (by omega)]
    by_cases e : r = R ∧ c' = c
    · rw [e.1, e.2, upd_s, if_pos (by omega)]
    · rw [upd_o _ _ (by omega), ih]
      by_cases e2 : r = R ∧ c' < c
      · rw [if_pos e2, if_pos (by omega)]
      · rw [if_neg e2, if_neg (by omega)]
theorem pg_b (g z : Nat → Int32) {R : Nat} (hR : R < 60) : ∀ (c : Nat), c ≤ 6 → (∀ j, j < c → px (z j) < 20000) → ∀ (c' k i : Nat), c' < 6 → k < 625 → i < 32 → bt (pg g z R c (387 + 625 * c' + k)) i = if c' < c ∧ 32 * k + i = px (z c') then true else bt (g (387 + 625 * c' + k)) i
  | 0, _, _, c', k, i, _, _, _ => by rw [if_neg (by omega)]; rfl
  | c + 1, hc, hz, c', k, i, h1, h2, h3 => by
    have ih := pg_b g z hR c (by omega) (fun j hj => hz j (by omega)) c' k i h1 h2 h3
    show bt (lrn _ c _ _) _ = _
    rw [lrn_bt _ (hz c (by omega)) h2 h3, upd_o _ _ (by omega), ih]
    by_cases e : c' = c
    · subst e
      by_cases e2 : 32 * k + i = px (z c')
      · rw [if_pos ⟨rfl, e2⟩, if_pos ⟨by omega, e2⟩]
      · rw [if_neg (fun z => e2 z.2), if_neg (fun z => e2 z.2), if_neg (fun z => e2 z.2)]
    · rw [if_neg (fun z => e z.1)]
      by_cases e2 : c' < c ∧ 32 * k + i = px (z c')
      · rw [if_pos e2, if_pos ⟨by omega, e2.2⟩]
      · rw [if_neg e2, if_neg (fun y => e2 ⟨by omega, y.2⟩)]
theorem MT.row {g z : Nat → Int32} {S : gT} (h : MT g S) (hG : GS S) (hz : ∀ c, c < S.1 → vIn (z c)) (hr : tR S < 60) : MT (upd (pg g z (tR S) S.1) 1 (nI (tR S + 1))) (apT S z) := by
  have hC : S.1 ≤ 6 := hG.2.1
  have hK : tK S ≤ 8 := hG.2.2.2.2.2.1
  have hrr := (hG.ap hz hr).2
  have hpx : ∀ c, c < S.1 → px (z c) < 20000 := fun c hc => Nat.lt_trans (px_lt (hz c hc)) (by decide)
  have hcol : ∀ c, c < S.1 → (apT S z).2.1 c = opAp (z c) (S.2.1 c) := fun c hc => mapC_col hc
  obtain ⟨a1, a2, a3, a4, a5, a6⟩ := h
  refine ⟨?_, ?_, ?_, fun i hi => ?_, fun c r h1 h2 => ?_, fun c h1 => ?_⟩
  · rw [upd_o _ _ (by omega), pg_lo _ _ _ _ (by omega)]
    exact a1
  · rw [upd_s, hrr]
  · rw [upd_o _ _ (by omega), pg_lo _ _ _ _ (by omega)]
    exact a3
  · have hi : i < tK S := hi
    rw [upd_o _ _ (by omega), upd_o _ _ (by omega), upd_o _ _ (by omega), pg_lo _ _ _ _ (by omega), pg_lo _ _ _ _ (by omega), pg_lo _ _ _ _ (by omega)]
    exact a4 i hi
  · have h1 : c < S.1 := h1
    rw [hrr] at h2
    rw [tV, hcol c h1, upd_o _ _ (by omega), pg_v g z hr S.1 hC c r (by omega) (by omega)]
    show _ = upd (tV S c) (S.2.1 c).1 (z c) r
    rw [hG.2.2.1 c h1]
    by_cases e : r = tR S
    · rw [if_pos ⟨e, h1⟩, e, upd_s]
    · rw [if_neg (fun z => e z.1), upd_o _ _ e]
      exact a5 c r h1 (by omega)
  · have h1 : c < S.1 := h1
    rw [tD, hcol c h1]
    refine ⟨dins_ok (a6 c h1).1 (px_lt (hz c h1)), fun k i hk hi => ?_⟩
    rw [upd_o _ _ (by omega), pg_b g z hr S.1 hC hpx c k i (by omega) hk hi, (a6 c h1).2 k i hk hi]
    show _ = dins (tD S c) (px (z c)) (32 * k + i)
    unfold dins
    by_cases e : 32 * k + i = px (z c)
    · rw [if_pos ⟨h1, e⟩, if_pos e]
    · rw [if_neg (fun z => e z.2), if_neg e]
section MM
variable {E : gE} {w : gWd} {m k : Nat} {fi : Nat → Int32} {G : Nat → Nat → Int32} {S : gT}
theorem MX.putR (h : MX E w m k fi G S) (hN : 100000 ≤ gN E) {z : Nat → Int32} (hz : ∀ c, c < S.1 → vIn (z c)) (hz7 : ∀ c, c < S.1 → G 7 c = z c) (hr : tR S < 60) : ∃ w' G', X13_putRow_f E m w.1 = some w'.1 ∧ FS E J30 w w' ∧ MX E w' m k fi G' (apT S z) ∧ ∀ j, j ≠ k → G' j = G j := by
  obtain ⟨hM, hk, hT, hG⟩ := h
  have hC : S.1 ≤ 6 := hG.2.1
  have hk7 : 7 ≠ k := by omega
  have hd : ∀ (r : Nat) (a : gWd), MS E a m (m + k) fi (updG G k (pg (G k) z (tR S) r)) → graI E 0 a.1 (m + k) (0 : Int32) = some (nI S.1) ∧ graI E 0 a.1 (m + k) (1 : Int32) = some (nI (tR S)) := fun r a ha => by
    have e0 := ha.rd hk (i := 0) (by omega)
    have e1 := ha.rd hk (i := 1) (by omega)
    rw [updG_s, pg_lo _ _ _ _ (by omega)] at e0 e1
    rw [hT.1] at e0
    rw [hT.2.1] at e1
    exact ⟨e0, e1⟩
  have hl := lpe (F := fun u (a : gWd) r => X13_putRow_2 E u m (nI r) a.1) (I := fun r a => FS E J30 w a ∧ MS E a m (m + k) fi (updG G k (pg (G k) z (tR S) r))) (O := fun a => gwaI E a.1 (m + k) (1 : Int32) (nI (tR S + 1))) (n := S.1) (fun u r a hr2 hI => ?_) (fun u a hI => ?_) S.1 0 (gN E) w (by omega) (by omega) ⟨FS.rf, ?_⟩
  · obtain ⟨w1, e1, F1, h1⟩ := hl
    obtain ⟨w2, e2, F2, h2⟩ := h1.wr hk (i := 1) (by omega) (nI (tR S + 1))
    rw [updG_s, updG_t] at h2
    refine ⟨w2, _, ?_, F1.trans F2, ⟨h2, hk, ?_, (hG.ap hz hr).1⟩, fun j hj => updG_o _ _ hj⟩
    · unfold X13_putRow_f X13_putRow
      exact e1.trans e2
    · rw [updG_s]
      exact hT.row hG hz hr
  · obtain ⟨F0, h0⟩ := hI
    obtain ⟨d0, d1⟩ := hd r a h0
    have r7 : graI E 0 a.1 (m + 7) (nI r) = some (z r) := by
      rw [h0.ld 7 (by omega) (by omega) (Nat.lt_of_lt_of_le (show r < 6 by omega) (by decide)), updG_o _ _ hk7, hz7 r hr2]
    obtain ⟨w1, e1, F1, h1⟩ := h0.wr hk (i := 27 + 6 * tR S + r) (by omega) (z r)
    rw [updG_s, updG_t] at h1
    have r7' : graI E 0 w1.1 (m + 7) (nI r) = some (z r) := by
      rw [h1.ld 7 (by omega) (by omega) (Nat.lt_of_lt_of_le (show r < 6 by omega) (by decide)), updG_o _ _ hk7, hz7 r hr2]
    obtain ⟨w2, e2, F2, h2⟩ := h1.learn hk (c := r) (by omega) (hz r hr2)
    rw [updG_s, updG_t] at h2
    refine ⟨w2, ?_, (F0.trans F1).trans F2, h2⟩
    show X13_putRow_2_s E (X13_putRow_2 E u) m (nI r) a.1 = _
    unfold X13_putRow_2_s
    rw [ob_e h0.row, ob_e d0, if_neg (nI_ge hr2 (by omega)), ob_e h0.row, ob_e h0.row, ob_e d1, ob_e (pl_f r (tR S)), ob_e h0.f6, ob_e r7, ob_e e1, ob_e h1.f6, ob_e r7', ob_e h1.cl, ob_e e2, nI_1]
  · obtain ⟨F0, h0⟩ := hI
    obtain ⟨d0, d1⟩ := hd S.1 a h0
    obtain ⟨w2, e2, -, -⟩ := h0.wr hk (i := 1) (by omega) (nI (tR S + 1))
    have e2 : gwaI E a.1 (m + k) (1 : Int32) (nI (tR S + 1)) = some w2.1 := e2
    show X13_putRow_2_s E (X13_putRow_2 E u) m (nI S.1) a.1 = _
    unfold X13_putRow_2_s
    rw [ob_e h0.row, ob_e d0, if_pos (nI_le (Nat.le_refl _) (by omega)), ob_e h0.row, ob_e d1, nI_1, ob_e e2, e2]
  · show MS E w m (m + k) fi (updG G k (G k))
    have e : updG G k (G k) = G := by
      funext j
      by_cases hj : j = k
      · rw [hj, updG_s]
      · rw [updG_o _ _ hj]
    rw [e]
    exact hM
theorem MX.row (h : MX E w m k fi G S) (hN : 100000 ≤ gN E) {z : Nat → Int32} (hz : ∀ c, c < S.1 → vIn (z c)) (hz7 : ∀ c, c < S.1 → G 7 c = z c) (hr : tR S < 60) : ∃ w' G', X13_doRow_f E m w.1 = some (0, w'.1) ∧ FS E J30 w w' ∧ MX E w' m k (upd fi 12 (nI (tR S))) G' (apT S z) ∧ MO k G G' := by
  have hQ := h.q
  obtain ⟨w1, G1, e1, F1, h1, g1⟩ := h.putR hN hz hz7 hr
  have hQ1 := h1.q
  have hrr := (h.2.2.2.ap hz hr).2
  obtain ⟨w2, e2, F2, h2⟩ := h1.1.put 12 (nI (tR S)) (putF m _) (by decide)
  refine ⟨w2, G1, ?_, F1.trans F2, ⟨h2, h1.2⟩, fun j a _ _ => g1 j a⟩
  unfold X13_doRow_f X13_doRow
  rw [ob_e hQ.r, ob_e hQ.n1, if_neg (fun z => by have := (nI_eqI (b := 60) (by omega) (by omega)).mp z; omega), ob_e hQ.cl, ob_e e1, ob_e hQ1.r, ob_e hQ1.n1, hrr, nI_sub1 (by omega), Nat.add_sub_cancel, ob_e e2]
theorem MX.rowF (h : MX E w m k fi G S) (hr : ¬ tR S < 60) : X13_doRow_f E m w.1 = some (2, w.1) := by
  have hQ := h.q
  have := hQ.R
  unfold X13_doRow_f X13_doRow
  rw [ob_e hQ.r, ob_e hQ.n1, if_pos (show nI (tR S) = (60 : Int32) from by rw [show tR S = 60 by omega]; rfl)]
end MM
/-- the rows from r up have been looked at -/
def dp (S : gT) (r q : Nat) : Bool := decide (q < r) || !ssel S q
def dT (S : gT) (r : Nat) : gT := mapC (fun _ y => opKp (dp S r) (tR S) y) S.1 S
theorem dp_lo (S : gT) {r : Nat} : ∀ q, q ≤ r → fb_ct (dp S r) q = q
  | 0, _ => rfl
  | q + 1, h => by
    rw [fb_ct_succ, dp_lo S q (by omega), if_pos (by unfold dp; rw [decide_eq_true (by omega), Bool.true_or])]
theorem dp_kl (S : gT) {r i : Nat} (hi : i < r) (hr : r ≤ tR S) : kth (dp S r) (tR S) i = i := by
  have h := kth_uq (p := dp S r) (n := tR S) (q := i) (by omega) (by unfold dp; rw [decide_eq_true hi, Bool.true_or])
  rw [dp_lo S i (by omega)] at h
  exact h
theorem dp_no {S : gT} {r : Nat} (h : ssel S r = false) : dp S r = dp S (r + 1) := by
  funext q
  unfold dp
  by_cases e : q = r
  · rw [e, h, Bool.not_false, Bool.or_true, Bool.or_true]
  · rw [decide_eq_decide.mpr (show q < r ↔ q < r + 1 by omega)]
theorem dp_hi (S : gT) {r q : Nat} (h : r < q) : dp S r q = dp S (r + 1) q := by
  unfold dp
  rw [decide_eq_false (by omega), decide_eq_false (by omega)]
theorem dp_ct {S : gT} {r : Nat} (h : ssel S r = true) : ∀ n, r < n → fb_ct (dp S (r + 1)) n = fb_ct (dp S r) n + 1
  | 0, hn => by omega
  | n + 1, hn => by
    rw [fb_ct_succ, fb_ct_succ]
    by_cases e : n = r
    · subst e
      rw [dp_lo S n (by omega), dp_lo S n (Nat.le_refl _), if_pos (by unfold dp; rw [decide_eq_true (by omega), Bool.true_or]), if_neg (by unfold dp; rw [decide_eq_false (by omega), h]; decide)]
    · rw [dp_ct h n (by omega), dp_hi S (show r < n by omega)]
      omega
theorem dp_kh {S : gT} {r i : Nat} (h : ssel S r = true) (hr : r < tR S) (h1 : r ≤ i) (h2 : i < fb_ct (dp S r) (tR S)) : kth (dp S r) (tR S) i = kth (dp S (r + 1)) (tR S) (i + 1) := by
  have hc := dp_ct h (tR S) hr
  obtain ⟨k1, k2, k3⟩ := kth_ok (p := dp S (r + 1)) (n := tR S) (i := i + 1) (by omega)
  generalize kth (dp S (r + 1)) (tR S) (i + 1) = q at k1 k2 k3
  have hq : r < q := by
    by_cases z : q ≤ r + 1
    · rw [dp_lo S q z] at k3
      omega
    · omega
  have h3 := dp_ct h q hq
  have h4 := kth_uq (p := dp S r) (n := tR S) (q := q) k1 (by rw [dp_hi S hq]; exact k2)
  rw [show fb_ct (dp S r) q = i by omega] at h4
  exact h4
theorem GS.dT {S : gT} (hG : GS S) (r : Nat) : GS (dT S r) ∧ tR (dT S r) = fb_ct (dp S r) (tR S) := by
  have h60 := hG.2.2.2.1
  have hle := fb_ct_le (dp S r) (tR S)
  exact hG.map (by omega) (fun c hc => rfl) (fun c i hc hi => hG.2.2.2.2.1 c _ hc (kth_ok hi).1)
