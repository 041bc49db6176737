/-! what an order keeps; what conditions select -/
def fsum {α β : Type} (add : α → β → α) (z : α) (f : Nat → β) : Nat → α
  | 0 => z
  | n + 1 => add (fsum add z f n) (f n)
theorem fsum_cong {α β : Type} {add : α → β → α} {z : α} {f g : Nat → β} : ∀ {n : Nat}, (∀ k, k < n → f k = g k) → fsum add z f n = fsum add z g n
  | 0, _ => rfl
  | n + 1, h => by
    show add (fsum add z f n) (f n) = add (fsum add z g n) (g n)
    rw [fsum_cong (fun k hk => h k (by omega)), h n (by omega)]
theorem sIn_sum {α β : Type} {add : α → β → α} {z : α} (hc : ∀ a x y, add (add a x) y = add (add a y) x) (f : Nat → β) (wr : Nat → Nat → Bool) (src : Nat) : ∀ (h : Nat) (s : Nat → Nat), fsum add z (fun k => f (sIn wr src h s k)) (h + 1) = add (fsum add z (fun k => f (s k)) h) (f src) := by
  intro h
  induction h with
  | zero => intro s; rfl
  | succ h ih =>
    intro s
    show add (fsum add z (fun k => f (sIn wr src (h + 1) s k)) (h + 1)) (f (sIn wr src (h + 1) s (h + 1))) = _
    by_cases hw : wr (s h) src = true
    · have e : ∀ k, sIn wr src (h + 1) s k = sIn wr src h (updN s (h + 1) (s h)) k := fun k => by
        show (if wr (s h) src = true then sIn wr src h (updN s (h + 1) (s h)) else updN s (h + 1) src) k = _
        rw [if_pos hw]
      have e2 : sIn wr src (h + 1) s (h + 1) = s h := by
        rw [e, sIn_hi _ _ _ _ _ (Nat.lt_succ_self _)]
        exact if_pos rfl
      rw [e2, fsum_cong (fun k _ => congrArg f (e k)), ih, fsum_cong (f := fun k => f (updN s (h + 1) (s h) k)) (g := fun k => f (s k)) (fun k hk => by
        show f (if k = h + 1 then s h else s k) = _
        rw [if_neg (by omega)]), hc]
      rfl
    · have e : ∀ k, sIn wr src (h + 1) s k = updN s (h + 1) src k := fun k => by
        show (if wr (s h) src = true then sIn wr src h (updN s (h + 1) (s h)) else updN s (h + 1) src) k = _
        rw [if_neg hw]
      have e2 : sIn wr src (h + 1) s (h + 1) = src := by
        rw [e]
        exact if_pos rfl
      rw [e2, fsum_cong (f := fun k => f (sIn wr src (h + 1) s k)) (g := fun k => f (s k)) (fun k hk => by
        show f (sIn wr src (h + 1) s k) = _
        rw [e]
        show f (if k = h + 1 then src else s k) = _
        rw [if_neg (by omega)])]
theorem sSort_sum {α β : Type} {add : α → β → α} {z : α} (hc : ∀ a x y, add (add a x) y = add (add a y) x) (f : Nat → β) (wr : Nat → Nat → Bool) : ∀ m, fsum add z (fun k => f (sSort wr m k)) m = fsum add z f m
  | 0 => rfl
  | m + 1 => by
    show fsum add z (fun k => f (sIn wr m m (sSort wr m) k)) (m + 1) = _
    rw [sIn_sum hc, sSort_sum hc f wr m]
    rfl
section SRT
variable {wr : Nat → Nat → Bool} {key : Nat → Int}
theorem sIn_bd {src : Nat} {B : Int} (hs : key src ≤ B) : ∀ (h : Nat) (s : Nat → Nat), (∀ k, k < h → key (s k) ≤ B) → ∀ k, k ≤ h → key (sIn wr src h s k) ≤ B := by
  intro h
  induction h with
  | zero =>
    intro s _ k hk
    show key (if k = 0 then src else s k) ≤ B
    rw [if_pos (by omega)]
    exact hs
  | succ h ih =>
    intro s H k hk
    show key ((if wr (s h) src = true then sIn wr src h (updN s (h + 1) (s h)) else updN s (h + 1) src) k) ≤ B
    by_cases hw : wr (s h) src = true
    · rw [if_pos hw]
      by_cases z : k = h + 1
      · rw [z, sIn_hi _ _ _ _ _ (Nat.lt_succ_self _)]
        show key (if h + 1 = h + 1 then s h else s (h + 1)) ≤ B
        rw [if_pos rfl]
        exact H h (by omega)
      · refine ih _ (fun i hi => ?_) k (by omega)
        show key (if i = h + 1 then s h else s i) ≤ B
        rw [if_neg (by omega)]
        exact H i (by omega)
    · rw [if_neg hw]
      show key (if k = h + 1 then src else s k) ≤ B
      by_cases z : k = h + 1
      · rw [if_pos z]; exact hs
      · rw [if_neg z]; exact H k (by omega)
theorem sIn_srt {src : Nat} (hw : ∀ x, (wr x src = true → key src ≤ key x) ∧ (¬ wr x src = true → key x ≤ key src)) : ∀ (h : Nat) (s : Nat → Nat), (∀ i j, i ≤ j → j < h → key (s i) ≤ key (s j)) → ∀ i j, i ≤ j → j ≤ h → key (sIn wr src h s i) ≤ key (sIn wr src h s j) := by
  intro h
  induction h with
  | zero =>
    intro s _ i j hij hj
    rw [show i = j by omega]
    exact Int.le_refl _
  | succ h ih =>
    intro s H i j hij hj
    by_cases hwr : wr (s h) src = true
    · have e : ∀ k, sIn wr src (h + 1) s k = sIn wr src h (updN s (h + 1) (s h)) k := fun k => by
        show (if wr (s h) src = true then sIn wr src h (updN s (h + 1) (s h)) else updN s (h + 1) src) k = _
        rw [if_pos hwr]
      have u : ∀ k, k < h + 1 → updN s (h + 1) (s h) k = s k := fun k hk => if_neg (by omega)
      rw [e, e]
      by_cases z : j = h + 1
      · by_cases zi : i = h + 1
        · rw [zi, z]; exact Int.le_refl _
        · have e2 : sIn wr src h (updN s (h + 1) (s h)) j = s h := by
            rw [z, sIn_hi _ _ _ _ _ (Nat.lt_succ_self _)]
            exact if_pos rfl
          rw [e2]
          refine sIn_bd ((hw _).1 hwr) h _ (fun k hk => ?_) i (by omega)
          rw [u k (by omega)]
          exact H k h (by omega) (by omega)
      · refine ih _ (fun i j hij hj => ?_) i j hij (by omega)
        rw [u i (by omega), u j (by omega)]
        exact H i j hij (by omega)
    · have e : ∀ k, sIn wr src (h + 1) s k = if k = h + 1 then src else s k := fun k => by
        show (if wr (s h) src = true then sIn wr src h (updN s (h + 1) (s h)) else updN s (h + 1) src) k = _
        rw [if_neg hwr]
        rfl
      rw [e, e]
      by_cases z : j = h + 1
      · rw [if_pos z]
        by_cases zi : i = h + 1
        · rw [if_pos zi]; exact Int.le_refl _
        · rw [if_neg zi]
          exact Int.le_trans (H i h (by omega) (by omega)) ((hw _).2 hwr)
      · rw [if_neg z, if_neg (by omega)]
        exact H i j hij (by omega)
theorem sSort_srt (hw : ∀ x y, (wr x y = true → key y ≤ key x) ∧ (¬ wr x y = true → key x ≤ key y)) : ∀ m i j, i ≤ j → j < m → key (sSort wr m i) ≤ key (sSort wr m j)
  | 0, _, _, _, h => absurd h (Nat.not_lt_zero _)
  | m + 1, i, j, hij, hj => sIn_srt (fun x => hw x m) m (sSort wr m) (sSort_srt hw m) i j hij (by omega)
end SRT
section SOR
variable {S : gT} {c : Nat} {b : Bool}
theorem srt_V {o : Nat} (ho : o < S.1) : tV (srtT S c b) o = fun k => tV S o (gord S c b k) := by
  show ((mapC (fun _ y => opRe (gord S c b) y) S.1 S).2.1 o).2.1 = _
  rw [mapC_col ho]
  rfl
def keyv (b : Bool) (v : Int32) : Int := if b then v.toInt else -v.toInt
theorem gord_srt (S : gT) (c : Nat) (b : Bool) : ∀ i j, i ≤ j → j < tR S → keyv b (tV S c (gord S c b i)) ≤ keyv b (tV S c (gord S c b j)) := by
  refine sSort_srt (key := fun k => keyv b (tV S c k)) (fun x y => ?_) (tR S)
  cases b with
  | true =>
    have e : gwr true (tV S c x) (tV S c y) = decide (tV S c y < tV S c x) := rfl
    have k1 : ∀ v, keyv true v = v.toInt := fun v => rfl
    simp only [e, k1, decide_eq_true_eq, fa_lt]
    omega
  | false =>
    have e : gwr false (tV S c x) (tV S c y) = decide (tV S c x < tV S c y) := rfl
    have k1 : ∀ v, keyv false v = -v.toInt := fun v => rfl
    simp only [e, k1, decide_eq_true_eq, fa_lt]
    omega
theorem srt_grp (hc : c < S.1) : grpd (tV (srtT S c b) c) (tR S) := by
  rw [srt_V hc]
  intro i j k h1 h2 h3 h4
  have a1 := gord_srt S c b i j h1 (by omega)
  have a2 := gord_srt S c b j k h2 h3
  have h4 : tV S c (gord S c b i) = tV S c (gord S c b k) := h4
  show tV S c (gord S c b j) = tV S c (gord S c b k)
  rw [h4] at a1
  unfold keyv at a1 a2
  rw [fa_eq]
  cases b with
  | true => simp only [if_true] at a1 a2; omega
  | false => simp only [Bool.false_eq_true, if_false] at a1 a2; omega
theorem srt_runs (hG : GS S) (hc : c < S.1) : gruns (tV (srtT S c b) c) (fun k => k) (tR S) = dsz (dcol (tV (srtT S c b) c) (tR S)) := by
  obtain ⟨g1, g2⟩ := hG.srt c b
  refine runs_grp _ (fun r hr => ?_) (srt_grp hc)
  exact (g1.2.2.2.2.1 c r hc (by rw [g2]; exact hr)).1
theorem srt_asc (hc : c < S.1) : gasc (tV (srtT S c true) c) (tR S) := by
  rw [srt_V hc]
  intro r h0 hr
  have := gord_srt S c true (r - 1) r (by omega) hr
  unfold keyv at this
  simp only [if_true] at this
  rw [fa_le]
  exact this
theorem ct_fsum (p : Nat → Bool) : ∀ n, fb_ct p n = fsum (fun (a : Nat) (x : Bool) => a + if x then 1 else 0) 0 p n
  | 0 => rfl
  | n + 1 => by
    rw [fb_ct_succ, ct_fsum p n]
    rfl
theorem ct_srt (p : Nat → Bool) (wr : Nat → Nat → Bool) (n : Nat) : fb_ct (fun k => p (sSort wr n k)) n = fb_ct p n := by
  rw [ct_fsum, ct_fsum]
  exact sSort_sum (fun a x y => by omega) p wr n
theorem srt_ss (hG : GS S) {k : Nat} : ssel (srtT S c b) k = ssel S (gord S c b k) :=
  ssel_cong rfl (fun i hi => by rw [srt_V (hG.2.2.2.2.2.2 i hi).1])
theorem srt_sel (hG : GS S) : fb_ct (ssel (srtT S c b)) (tR S) = fb_ct (ssel S) (tR S) := by
  rw [fb_ct_cong (q := fun k => ssel S (gord S c b k)) (fun k _ => srt_ss hG)]
  exact ct_srt _ _ _
def adL (a : Int64) (x : Bool × Int64) : Int64 := if x.1 = true then a + x.2 else a
theorem gsum_fs (S : gT) (c : Nat) : ∀ n, gsumL S c n = fsum adL 0 (fun r => (ssel S r, (tV S c r).toInt64)) n
  | 0 => rfl
  | n + 1 => by
    show (if ssel S n = true then gsumL S c n + (tV S c n).toInt64 else gsumL S c n) = _
    rw [gsum_fs S c n]
    rfl
theorem srt_sum (hG : GS S) {o : Nat} (ho : o < S.1) : gsumL (srtT S c b) o (tR S) = gsumL S o (tR S) := by
  rw [gsum_fs, gsum_fs, fsum_cong (g := fun k => (fun r => (ssel S r, (tV S o r).toInt64)) (gord S c b k)) (fun k _ => by rw [srt_ss hG, srt_V ho])]
  refine (sSort_sum (add := adL) (z := 0) ?_ (fun r => (ssel S r, (tV S o r).toInt64)) (fun x y => gwr b (tV S c x) (tV S c y)) (tR S) : _)
  intro a x y
  unfold adL
  by_cases hx : x.1 = true
  · by_cases hy : y.1 = true
    · simp only [hx, hy, if_true]
      rw [Int64.add_assoc, Int64.add_assoc, Int64.add_comm x.2]
    · simp only [hx, hy, if_true, if_false]
      rfl
  · by_cases hy : y.1 = true
    · simp only [hx, hy, if_true, if_false]
      rfl
    · simp only [hx, hy]
      rfl
theorem srt_rby : fb_sm (fun o => gruns (tV (srtT S c true) o) (fun k => k) (tR S)) S.1 = grby S c :=
  fb_sm_cong (fun o ho => by rw [srt_V ho]; rfl)
theorem ssel_iff {r : Nat} : ssel S r = true ↔ ∀ i, i < tK S → sful S r i = true := by
  constructor
  · intro h i hi
    exact ssel_ful h hi
  · intro h
    refine decide_eq_true ?_
    unfold srej
    exact fa_first_succ (fun i hi => by rw [h i hi]; rfl) (.inr rfl) (Nat.le_refl _)
theorem add_sel {v d : Int32} {r : Nat} (h : ssel (addT S c v d) r = true) : ssel S r = true := by
  rw [ssel_iff] at h ⊢
  intro i hi
  have := h i (by show i < tK S + 1; omega)
  unfold sful at this ⊢
  have e1 : tFc (addT S c v d) i = tFc S i := if_neg (by omega)
  have e2 : tFv (addT S c v d) i = tFv S i := if_neg (by omega)
  have e3 : tFd (addT S c v d) i = tFd S i := if_neg (by omega)
  rw [e1, e2, e3] at this
  exact this
theorem add_sel_le {v d : Int32} {n : Nat} : fb_ct (ssel (addT S c v d)) n ≤ fb_ct (ssel S) n := fb_ct_sub (fun _ _ h => add_sel h)
theorem rem_sel {q r : Nat} (h : ssel S r = true) : ssel (remT S q) r = true := by
  rw [ssel_iff] at h ⊢
  intro i hi
  have hi : i < tK S - 1 := hi
  by_cases z : i < q
  · have := h i (by omega)
    unfold sful at this ⊢
    have e1 : tFc (remT S q) i = tFc S i := if_pos z
    have e2 : tFv (remT S q) i = tFv S i := if_pos z
    have e3 : tFd (remT S q) i = tFd S i := if_pos z
    rw [e1, e2, e3]
    exact this
  · have := h (i + 1) (by omega)
    unfold sful at this ⊢
    have e1 : tFc (remT S q) i = tFc S (i + 1) := if_neg z
    have e2 : tFv (remT S q) i = tFv S (i + 1) := if_neg z
    have e3 : tFd (remT S q) i = tFd S (i + 1) := if_neg z
    rw [e1, e2, e3]
    exact this
theorem rem_sel_ge {q n : Nat} : fb_ct (ssel S) n ≤ fb_ct (ssel (remT S q)) n := fb_ct_sub (fun _ _ h => rem_sel h)
theorem none_sel {n : Nat} (h : tK S = 0) : fb_ct (ssel S) n = n := fb_ct_all.mpr (fun k _ => ssel_iff.mpr (fun i hi => by omega))
theorem del_none (hG : GS S) : fb_ct (ssel (delT S)) (tR (delT S)) = 0 := by
  rw [hG.del.2]
  refine fb_ct_zero.mpr (fun k hk => ?_)
  obtain ⟨a1, a2, a3⟩ := kth_ok hk
  have e : ssel (delT S) k = ssel S (kth (fun q => !ssel S q) (tR S) k) := ssel_cong rfl (fun i hi => by
    show ((mapC (fun _ y => opKp (fun q => !ssel S q) (tR S) y) S.1 S).2.1 (tFc S i)).2.1 k = _
    rw [mapC_col (hG.2.2.2.2.2.2 i hi).1]
    rfl)
  rw [e]
  simpa using a2
theorem del_ct : tR S - fb_ct (fun q => !ssel S q) (tR S) = fb_ct (ssel S) (tR S) := by
  have := fb_ct_not (ssel S) (tR S)
  omega
end SOR
