/-! pure: the object is made, its first table is there -/
theorem Phi16 : Phi (fun _ _ => 16) = 66 * 65504 := by decide
theorem gra_ro {E : gE} {σ : gS} {t a n i : Nat} {g : Nat → Int32} (hr : gro E a = true) (hc : gcs E a = .inl (t, n, .inl g)) (hi : i < n) (hn : n < 2 ^ 31) : graI E t σ a (nI i) = some (g i) := by
  have h2 := nI_in hi hn
  unfold graI gat gac
  rw [hr]
  simp only [if_true]
  rw [hc]
  simp only [true_and]
  rw [if_pos h2, nI_clamp (by omega)]
theorem RM.of {E : gE} {w : gWd} {c s x : Nat} (hb : BG E w c s) (hcp : CP w) (hc : 135102 + x ≤ c) (hs : 4323264 + 6 * x ≤ s) : RM E w x := by
  obtain ⟨b1, b2, b3, b4⟩ := hb
  have e : w.2.2 = fun _ _ => 16 := by
    funext j i
    exact hcp j i
  have hp : Phi w.2.2 = 4323264 := by
    rw [e]
    exact Phi16
  exact ⟨by omega, by omega, b4⟩
/-- room that the reference may take -/
theorem RM.bg {E : gE} {w : gWd} {x : Nat} (h : RM E w x) (h0 : 0 < w.1.2.1) : BG E w x (6 * x) := by
  obtain ⟨h1, h2, h3⟩ := h
  exact ⟨by omega, by omega, h0, h3⟩
theorem NW.rm {E : gE} {J : Nat × Nat × Nat → Prop} {w w' : gWd} {c s x y : Nat} (h : NW E J w w' c s) (hR : RM E w x) (hc : c + y ≤ x) (hs : s + 6 * y ≤ 6 * x) : RM E w' y := by
  obtain ⟨-, h1, h2, h3⟩ := h
  obtain ⟨r1, r2, r3⟩ := hR
  have e : w'.2.2 = w.2.2 := by rw [h3]
  refine ⟨?_, ?_, fun a ha => r3 a (by omega)⟩
  · rw [e]
    omega
  · rw [e]
    omega
section MK5
variable {E : gE} {w : gWd} {l x : Nat}
theorem K_init (hO : gOK E) (hb : BG E w (x + 135145 + 355) (6 * x + 4323329 + 6771)) (hcp : CP w) (h : Ob w (10, 25, 0) l 10 [.null, .null, .int 0, .null, .null, .null, .null, .int 0, .null, .null, .null]) (ha : w.1.2.1 = l + 1) : ∃ w', X12_init_f E l w.1 = some w'.1 ∧ RK E w' l (adK l) gQ0 ∧ RM E w' x := by
  obtain ⟨w1, e1, N1, R1⟩ := K_make (cc := x + 135145) (ss := 6 * x + 4323329) hO hb hcp h ha
  have R1 : RK E w1 l (adK l) (gT0, gQ0.2) := R1
  have hR : RM E w1 x := RM.of (c := x + 135145) (s := 6 * x + 4323329) (N1.bg (hb.le (Nat.le_of_eq (Nat.add_comm _ _)) (Nat.le_of_eq (Nat.add_comm _ _)))) (N1.cp hcp) (by omega) (by omega)
  obtain ⟨-, -, ⟨f1, g, f2, f3⟩, -⟩ := id hO
  obtain ⟨w2, e2, F2, S2⟩ := RS.repl (z := fun i => firstC.getD i 0) (cl := gst E 40) hO.1 R1.S (C := 3) (R := 6) (by omega) (by omega) (by omega) first_v (fun w' _ i hi => by
    rw [gra_ro f1 f2 hi (by omega), f3 i hi]) hR
  refine ⟨w2, ?_, R1.st F2 S2, F2.2.2.2 _ hR⟩
  rw [e1, ob_e R1.f0, ob_e R1.c0]
  have e2 : X11_replace_f E (adK l 0) (3 : Int32) (6 : Int32) (gst E 40) w1.1 = some w2.1 := e2
  rw [ob_e e2]
end MK5
