/-! pure: the state stays as it should be -/
theorem GQ.err {Q : gQ} (h : GQ Q) (e : Int32 × Int32) : GQ (qErr (qI Q 0 (qB Q)) e) := by
  obtain ⟨a1, a2, a3, a4, a5, a6, a7, a8, a9⟩ := h
  exact ⟨a1, a2, a3, a4, a5, a6, a7, Nat.zero_le _, a9⟩
theorem GQ.inp {Q : gQ} (h : GQ Q) {n : Nat} (u : Nat → Nat) (hn : n ≤ 700) : GQ (qI Q n u) := by
  obtain ⟨a1, a2, a3, a4, a5, a6, a7, a8, a9⟩ := h
  exact ⟨a1, a2, a3, a4, a5, a6, a7, hn, a9⟩
theorem GQ.out {Q : gQ} (h : GQ Q) {o : Nat × (Nat → Int32)} (ho : o.1 ≤ 36) : GQ (qOut Q o) := by
  obtain ⟨a1, a2, a3, a4, a5, a6, a7, a8, a9⟩ := h
  exact ⟨a1, a2, a3, a4, a5, a6, a7, a8, ho⟩
theorem GQ.sav {Q : gQ} (h : GQ Q) : GQ (qS Q, cpT (qS Q) (qU Q), true, Q.2.2.2) := by
  obtain ⟨a1, a2, a3, a4, a5, a6, a7, a8, a9⟩ := h
  exact ⟨a1, fun _ => (a1.cp _).1, a3, a1.2.1, a5, a6, a7, a8, a9⟩
theorem GQ.res {Q : gQ} (h : GQ Q) (hh : qH Q = true) : GQ (cpT (qU Q) (qS Q), qU Q, qH Q, (qX Q, 0, qR Q), Q.2.2.2.2) := by
  obtain ⟨a1, a2, a3, a4, a5, a6, a7, a8, a9⟩ := h
  exact ⟨((a2 hh).cp _).1, a2, fun i hi => absurd hi (Nat.not_lt_zero _), a4, a5, a6, Nat.zero_le _, a8, a9⟩
theorem GQ.und {Q : gQ} (h : GQ Q) (hz : 0 < qZ Q) : GQ (cpT (qR Q ((qX Q + 7) % 8)) (qS Q), qU Q, qH Q, ((qX Q + 7) % 8, qZ Q - 1, qR Q), Q.2.2.2.2) := by
  obtain ⟨a1, a2, a3, a4, a5, a6, a7, a8, a9⟩ := h
  have hg := a3 (qZ Q - 1) (by omega)
  rw [show (qX Q + 8 - qZ Q + (qZ Q - 1)) % 8 = (qX Q + 7) % 8 by omega] at hg
  refine ⟨(hg.cp _).1, a2, fun i hi => ?_, a4, a5, Nat.mod_lt _ (by decide), ?_, a8, a9⟩
  · have hi : i < qZ Q - 1 := hi
    show GS (qR Q (((qX Q + 7) % 8 + 8 - (qZ Q - 1) + i) % 8))
    rw [show ((qX Q + 7) % 8 + 8 - (qZ Q - 1) + i) % 8 = (qX Q + 8 - qZ Q + i) % 8 by omega]
    exact a3 i (by omega)
  · show qZ Q - 1 ≤ 8
    omega
theorem GQ.load {Q : gQ} (h : GQ Q) {S' : gT} (hS : GS S') (b : Nat × (Nat → Nat)) (hb : b.1 ≤ 700) (e : Int32 × Int32) : GQ (S', qU Q, false, (qX Q, 0, qR Q), b, e, Q.2.2.2.2.2.2) := by
  obtain ⟨a1, a2, a3, a4, a5, a6, a7, a8, a9⟩ := h
  exact ⟨hS, fun z => absurd (show false = true from z) (by decide), fun i hi => absurd hi (Nat.not_lt_zero _), a4, a5, a6, Nat.zero_le _, hb, a9⟩
