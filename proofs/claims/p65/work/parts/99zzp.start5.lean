/-! the start: the world holds at the law's entry -/
theorem str_ev {b : Nat} {s : State} (hF : FLs b s) (k : Nat) (hk : k < 4 ∨ 70 ≤ k ∧ k < 83 ∧ k ≠ 80) : (gtm k).eval #[Value.ref b] s none [] s = some (.ref (wk b s k)) := by
  rcases hk with hk | ⟨h1, h2, h3⟩
  · obtain ⟨t, h, -⟩ := str_fact hF k hk
    exact h
  · have h := exc_fact hF (k - 70) (by omega) (by omega)
    rwa [show 70 + (k - 70) = k by omega] at h
theorem gStr_k : ∀ q ∈ gStr, q.2.2.2 < 4 ∨ 70 ≤ q.2.2.2 ∧ q.2.2.2 < 83 ∧ q.2.2.2 ≠ 80 := by decide +kernel
theorem gStr_len : gStr.length = 16 := by decide +kernel
theorem start_gX {b L : Nat} {xs : Nat → Int32} {s : State} {cy : Nat → ClassId} (hF : FLs b s) (hts : lwTs b s) (hX : va_X b L xs s s.heap) (hL : L ≤ 260) : gX (EZ b s cy) (stL' s) s s.heap := by
  refine ⟨fun w hw => va_Nw.of (lwN_ot w hw) (hts w (lwN_tbl w hw)), fun C hC => ?_, fun q hq => ?_, fun q hq => ?_, fun a ha => (role_wk hF hX hL a (roF_r ha)).1, vx_Zqof (hts _ tbS6) (hts _ tbI6) (hF _ _ pUS) (stA_no s), vx_Zqof (hts _ tbS7) (hts _ tbI6) (hF _ _ pSS) (stA_no s), fun q hq => ?_, fun w hw => va_Nw.of (lwC_ot w hw) (hts w (lwC_tbl w hw))⟩
  · simp only [gAO, List.mem_cons, List.not_mem_nil, or_false] at hC
    rcases hC with rfl | rfl | rfl
    · exact va_AO.of (hts _ tbO0)
    · exact va_AO.of (hts _ tbO1)
    · exact va_AO.of (hts _ tbO2)
  · obtain ⟨i, hi⟩ := List.mem_iff_getElem?.mp hq
    have hlt : i < 16 := by
      have h := (List.getElem?_eq_some_iff.mp hi).1
      rwa [gStr_len] at h
    have hb := hts _ (tb_in _ (tbR i hlt q hi))
    have hk := gStr_k q hq
    have hv := str_ev hF _ hk
    rw [pStr_q q hq] at hv
    have e : gst (EZ b s cy) q.2.2.2 = wk b s q.2.2.2 := wst_k (by omega)
    rw [e]
    exact vk_R.of hb hv
  · simp only [gSta, List.mem_cons, List.not_mem_nil, or_false] at hq
    rcases hq with rfl | rfl | rfl | rfl | rfl | rfl
    · exact va_Zof (hts _ tbS0) (hts _ tbI0) (FC_fact hF).1 (stA_no s)
    · exact va_Zof (hts _ tbS1) (hts _ tbI1) (RW_fact hF) (stA_no s)
    · exact va_Zof (hts _ tbS2) (hts _ tbI2) (va_eqi (hF _ _ pCS)) (stA_no s)
    · obtain ⟨o, ho⟩ := SI_fact hF
      have e : gsq (EZ b s cy) = o := by
        have e60 : gst (EZ b s cy) 60 = (match o with | some a => a + 1 | none => 0) := by
          show wst b s 60 = _
          cases o with
          | none => simp [wst, ho, va_rf]
          | some a => simp [wst, ho, va_rf]
        cases o with
        | none => simp [gsq, e60]
        | some a => simp [gsq, e60]
      have h := va_Zof (hts _ tbS3) (hts _ tbI3) ho (stA_no s)
      rw [← e] at h
      exact h
    · exact va_Zof (hts _ tbS4) (hts _ tbI4) (DO_fact hF).1 (stA_no s)
    · exact va_Zof (hts _ tbS5) (hts _ tbI5) (DT_fact hF) (stA_no s)
  · exact absurd hq List.not_mem_nil
theorem start_law {b L : Nat} {xs : Nat → Int32} {s : State} {cy : Nat → ClassId} (hF : FLs b s) (hX : va_X b L xs s s.heap) (hL : L ≤ 260) (hb : b < s.heap.size) : ∃ σ : gS, L_law (EZ b s cy) b (fun _ => gDead, s.heap.size, gsum s.heap) = some (1, σ) := by
  obtain ⟨hro, g, hg⟩ := start_scr (cy := cy) hX hL
  have hBG : BG (EZ b s cy) ((fun _ => gDead, s.heap.size, gsum s.heap), (fun _ => (0, 99, 0)), fun _ _ => 16) (400000 + 135145 + 355 + 1) (2400000 + 4323329 + 6771 + 11) := by
    refine ⟨?_, ?_, ?_, fun a ha => ?_⟩
    · show s.heap.size + (400000 + 135145 + 355 + 1) ≤ 600086 + s.heap.size
      omega
    · show gsum s.heap + (2400000 + 4323329 + 6771 + 11) ≤ 7301442 + gsum s.heap
      omega
    · show 0 < s.heap.size
      omega
    · have ha : s.heap.size ≤ a := ha
      cases hr : gro (EZ b s cy) a with
      | false => rfl
      | true => exact absurd (role_wk (cy := cy) hF hX hL a (roF_r hr)).2 (Nat.not_lt.mpr ha)
  obtain ⟨w', hw⟩ := law_ok (start_ok hF) hro hg (by omega) hBG (fun _ _ => rfl)
  exact ⟨w'.1, hw⟩
