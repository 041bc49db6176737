/-! the words that the tables hold, by their places; lwG: those that a call keeps -/
def lwG : List Cond := lw_tbl.filter goodWord
theorem lwG_tbl {w : Cond} (h : w ∈ lwG) : w ∈ lw_tbl := (List.mem_filter.mp h).1
theorem lwG_good {w : Cond} (h : w ∈ lwG) : goodWord w = true := (List.mem_filter.mp h).2
def lwN : List Cond := [Cond.methodLinkNest RX11 23 yX4_init RX12, Cond.methodLinkNest RX11 28 yX1_init RX12, Cond.methodLinkNest RX1 17 yX3_init RX12, Cond.methodLinkNest RX12 28 yX6_init RX12, Cond.methodLinkNest RX9 29 yX2_init RX12, Cond.methodLinkNest RX12 48 yX10_init RX12, Cond.methodLinkNest RX12 55 yX3_init RX12, Cond.methodLinkNest RX12 62 yX8_init RX12]
theorem lwN_tbl : ∀ w ∈ lwN, w ∈ lw_tbl := by decide +kernel
theorem mn_X11_23 : Cond.methodLinkNest RX11 23 yX4_init RX12 ∈ lwN := List.mem_of_getElem? (i := 0) rfl
theorem mn_X11_28 : Cond.methodLinkNest RX11 28 yX1_init RX12 ∈ lwN := List.mem_of_getElem? (i := 1) rfl
theorem mn_X1_17 : Cond.methodLinkNest RX1 17 yX3_init RX12 ∈ lwN := List.mem_of_getElem? (i := 2) rfl
theorem mn_X12_28 : Cond.methodLinkNest RX12 28 yX6_init RX12 ∈ lwN := List.mem_of_getElem? (i := 3) rfl
theorem mn_X9_29 : Cond.methodLinkNest RX9 29 yX2_init RX12 ∈ lwN := List.mem_of_getElem? (i := 4) rfl
theorem mn_X12_48 : Cond.methodLinkNest RX12 48 yX10_init RX12 ∈ lwN := List.mem_of_getElem? (i := 5) rfl
theorem mn_X12_55 : Cond.methodLinkNest RX12 55 yX3_init RX12 ∈ lwN := List.mem_of_getElem? (i := 6) rfl
theorem mn_X12_62 : Cond.methodLinkNest RX12 62 yX8_init RX12 ∈ lwN := List.mem_of_getElem? (i := 7) rfl
theorem lwN_warm {s U : State} (hW : s.WarmedH U.vm) : ∀ w ∈ lwN, va_Nw w s → va_Nw w U := by
  intro w hw h
  simp only [lwN, List.mem_cons, List.not_mem_nil, or_false] at hw
  rcases hw with rfl | rfl | rfl | rfl | rfl | rfl | rfl | rfl <;> first | exact va_Nw.warmF hW h | exact va_Nw.warmM hW h
theorem lwN_same {s U : State} (hW : s.vm = U.vm) : ∀ w ∈ lwN, va_Nw w s → va_Nw w U := by
  intro w hw h
  simp only [lwN, List.mem_cons, List.not_mem_nil, or_false] at hw
  rcases hw with rfl | rfl | rfl | rfl | rfl | rfl | rfl | rfl <;> exact va_Nw.same rfl hW h
