/-! the start: the terms of the constants, and what the Statement gives of them -/
def tRW : Term := .static "PackedTable$Kind" "ROW" "LPackedTable$Kind;"
def tFC : Term := .static "PackedTable" "FIRST_CELLS" "[I"
def tDO : Term := .static "java/lang/Integer" "DigitOnes" "[B"
def tDT : Term := .static "java/lang/Integer" "DigitTens" "[B"
def tSI : Term := .static "jdk/internal/util/Preconditions" "SIOOBE_FORMATTER" "Ljava/util/function/BiFunction;"
/-- the constants' terms -/
def gtm : Nat → Term
  | 0 => .string "PackedTable$Parser" 81
  | 1 => .string "PackedTableLaw" 155
  | 2 => .string "PackedTableLaw" 157
  | 3 => .string "PackedTableLaw" 215
  | 30 => tRW
  | 40 => tFC
  | 43 => tDO
  | 44 => tDT
  | 70 => .string "PackedTable" 349
  | 71 => .string "PackedTable" 352
  | 72 => .string "PackedTable" 357
  | 73 => .string "PackedTable" 359
  | 74 => .string "PackedTable" 168
  | 75 => .string "PackedTable" 364
  | 76 => .string "PackedTable" 368
  | 77 => .string "PackedTable" 366
  | 78 => .string "PackedTable" 268
  | 79 => .string "PackedTable" 388
  | 81 => .string "PackedTable" 337
  | 82 => .string "PackedTable" 345
  | _ => .null
/-- the premises of the start, one by one -/
def FL : List Cond := flatC (Jvm.Cond.and given_1 narrow_1)
def tVal (k : Nat) : Term := .field (gtm k) "java/lang/String" "value" "[B"
def sBase (k : Nat) : Nat := [309, 505, 520, 623].getD k 0
def eBase (k : Nat) : Nat := [291, 358, 380, 400, 450, 422, 474, 558, 535, 593, 0, 319, 340].getD k 0
def pStr (k : Nat) : Nat → Cond
  | 0 => .exactly (gtm k) "java/lang/String"
  | 1 => .eq (.field (gtm k) "java/lang/String" "coder" "B") (.int 0)
  | 2 => .arrayOf (tVal k) .byte
  | 3 => .eq (.length (tVal k)) (.int (Int32.ofNat (txt k).length))
  | j + 4 => .eq (.elem (tVal k) (.int (Int32.ofNat j))) (.int (Int32.ofNat ((txt k).getD j 0)))
theorem pStr_ok : ∀ k, k < 4 → ∀ i, i < 4 + (txt k).length → FL[sBase k + i]? = some (pStr k i) := by decide +kernel
theorem pExc_ok : ∀ k, k < 13 → k ≠ 10 → FL[eBase k]? = some (.exactly (gtm (70 + k)) "java/lang/String") := by decide +kernel
theorem pRW_ok : FL[4]? = some (.exactly (gtm 30) "PackedTable$Kind") := by decide +kernel
theorem pFC_ok : FL[7]? = some (.arrayOf tFC .int) ∧ FL[8]? = some (.eq (.length tFC) (.int (Int32.ofNat 18))) ∧ ∀ j, j < 18 → FL[9 + j]? = some (.eq (.elem tFC (.int (Int32.ofNat j))) (.int (firstC.getD j 0))) := by decide +kernel
theorem pDO_ok : FL[35]? = some (.arrayOf tDO .byte) ∧ FL[36]? = some (.eq (.length tDO) (.int (Int32.ofNat 100))) ∧ ∀ j, j < 100 → FL[37 + j]? = some (.eq (.elem tDO (.int (Int32.ofNat j))) (.int (Int32.ofNat (48 + j % 10)))) := by decide +kernel
theorem pDT_ok : FL[138]? = some (.arrayOf tDT .byte) ∧ FL[139]? = some (.eq (.length tDT) (.int (Int32.ofNat 100))) ∧ ∀ j, j < 100 → FL[140 + j]? = some (.eq (.elem tDT (.int (Int32.ofNat j))) (.int (Int32.ofNat (48 + j / 10)))) := by decide +kernel
theorem pUS : FL[27]? = some (.isRef (.static Bundle.tN "UNASSIGNED_STACK" Bundle.steD)) := by decide +kernel
theorem pSS : FL[28]? = some (.isRef (.static Bundle.tN "SUPPRESSED_SENTINEL" Bundle.listD)) := by decide +kernel
theorem pCS : FL[29]? = some (.eq (.static "java/lang/String" "COMPACT_STRINGS" "Z") (.int 1)) := by decide +kernel
theorem pSI : FL[30]? = some (.isRef tSI) := by decide +kernel
theorem pStr_q : ∀ q ∈ gStr, gtm q.2.2.2 = Term.string q.1 q.2.1 := by decide +kernel
theorem tb_in {w : Cond} (i : Nat) (h : tables_1[i]? = some w) : w ∈ lw_tbl := List.mem_append.mpr (Or.inr (List.mem_append.mpr (Or.inr (List.mem_of_getElem? h))))
theorem tbAI : (Cond.arrayClass .int) ∈ lw_tbl := tb_in 67 (by decide +kernel)
theorem tbAB : (Cond.arrayClass .byte) ∈ lw_tbl := tb_in 153 (by decide +kernel)
theorem tbAJ : (Cond.arrayClass .long) ∈ lw_tbl := tb_in 243 (by decide +kernel)
theorem tbO0 : (Cond.arrayOver (.object "PackedTable$Column")) ∈ lw_tbl := tb_in 47 (by decide +kernel)
theorem tbO1 : (Cond.arrayOver (.object "PackedTable$Store")) ∈ lw_tbl := tb_in 113 (by decide +kernel)
theorem tbO2 : (Cond.arrayOver (.object "PackedTable$Command")) ∈ lw_tbl := tb_in 161 (by decide +kernel)
theorem tbS0 : (Cond.laysStatic "PackedTable" "FIRST_CELLS" "[I") ∈ lw_tbl := tb_in 245 (by decide +kernel)
theorem tbI0 : (Cond.initialized "PackedTable") ∈ lw_tbl := tb_in 1 (by decide +kernel)
theorem tbS1 : (Cond.laysStatic "PackedTable$Kind" "ROW" "LPackedTable$Kind;") ∈ lw_tbl := tb_in 168 (by decide +kernel)
theorem tbI1 : (Cond.initialized "PackedTable$Kind") ∈ lw_tbl := tb_in 11 (by decide +kernel)
theorem tbS2 : (Cond.laysStatic "java/lang/String" "COMPACT_STRINGS" "Z") ∈ lw_tbl := tb_in 451 (by decide +kernel)
theorem tbI2 : (Cond.initialized "java/lang/String") ∈ lw_tbl := tb_in 19 (by decide +kernel)
theorem tbS3 : (Cond.laysStatic "jdk/internal/util/Preconditions" "SIOOBE_FORMATTER" "Ljava/util/function/BiFunction;") ∈ lw_tbl := tb_in 467 (by decide +kernel)
theorem tbI3 : (Cond.initialized "jdk/internal/util/Preconditions") ∈ lw_tbl := tb_in 22 (by decide +kernel)
theorem tbS4 : (Cond.laysStatic "java/lang/Integer" "DigitOnes" "[B") ∈ lw_tbl := tb_in 1245 (by decide +kernel)
theorem tbI4 : (Cond.initialized "java/lang/Integer") ∈ lw_tbl := tb_in 25 (by decide +kernel)
theorem tbS5 : (Cond.laysStatic "java/lang/Integer" "DigitTens" "[B") ∈ lw_tbl := tb_in 1247 (by decide +kernel)
theorem tbI5 : (Cond.initialized "java/lang/Integer") ∈ lw_tbl := tb_in 25 (by decide +kernel)
theorem tbS6 : (Cond.laysStatic "java/lang/Throwable" "UNASSIGNED_STACK" "[Ljava/lang/StackTraceElement;") ∈ lw_tbl := tb_in 367 (by decide +kernel)
theorem tbI6 : (Cond.initialized "java/lang/Throwable") ∈ lw_tbl := tb_in 26 (by decide +kernel)
theorem tbS7 : (Cond.laysStatic "java/lang/Throwable" "SUPPRESSED_SENTINEL" "Ljava/util/List;") ∈ lw_tbl := tb_in 369 (by decide +kernel)
theorem tbR : ∀ i, i < 16 → ∀ q, gStr[i]? = some q → tables_1[[433, 1138, 1139, 1449, 381, 689, 733, 750, 829, 767, 1037, 1339, 1321, 1387, 592, 630].getD i 0]? = some (Cond.stringRef q.1 q.2.1 q.2.2.1) := by
  have h : ∀ i, i < 16 → tables_1[[433, 1138, 1139, 1449, 381, 689, 733, 750, 829, 767, 1037, 1339, 1321, 1387, 592, 630].getD i 0]? = (gStr[i]?).map (fun q => Cond.stringRef q.1 q.2.1 q.2.2.1) := by decide +kernel
  intro i hi q hq
  rw [h i hi, hq]
  rfl
theorem tbNX1 : Cond.instantiable RX1 3 ∈ lw_tbl := tb_in 68 (by decide +kernel)
theorem tbNX2 : Cond.instantiable RX2 6 ∈ lw_tbl := tb_in 162 (by decide +kernel)
theorem tbNX3 : Cond.instantiable RX3 2 ∈ lw_tbl := tb_in 74 (by decide +kernel)
theorem tbNX4 : Cond.instantiable RX4 4 ∈ lw_tbl := tb_in 49 (by decide +kernel)
theorem tbNX5 : Cond.instantiable RX5 3 ∈ lw_tbl := tb_in 107 (by decide +kernel)
theorem tbNX6 : Cond.instantiable RX6 7 ∈ lw_tbl := tb_in 126 (by decide +kernel)
theorem tbNX8 : Cond.instantiable RX8 2 ∈ lw_tbl := tb_in 231 (by decide +kernel)
theorem tbNX9 : Cond.instantiable RX9 9 ∈ lw_tbl := tb_in 155 (by decide +kernel)
theorem tbNX10 : Cond.instantiable RX10 3 ∈ lw_tbl := tb_in 213 (by decide +kernel)
theorem tbNX11 : Cond.instantiable RX11 3 ∈ lw_tbl := tb_in 41 (by decide +kernel)
theorem tbNX12 : Cond.instantiable RX12 11 ∈ lw_tbl := tb_in 33 (by decide +kernel)
theorem tbNJ4 : Cond.instantiable RJ4 4 ∈ lw_tbl := tb_in 1109 (by decide +kernel)
theorem tbNJ0 : Cond.instantiable RJ0 4 ∈ lw_tbl := tb_in 1261 (by decide +kernel)
theorem lwC_tbl : ∀ w ∈ lwC, w ∈ lw_tbl := by decide +kernel
theorem lwN_ot : ∀ w ∈ lwN, w.onTables = true := by decide +kernel
