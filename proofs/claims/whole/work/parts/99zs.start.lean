/-! the start: the terms of the constants, and what the Statement gives of them -/
def stL (n : String) : Term := .static "PackedTable$Kind" n "LPackedTable$Kind;"
def tFC : Term := .static "PackedTable" "FIRST_CELLS" "[I"
def tKI : Term := .static "PackedTable$Parser" "KINDS" "[LPackedTable$Kind;"
def tSW : Term := .static "PackedTable$1" "$SwitchMap$PackedTable$Kind" "[I"
def tSI : Term := .static "jdk/internal/util/Preconditions" "SIOOBE_FORMATTER" "Ljava/util/function/BiFunction;"
/-- the constants' terms -/
def gtm : Nat → Term
  | 0 => .string "PackedTable$Parser" 81
  | 1 => .string "PackedTable$Parser" 165
  | 2 => .string "PackedTableModel" 53
  | 3 => .string "PackedTableModel" 54
  | 4 => .string "PackedTableModel" 56
  | 5 => .string "PackedTableModel" 58
  | 6 => .string "PackedTableModel" 60
  | 7 => .string "PackedTableModel" 62
  | 8 => .string "PackedTableModel" 64
  | 9 => .string "PackedTableModel" 66
  | 10 => .string "PackedTableModel" 68
  | 11 => .string "PackedTableModel" 374
  | 12 => .string "PackedTableModel" 400
  | 13 => .string "PackedTable$Kind" 55
  | 14 => .string "PackedTable$Kind" 61
  | 15 => .string "PackedTable$Kind" 64
  | 16 => .string "PackedTable$Kind" 67
  | 17 => .string "PackedTable$Kind" 70
  | 18 => .string "PackedTable$Kind" 73
  | 19 => .string "PackedTable$Kind" 76
  | 20 => .string "PackedTable$Kind" 79
  | 21 => .string "PackedTable$Kind" 82
  | 30 => stL "ROW"
  | 31 => stL "SET"
  | 32 => stL "SORT"
  | 33 => stL "LESS"
  | 34 => stL "EQUAL"
  | 35 => stL "GREATER"
  | 36 => stL "DROP"
  | 37 => stL "DELETE"
  | 38 => stL "COMPACT"
  | 40 => tFC
  | 41 => tKI
  | 42 => tSW
  | 70 => .string "PackedTable" 349
  | 71 => .string "PackedTable" 352
  | 72 => .string "PackedTable" 357
  | 73 => .string "PackedTable" 359
  | 74 => .string "PackedTable" 168
  | 75 => .string "PackedTable" 364
  | 76 => .string "PackedTable" 368
  | 77 => .string "PackedTable" 366
  | 78 => .string "PackedTable" 268
  | 79 => .string "PackedTable" 388
  | 80 => .string "PackedTable" 334
  | 81 => .string "PackedTable" 337
  | 82 => .string "PackedTable" 345
  | _ => .null
/-- the premises of the start, one by one -/
def FL : List Cond := flatC (Jvm.Cond.and given_1 narrow_1)
def tVal (k : Nat) : Term := .field (gtm k) "java/lang/String" "value" "[B"
def sBase (k : Nat) : Nat := [235, 401, 459, 466, 473, 481, 489, 498, 509, 517, 527, 538, 548, 557, 565, 573, 582, 591, 601, 613, 622, 633].getD k 0
def eBase (k : Nat) : Nat := [217, 244, 262, 277, 293, 309, 330, 352, 374, 385, 409, 425, 444].getD k 0
def kBase (k : Nat) : Nat := [4, 61, 65, 70, 76, 83, 91, 100, 110].getD k 0
def pStr (k : Nat) : Nat → Cond
  | 0 => .exactly (gtm k) "java/lang/String"
  | 1 => .eq (.field (gtm k) "java/lang/String" "coder" "B") (.int 0)
  | 2 => .arrayOf (tVal k) .byte
  | 3 => .eq (.length (tVal k)) (.int (Int32.ofNat (txt k).length))
  | j + 4 => .eq (.elem (tVal k) (.int (Int32.ofNat j))) (.int (Int32.ofNat ((txt k).getD j 0)))
theorem pStr_ok : ∀ k, k < 22 → ∀ i, i < 4 + (txt k).length → FL[sBase k + i]? = some (pStr k i) := by decide +kernel
theorem pExc_ok : ∀ k, k < 13 → FL[eBase k]? = some (.exactly (gtm (70 + k)) "java/lang/String") := by decide +kernel
theorem pKnd_ok : ∀ q, q < 9 → FL[kBase q]? = some (.exactly (gtm (30 + q)) "PackedTable$Kind") ∧ FL[kBase q + 1]? = some (.eq (.field (gtm (30 + q)) "java/lang/Enum" "ordinal" "I") (.int (Int32.ofNat q))) ∧ FL[kBase q + 2]? = some (.eq (.field (gtm (30 + q)) "PackedTable$Kind" "word" "Ljava/lang/String;") (gtm (13 + q))) := by decide +kernel
theorem pFC_ok : FL[8]? = some (.arrayOf tFC .int) ∧ FL[9]? = some (.eq (.length tFC) (.int (Int32.ofNat 18))) ∧ ∀ j, j < 18 → FL[10 + j]? = some (.eq (.elem tFC (.int (Int32.ofNat j))) (.int (firstC.getD j 0))) := by decide +kernel
theorem pSW_ok : FL[50]? = some (.arrayOf tSW .int) ∧ FL[51]? = some (.eq (.length tSW) (.int (Int32.ofNat 9))) ∧ ∀ j, j < 9 → FL[52 + j]? = some (.eq (.elem tSW (.int (Int32.ofNat j))) (.int (Int32.ofNat (swm.getD j 0)))) := by decide +kernel
theorem pKI_ok : FL[37]? = some (.arrayOf tKI (.object "PackedTable$Kind")) ∧ FL[38]? = some (.eq (.length tKI) (.int (Int32.ofNat 9))) ∧ ∀ j, j < 9 → FL[40 + j]? = some (.eq (.elem tKI (.int (Int32.ofNat j))) (gtm (30 + j))) := by decide +kernel
theorem pUS : FL[28]? = some (.isRef (.static Bundle.tN "UNASSIGNED_STACK" Bundle.steD)) := by decide +kernel
theorem pSS : FL[29]? = some (.isRef (.static Bundle.tN "SUPPRESSED_SENTINEL" Bundle.listD)) := by decide +kernel
theorem pCS : FL[30]? = some (.eq (.static "java/lang/String" "COMPACT_STRINGS" "Z") (.int 1)) := by decide +kernel
theorem pSI : FL[31]? = some (.isRef tSI) := by decide +kernel
theorem pNc0 : FL[149]? = some (.not (.castable "java/lang/IllegalArgumentException" "java/lang/IndexOutOfBoundsException")) := by decide +kernel
theorem pNc1 : FL[150]? = some (.not (.castable "java/lang/IllegalStateException" "java/lang/IndexOutOfBoundsException")) := by decide +kernel
theorem pNc2 : FL[135]? = some (.not (.castable "java/lang/IllegalStateException" "java/lang/IllegalArgumentException")) := by decide +kernel
theorem pStr_q : ∀ q ∈ gStr, gtm q.2.2.2 = Term.string q.1 q.2.1 := by decide +kernel
theorem tb_in {w : Cond} (i : Nat) (h : tables_1[i]? = some w) : w ∈ lw_tbl := List.mem_append.mpr (Or.inr (List.mem_of_getElem? h))
theorem tbAI : (Cond.arrayClass .int) ∈ lw_tbl := tb_in 65 (by decide +kernel)
theorem tbAB : (Cond.arrayClass .byte) ∈ lw_tbl := tb_in 151 (by decide +kernel)
theorem tbAJ : (Cond.arrayClass .long) ∈ lw_tbl := tb_in 253 (by decide +kernel)
theorem tbAD : (Cond.arrayClass .double) ∈ lw_tbl := tb_in 2157 (by decide +kernel)
theorem tbO0 : (Cond.arrayOver (.object "PackedTable$Column")) ∈ lw_tbl := tb_in 45 (by decide +kernel)
theorem tbO1 : (Cond.arrayOver (.object "PackedTable$Store")) ∈ lw_tbl := tb_in 111 (by decide +kernel)
theorem tbO2 : (Cond.arrayOver (.object "PackedTable$Command")) ∈ lw_tbl := tb_in 159 (by decide +kernel)
theorem tbO3 : (Cond.arrayOver (.object "java/lang/String")) ∈ lw_tbl := tb_in 1455 (by decide +kernel)
theorem tbS0 : (Cond.laysStatic "PackedTable" "FIRST_CELLS" "[I") ∈ lw_tbl := tb_in 255 (by decide +kernel)
theorem tbI0 : (Cond.initialized "PackedTable") ∈ lw_tbl := tb_in 1 (by decide +kernel)
theorem tbS1 : (Cond.laysStatic "PackedTable$Parser" "KINDS" "[LPackedTable$Kind;") ∈ lw_tbl := tb_in 1356 (by decide +kernel)
theorem tbI1 : (Cond.initialized "PackedTable$Parser") ∈ lw_tbl := tb_in 8 (by decide +kernel)
theorem tbS2 : (Cond.laysStatic "PackedTable$1" "$SwitchMap$PackedTable$Kind" "[I") ∈ lw_tbl := tb_in 1362 (by decide +kernel)
theorem tbI2 : (Cond.initialized "PackedTable$1") ∈ lw_tbl := tb_in 29 (by decide +kernel)
theorem tbS3 : (Cond.laysStatic "PackedTable$Kind" "ROW" "LPackedTable$Kind;") ∈ lw_tbl := tb_in 166 (by decide +kernel)
theorem tbI3 : (Cond.initialized "PackedTable$Kind") ∈ lw_tbl := tb_in 11 (by decide +kernel)
theorem tbS4 : (Cond.laysStatic "java/lang/String" "COMPACT_STRINGS" "Z") ∈ lw_tbl := tb_in 762 (by decide +kernel)
theorem tbI4 : (Cond.initialized "java/lang/String") ∈ lw_tbl := tb_in 22 (by decide +kernel)
theorem tbS5 : (Cond.laysStatic "jdk/internal/util/Preconditions" "SIOOBE_FORMATTER" "Ljava/util/function/BiFunction;") ∈ lw_tbl := tb_in 778 (by decide +kernel)
theorem tbI5 : (Cond.initialized "jdk/internal/util/Preconditions") ∈ lw_tbl := tb_in 24 (by decide +kernel)
theorem tbS6 : (Cond.laysStatic "java/lang/Throwable" "UNASSIGNED_STACK" "[Ljava/lang/StackTraceElement;") ∈ lw_tbl := tb_in 678 (by decide +kernel)
theorem tbI6 : (Cond.initialized "java/lang/Throwable") ∈ lw_tbl := tb_in 18 (by decide +kernel)
theorem tbS7 : (Cond.laysStatic "java/lang/Throwable" "SUPPRESSED_SENTINEL" "Ljava/util/List;") ∈ lw_tbl := tb_in 680 (by decide +kernel)
theorem tbR : ∀ i, i < 35 → ∀ q, gStr[i]? = some q → tables_1[[744, 1385, 1456, 1457, 1458, 1459, 1460, 1461, 1462, 1463, 1464, 2064, 2148, 2163, 2172, 2173, 2174, 2175, 2176, 2177, 2178, 2179, 692, 895, 910, 937, 1005, 1058, 1152, 1191, 1223, 1294, 1426, 1434, 1446].getD i 0]? = some (Cond.stringRef q.1 q.2.1 q.2.2.1) := by
  have h : ∀ i, i < 35 → tables_1[[744, 1385, 1456, 1457, 1458, 1459, 1460, 1461, 1462, 1463, 1464, 2064, 2148, 2163, 2172, 2173, 2174, 2175, 2176, 2177, 2178, 2179, 692, 895, 910, 937, 1005, 1058, 1152, 1191, 1223, 1294, 1426, 1434, 1446].getD i 0]? = (gStr[i]?).map (fun q => Cond.stringRef q.1 q.2.1 q.2.2.1) := by decide +kernel
  intro i hi q hq
  rw [h i hi, hq]
  rfl
theorem tbN1 : Cond.instantiable RX1 3 ∈ lw_tbl := tb_in 66 (by decide +kernel)
theorem tbN2 : Cond.instantiable RX2 6 ∈ lw_tbl := tb_in 160 (by decide +kernel)
theorem tbN3 : Cond.instantiable RX3 2 ∈ lw_tbl := tb_in 72 (by decide +kernel)
theorem tbN4 : Cond.instantiable RX4 4 ∈ lw_tbl := tb_in 47 (by decide +kernel)
theorem tbN5 : Cond.instantiable RX5 3 ∈ lw_tbl := tb_in 105 (by decide +kernel)
theorem tbN6 : Cond.instantiable RX6 7 ∈ lw_tbl := tb_in 124 (by decide +kernel)
theorem tbN8 : Cond.instantiable RX8 2 ∈ lw_tbl := tb_in 241 (by decide +kernel)
theorem tbN9 : Cond.instantiable RX9 9 ∈ lw_tbl := tb_in 153 (by decide +kernel)
theorem tbN10 : Cond.instantiable RX10 3 ∈ lw_tbl := tb_in 223 (by decide +kernel)
theorem tbN11 : Cond.instantiable RX11 3 ∈ lw_tbl := tb_in 39 (by decide +kernel)
theorem tbN12 : Cond.instantiable RX12 11 ∈ lw_tbl := tb_in 31 (by decide +kernel)
theorem tbN13 : Cond.instantiable RX13 29 ∈ lw_tbl := tb_in 1448 (by decide +kernel)
theorem lwC_tbl : ∀ w ∈ lwC, w ∈ lw_tbl := by decide +kernel
theorem lwN_ot : ∀ w ∈ lwN, w.onTables = true := by decide +kernel
