/-! names: classes, fields, methods: the printed ones -/
def RX0 : String := "PackedTable$1"
def TX0 : u_T := fun k => match k with
  | _ => ("", "", "", false)
def tyX0 : Nat → FieldType := fun k => match k with
  | _ => .int
theorem nmX0 : ∀ a, a < 0 → ∀ b, b < 0 → a ≠ b → (TX0 a).2.1 ≠ (TX0 b).2.1 := by decide +kernel
theorem tyX0_ok : ∀ k, k < 0 → parseFieldDescriptor (TX0 k).2.2.1 = some (tyX0 k) := by decide +kernel
def RX1 : String := "PackedTable$Column"
def TX1 : u_T := fun k => match k with
  | 0 => ("PackedTable$Column", "values", "[I", true)
  | 1 => ("PackedTable$Column", "dictionary", "LPackedTable$Dictionary;", true)
  | _ => ("PackedTable$Column", "length", "I", false)
def tyX1 : Nat → FieldType := fun k => match k with
  | 0 => .array .int
  | 1 => .object "PackedTable$Dictionary"
  | _ => .int
theorem nmX1 : ∀ a, a < 3 → ∀ b, b < 3 → a ≠ b → (TX1 a).2.1 ≠ (TX1 b).2.1 := by decide +kernel
theorem tyX1_ok : ∀ k, k < 3 → parseFieldDescriptor (TX1 k).2.2.1 = some (tyX1 k) := by decide +kernel
abbrev cX1_init : ByteArray := prog_3_method_1_code
def yX1_init : MethodName := ⟨RX1, "<init>", "()V"⟩
abbrev cX1_length : ByteArray := prog_3_method_2_code
def yX1_length : MethodName := ⟨RX1, "length", "()I"⟩
abbrev cX1_dictionary : ByteArray := prog_3_method_3_code
def yX1_dictionary : MethodName := ⟨RX1, "dictionary", "()LPackedTable$Dictionary;"⟩
abbrev cX1_valueAt : ByteArray := prog_3_method_4_code
def yX1_valueAt : MethodName := ⟨RX1, "valueAt", "(I)I"⟩
abbrev cX1_codeAt : ByteArray := prog_3_method_5_code
def yX1_codeAt : MethodName := ⟨RX1, "codeAt", "(I)I"⟩
abbrev cX1_clear : ByteArray := prog_3_method_6_code
def yX1_clear : MethodName := ⟨RX1, "clear", "()V"⟩
abbrev cX1_append : ByteArray := prog_3_method_7_code
def yX1_append : MethodName := ⟨RX1, "append", "(I)V"⟩
abbrev cX1_put : ByteArray := prog_3_method_8_code
def yX1_put : MethodName := ⟨RX1, "put", "(II)V"⟩
abbrev cX1_move : ByteArray := prog_3_method_9_code
def yX1_move : MethodName := ⟨RX1, "move", "(II)V"⟩
abbrev cX1_shorten : ByteArray := prog_3_method_10_code
def yX1_shorten : MethodName := ⟨RX1, "shorten", "(I)V"⟩
abbrev cX1_reorder : ByteArray := prog_3_method_11_code
def yX1_reorder : MethodName := ⟨RX1, "reorder", "(LPackedTable$RowOrder;)V"⟩
abbrev cX1_collectInto : ByteArray := prog_3_method_12_code
def yX1_collectInto : MethodName := ⟨RX1, "collectInto", "(LPackedTable$Dictionary;)V"⟩
abbrev cX1_dropStale : ByteArray := prog_3_method_13_code
def yX1_dropStale : MethodName := ⟨RX1, "dropStale", "()V"⟩
abbrev cX1_occurrences : ByteArray := prog_3_method_14_code
def yX1_occurrences : MethodName := ⟨RX1, "occurrences", "(I)I"⟩
abbrev cX1_commonest : ByteArray := prog_3_method_15_code
def yX1_commonest : MethodName := ⟨RX1, "commonest", "()I"⟩
abbrev cX1_runsIn : ByteArray := prog_3_method_16_code
def yX1_runsIn : MethodName := ⟨RX1, "runsIn", "(LPackedTable$RowOrder;)I"⟩
abbrev cX1_greatestRun : ByteArray := prog_3_method_17_code
def yX1_greatestRun : MethodName := ⟨RX1, "greatestRun", "()I"⟩
abbrev cX1_isAscending : ByteArray := prog_3_method_18_code
def yX1_isAscending : MethodName := ⟨RX1, "isAscending", "()Z"⟩
abbrev cX1_copyFrom : ByteArray := prog_3_method_19_code
def yX1_copyFrom : MethodName := ⟨RX1, "copyFrom", "(LPackedTable$Column;)V"⟩
def RX2 : String := "PackedTable$Command"
def TX2 : u_T := fun k => match k with
  | 0 => ("PackedTable$Command", "kind", "LPackedTable$Kind;", false)
  | 1 => ("PackedTable$Command", "column", "I", false)
  | 2 => ("PackedTable$Command", "number", "I", false)
  | 3 => ("PackedTable$Command", "value", "I", false)
  | 4 => ("PackedTable$Command", "isDown", "Z", false)
  | _ => ("PackedTable$Command", "cells", "[I", true)
def tyX2 : Nat → FieldType := fun k => match k with
  | 0 => .object "PackedTable$Kind"
  | 1 => .int
  | 2 => .int
  | 3 => .int
  | 4 => .boolean
  | _ => .array .int
theorem nmX2 : ∀ a, a < 6 → ∀ b, b < 6 → a ≠ b → (TX2 a).2.1 ≠ (TX2 b).2.1 := by decide +kernel
theorem tyX2_ok : ∀ k, k < 6 → parseFieldDescriptor (TX2 k).2.2.1 = some (tyX2 k) := by decide +kernel
abbrev cX2_init : ByteArray := prog_4_method_1_code
def yX2_init : MethodName := ⟨RX2, "<init>", "()V"⟩
def RX3 : String := "PackedTable$Dictionary"
def TX3 : u_T := fun k => match k with
  | 0 => ("PackedTable$Dictionary", "entries", "[I", false)
  | _ => ("PackedTable$Dictionary", "size", "I", false)
def tyX3 : Nat → FieldType := fun k => match k with
  | 0 => .array .int
  | _ => .int
theorem nmX3 : ∀ a, a < 2 → ∀ b, b < 2 → a ≠ b → (TX3 a).2.1 ≠ (TX3 b).2.1 := by decide +kernel
theorem tyX3_ok : ∀ k, k < 2 → parseFieldDescriptor (TX3 k).2.2.1 = some (tyX3 k) := by decide +kernel
abbrev cX3_init : ByteArray := prog_5_method_1_code
def yX3_init : MethodName := ⟨RX3, "<init>", "()V"⟩
abbrev cX3_widthFor : ByteArray := prog_5_method_2_code
def yX3_widthFor : MethodName := ⟨RX3, "widthFor", "(I)I"⟩
abbrev cX3_size : ByteArray := prog_5_method_3_code
def yX3_size : MethodName := ⟨RX3, "size", "()I"⟩
abbrev cX3_width : ByteArray := prog_5_method_4_code
def yX3_width : MethodName := ⟨RX3, "width", "()I"⟩
abbrev cX3_entry : ByteArray := prog_5_method_5_code
def yX3_entry : MethodName := ⟨RX3, "entry", "(I)I"⟩
abbrev cX3_countBelow : ByteArray := prog_5_method_6_code
def yX3_countBelow : MethodName := ⟨RX3, "countBelow", "(I)I"⟩
abbrev cX3_holds : ByteArray := prog_5_method_7_code
def yX3_holds : MethodName := ⟨RX3, "holds", "(I)Z"⟩
abbrev cX3_find : ByteArray := prog_5_method_8_code
def yX3_find : MethodName := ⟨RX3, "find", "(I)I"⟩
abbrev cX3_insert : ByteArray := prog_5_method_9_code
def yX3_insert : MethodName := ⟨RX3, "insert", "(I)V"⟩
abbrev cX3_clear : ByteArray := prog_5_method_10_code
def yX3_clear : MethodName := ⟨RX3, "clear", "()V"⟩
abbrev cX3_copyFrom : ByteArray := prog_5_method_11_code
def yX3_copyFrom : MethodName := ⟨RX3, "copyFrom", "(LPackedTable$Dictionary;)V"⟩
def RX4 : String := "PackedTable$Filter"
def TX4 : u_T := fun k => match k with
  | 0 => ("PackedTable$Filter", "columns", "[I", true)
  | 1 => ("PackedTable$Filter", "values", "[I", true)
  | 2 => ("PackedTable$Filter", "directions", "[I", true)
  | _ => ("PackedTable$Filter", "size", "I", false)
def tyX4 : Nat → FieldType := fun k => match k with
  | 0 => .array .int
  | 1 => .array .int
  | 2 => .array .int
  | _ => .int
theorem nmX4 : ∀ a, a < 4 → ∀ b, b < 4 → a ≠ b → (TX4 a).2.1 ≠ (TX4 b).2.1 := by decide +kernel
theorem tyX4_ok : ∀ k, k < 4 → parseFieldDescriptor (TX4 k).2.2.1 = some (tyX4 k) := by decide +kernel
abbrev cX4_init : ByteArray := prog_6_method_1_code
def yX4_init : MethodName := ⟨RX4, "<init>", "()V"⟩
abbrev cX4_size : ByteArray := prog_6_method_2_code
def yX4_size : MethodName := ⟨RX4, "size", "()I"⟩
abbrev cX4_isFull : ByteArray := prog_6_method_3_code
def yX4_isFull : MethodName := ⟨RX4, "isFull", "()Z"⟩
abbrev cX4_has : ByteArray := prog_6_method_4_code
def yX4_has : MethodName := ⟨RX4, "has", "(I)Z"⟩
abbrev cX4_columnOf : ByteArray := prog_6_method_5_code
def yX4_columnOf : MethodName := ⟨RX4, "columnOf", "(I)I"⟩
abbrev cX4_valueOf : ByteArray := prog_6_method_6_code
def yX4_valueOf : MethodName := ⟨RX4, "valueOf", "(I)I"⟩
abbrev cX4_directionOf : ByteArray := prog_6_method_7_code
def yX4_directionOf : MethodName := ⟨RX4, "directionOf", "(I)I"⟩
abbrev cX4_allows : ByteArray := prog_6_method_8_code
def yX4_allows : MethodName := ⟨RX4, "allows", "(II)Z"⟩
abbrev cX4_add : ByteArray := prog_6_method_9_code
def yX4_add : MethodName := ⟨RX4, "add", "(III)V"⟩
abbrev cX4_remove : ByteArray := prog_6_method_10_code
def yX4_remove : MethodName := ⟨RX4, "remove", "(I)V"⟩
abbrev cX4_clear : ByteArray := prog_6_method_11_code
def yX4_clear : MethodName := ⟨RX4, "clear", "()V"⟩
abbrev cX4_copyFrom : ByteArray := prog_6_method_12_code
def yX4_copyFrom : MethodName := ⟨RX4, "copyFrom", "(LPackedTable$Filter;)V"⟩
def RX5 : String := "PackedTable$History"
def TX5 : u_T := fun k => match k with
  | 0 => ("PackedTable$History", "ring", "[LPackedTable$Store;", true)
  | 1 => ("PackedTable$History", "next", "I", false)
  | _ => ("PackedTable$History", "size", "I", false)
def tyX5 : Nat → FieldType := fun k => match k with
  | 0 => .array (.object "PackedTable$Store")
  | 1 => .int
  | _ => .int
theorem nmX5 : ∀ a, a < 3 → ∀ b, b < 3 → a ≠ b → (TX5 a).2.1 ≠ (TX5 b).2.1 := by decide +kernel
theorem tyX5_ok : ∀ k, k < 3 → parseFieldDescriptor (TX5 k).2.2.1 = some (tyX5 k) := by decide +kernel
abbrev cX5_init : ByteArray := prog_7_method_1_code
def yX5_init : MethodName := ⟨RX5, "<init>", "()V"⟩
abbrev cX5_size : ByteArray := prog_7_method_2_code
def yX5_size : MethodName := ⟨RX5, "size", "()I"⟩
abbrev cX5_clear : ByteArray := prog_7_method_3_code
def yX5_clear : MethodName := ⟨RX5, "clear", "()V"⟩
abbrev cX5_record : ByteArray := prog_7_method_4_code
def yX5_record : MethodName := ⟨RX5, "record", "(LPackedTable$Store;)V"⟩
abbrev cX5_takeBack : ByteArray := prog_7_method_5_code
def yX5_takeBack : MethodName := ⟨RX5, "takeBack", "(LPackedTable$Store;)V"⟩
def RX6 : String := "PackedTable$Input"
def TX6 : u_T := fun k => match k with
  | 0 => ("PackedTable$Input", "bytes", "[B", true)
  | 1 => ("PackedTable$Input", "size", "I", false)
  | 2 => ("PackedTable$Input", "textLength", "I", false)
  | 3 => ("PackedTable$Input", "kind", "I", false)
  | 4 => ("PackedTable$Input", "start", "I", false)
  | 5 => ("PackedTable$Input", "end", "I", false)
  | _ => ("PackedTable$Input", "number", "I", false)
def tyX6 : Nat → FieldType := fun k => match k with
  | 0 => .array .byte
  | 1 => .int
  | 2 => .int
  | 3 => .int
  | 4 => .int
  | 5 => .int
  | _ => .int
theorem nmX6 : ∀ a, a < 7 → ∀ b, b < 7 → a ≠ b → (TX6 a).2.1 ≠ (TX6 b).2.1 := by decide +kernel
theorem tyX6_ok : ∀ k, k < 7 → parseFieldDescriptor (TX6 k).2.2.1 = some (tyX6 k) := by decide +kernel
abbrev cX6_init : ByteArray := prog_8_method_1_code
def yX6_init : MethodName := ⟨RX6, "<init>", "()V"⟩
abbrev cX6_size : ByteArray := prog_8_method_2_code
def yX6_size : MethodName := ⟨RX6, "size", "()I"⟩
abbrev cX6_append : ByteArray := prog_8_method_3_code
def yX6_append : MethodName := ⟨RX6, "append", "(I)V"⟩
abbrev cX6_clear : ByteArray := prog_8_method_4_code
def yX6_clear : MethodName := ⟨RX6, "clear", "()V"⟩
abbrev cX6_startText : ByteArray := prog_8_method_5_code
def yX6_startText : MethodName := ⟨RX6, "startText", "(I)V"⟩
abbrev cX6_next : ByteArray := prog_8_method_6_code
def yX6_next : MethodName := ⟨RX6, "next", "()V"⟩
abbrev cX6_kindAt : ByteArray := prog_8_method_7_code
def yX6_kindAt : MethodName := ⟨RX6, "kindAt", "(I)I"⟩
abbrev cX6_offset : ByteArray := prog_8_method_8_code
def yX6_offset : MethodName := ⟨RX6, "offset", "()I"⟩
abbrev cX6_isAtEnd : ByteArray := prog_8_method_9_code
def yX6_isAtEnd : MethodName := ⟨RX6, "isAtEnd", "()Z"⟩
abbrev cX6_isNumber : ByteArray := prog_8_method_10_code
def yX6_isNumber : MethodName := ⟨RX6, "isNumber", "()Z"⟩
abbrev cX6_number : ByteArray := prog_8_method_11_code
def yX6_number : MethodName := ⟨RX6, "number", "()I"⟩
abbrev cX6_isSemicolon : ByteArray := prog_8_method_12_code
def yX6_isSemicolon : MethodName := ⟨RX6, "isSemicolon", "()Z"⟩
abbrev cX6_isMinus : ByteArray := prog_8_method_13_code
def yX6_isMinus : MethodName := ⟨RX6, "isMinus", "()Z"⟩
abbrev cX6_isWord : ByteArray := prog_8_method_14_code
def yX6_isWord : MethodName := ⟨RX6, "isWord", "(Ljava/lang/String;)Z"⟩
def RX7 : String := "PackedTable$Kind"
def TX7 : u_T := fun k => match k with
  | _ => ("", "", "", false)
def tyX7 : Nat → FieldType := fun k => match k with
  | _ => .int
theorem nmX7 : ∀ a, a < 0 → ∀ b, b < 0 → a ≠ b → (TX7 a).2.1 ≠ (TX7 b).2.1 := by decide +kernel
theorem tyX7_ok : ∀ k, k < 0 → parseFieldDescriptor (TX7 k).2.2.1 = some (tyX7 k) := by decide +kernel
def RX8 : String := "PackedTable$Packer"
def TX8 : u_T := fun k => match k with
  | 0 => ("PackedTable$Packer", "words", "[J", true)
  | _ => ("PackedTable$Packer", "width", "I", false)
def tyX8 : Nat → FieldType := fun k => match k with
  | 0 => .array .long
  | _ => .int
theorem nmX8 : ∀ a, a < 2 → ∀ b, b < 2 → a ≠ b → (TX8 a).2.1 ≠ (TX8 b).2.1 := by decide +kernel
theorem tyX8_ok : ∀ k, k < 2 → parseFieldDescriptor (TX8 k).2.2.1 = some (tyX8 k) := by decide +kernel
abbrev cX8_init : ByteArray := prog_10_method_1_code
def yX8_init : MethodName := ⟨RX8, "<init>", "()V"⟩
abbrev cX8_pack : ByteArray := prog_10_method_2_code
def yX8_pack : MethodName := ⟨RX8, "pack", "(LPackedTable$Column;)V"⟩
abbrev cX8_packCode : ByteArray := prog_10_method_3_code
def yX8_packCode : MethodName := ⟨RX8, "packCode", "(IJ)V"⟩
abbrev cX8_unpack : ByteArray := prog_10_method_4_code
def yX8_unpack : MethodName := ⟨RX8, "unpack", "(I)I"⟩
abbrev cX8_word : ByteArray := prog_10_method_5_code
def yX8_word : MethodName := ⟨RX8, "word", "(I)J"⟩
def RX9 : String := "PackedTable$Parser"
def TX9 : u_T := fun k => match k with
  | 0 => ("PackedTable$Parser", "input", "LPackedTable$Input;", true)
  | 1 => ("PackedTable$Parser", "error", "I", false)
  | 2 => ("PackedTable$Parser", "offset", "I", false)
  | 3 => ("PackedTable$Parser", "number", "I", false)
  | 4 => ("PackedTable$Parser", "columns", "I", false)
  | 5 => ("PackedTable$Parser", "rows", "I", false)
  | 6 => ("PackedTable$Parser", "cells", "[I", true)
  | 7 => ("PackedTable$Parser", "commands", "[LPackedTable$Command;", true)
  | _ => ("PackedTable$Parser", "commandCount", "I", false)
def tyX9 : Nat → FieldType := fun k => match k with
  | 0 => .object "PackedTable$Input"
  | 1 => .int
  | 2 => .int
  | 3 => .int
  | 4 => .int
  | 5 => .int
  | 6 => .array .int
  | 7 => .array (.object "PackedTable$Command")
  | _ => .int
theorem nmX9 : ∀ a, a < 9 → ∀ b, b < 9 → a ≠ b → (TX9 a).2.1 ≠ (TX9 b).2.1 := by decide +kernel
theorem tyX9_ok : ∀ k, k < 9 → parseFieldDescriptor (TX9 k).2.2.1 = some (tyX9 k) := by decide +kernel
abbrev cX9_init : ByteArray := prog_11_method_1_code
def yX9_init : MethodName := ⟨RX9, "<init>", "(LPackedTable$Input;)V"⟩
abbrev cX9_columns : ByteArray := prog_11_method_4_code
def yX9_columns : MethodName := ⟨RX9, "columns", "()I"⟩
abbrev cX9_rows : ByteArray := prog_11_method_5_code
def yX9_rows : MethodName := ⟨RX9, "rows", "()I"⟩
abbrev cX9_cells : ByteArray := prog_11_method_6_code
def yX9_cells : MethodName := ⟨RX9, "cells", "()[I"⟩
abbrev cX9_readTable : ByteArray := prog_11_method_9_code
def yX9_readTable : MethodName := ⟨RX9, "readTable", "(I)Z"⟩
abbrev cX9_readRow : ByteArray := prog_11_method_10_code
def yX9_readRow : MethodName := ⟨RX9, "readRow", "(II)Z"⟩
abbrev cX9_start : ByteArray := prog_11_method_12_code
def yX9_start : MethodName := ⟨RX9, "start", "(I)V"⟩
abbrev cX9_fail : ByteArray := prog_11_method_13_code
def yX9_fail : MethodName := ⟨RX9, "fail", "(I)Z"⟩
abbrev cX9_takeHead : ByteArray := prog_11_method_14_code
def yX9_takeHead : MethodName := ⟨RX9, "takeHead", "()Z"⟩
abbrev cX9_takeTableRow : ByteArray := prog_11_method_15_code
def yX9_takeTableRow : MethodName := ⟨RX9, "takeTableRow", "()Z"⟩
abbrev cX9_failAtExtraRow : ByteArray := prog_11_method_16_code
def yX9_failAtExtraRow : MethodName := ⟨RX9, "failAtExtraRow", "()Z"⟩
abbrev cX9_takeRow : ByteArray := prog_11_method_17_code
def yX9_takeRow : MethodName := ⟨RX9, "takeRow", "([II)Z"⟩
abbrev cX9_takeInteger : ByteArray := prog_11_method_25_code
def yX9_takeInteger : MethodName := ⟨RX9, "takeInteger", "()Z"⟩
abbrev cX9_takeNumber : ByteArray := prog_11_method_26_code
def yX9_takeNumber : MethodName := ⟨RX9, "takeNumber", "(II)Z"⟩
abbrev cX9_takeWord : ByteArray := prog_11_method_27_code
def yX9_takeWord : MethodName := ⟨RX9, "takeWord", "(Ljava/lang/String;)Z"⟩
abbrev cX9_takeSemicolon : ByteArray := prog_11_method_28_code
def yX9_takeSemicolon : MethodName := ⟨RX9, "takeSemicolon", "()Z"⟩
abbrev cX9_takeEnd : ByteArray := prog_11_method_29_code
def yX9_takeEnd : MethodName := ⟨RX9, "takeEnd", "()Z"⟩
def RX10 : String := "PackedTable$RowOrder"
def TX10 : u_T := fun k => match k with
  | 0 => ("PackedTable$RowOrder", "sources", "[I", true)
  | 1 => ("PackedTable$RowOrder", "moved", "[I", true)
  | _ => ("PackedTable$RowOrder", "length", "I", false)
def tyX10 : Nat → FieldType := fun k => match k with
  | 0 => .array .int
  | 1 => .array .int
  | _ => .int
theorem nmX10 : ∀ a, a < 3 → ∀ b, b < 3 → a ≠ b → (TX10 a).2.1 ≠ (TX10 b).2.1 := by decide +kernel
theorem tyX10_ok : ∀ k, k < 3 → parseFieldDescriptor (TX10 k).2.2.1 = some (tyX10 k) := by decide +kernel
abbrev cX10_init : ByteArray := prog_12_method_1_code
def yX10_init : MethodName := ⟨RX10, "<init>", "()V"⟩
abbrev cX10_reset : ByteArray := prog_12_method_2_code
def yX10_reset : MethodName := ⟨RX10, "reset", "(I)V"⟩
abbrev cX10_sortBy : ByteArray := prog_12_method_3_code
def yX10_sortBy : MethodName := ⟨RX10, "sortBy", "(LPackedTable$Column;Z)V"⟩
abbrev cX10_isWrong : ByteArray := prog_12_method_4_code
def yX10_isWrong : MethodName := ⟨RX10, "isWrong", "(IIZ)Z"⟩
abbrev cX10_source : ByteArray := prog_12_method_5_code
def yX10_source : MethodName := ⟨RX10, "source", "(I)I"⟩
abbrev cX10_applyTo : ByteArray := prog_12_method_6_code
def yX10_applyTo : MethodName := ⟨RX10, "applyTo", "([I)V"⟩
def RX11 : String := "PackedTable$Store"
def TX11 : u_T := fun k => match k with
  | 0 => ("PackedTable$Store", "table", "[LPackedTable$Column;", true)
  | 1 => ("PackedTable$Store", "columns", "I", false)
  | _ => ("PackedTable$Store", "filter", "LPackedTable$Filter;", true)
def tyX11 : Nat → FieldType := fun k => match k with
  | 0 => .array (.object "PackedTable$Column")
  | 1 => .int
  | _ => .object "PackedTable$Filter"
theorem nmX11 : ∀ a, a < 3 → ∀ b, b < 3 → a ≠ b → (TX11 a).2.1 ≠ (TX11 b).2.1 := by decide +kernel
theorem tyX11_ok : ∀ k, k < 3 → parseFieldDescriptor (TX11 k).2.2.1 = some (tyX11 k) := by decide +kernel
abbrev cX11_init : ByteArray := prog_13_method_1_code
def yX11_init : MethodName := ⟨RX11, "<init>", "()V"⟩
abbrev cX11_columns : ByteArray := prog_13_method_2_code
def yX11_columns : MethodName := ⟨RX11, "columns", "()I"⟩
abbrev cX11_rows : ByteArray := prog_13_method_3_code
def yX11_rows : MethodName := ⟨RX11, "rows", "()I"⟩
abbrev cX11_column : ByteArray := prog_13_method_4_code
def yX11_column : MethodName := ⟨RX11, "column", "(I)LPackedTable$Column;"⟩
abbrev cX11_dictionary : ByteArray := prog_13_method_5_code
def yX11_dictionary : MethodName := ⟨RX11, "dictionary", "(I)LPackedTable$Dictionary;"⟩
abbrev cX11_filter : ByteArray := prog_13_method_6_code
def yX11_filter : MethodName := ⟨RX11, "filter", "()LPackedTable$Filter;"⟩
abbrev cX11_isFull : ByteArray := prog_13_method_7_code
def yX11_isFull : MethodName := ⟨RX11, "isFull", "()Z"⟩
abbrev cX11_hasRow : ByteArray := prog_13_method_8_code
def yX11_hasRow : MethodName := ⟨RX11, "hasRow", "(I)Z"⟩
abbrev cX11_replace : ByteArray := prog_13_method_9_code
def yX11_replace : MethodName := ⟨RX11, "replace", "(II[I)V"⟩
abbrev cX11_appendRow : ByteArray := prog_13_method_10_code
def yX11_appendRow : MethodName := ⟨RX11, "appendRow", "([II)V"⟩
abbrev cX11_deleteRow : ByteArray := prog_13_method_11_code
def yX11_deleteRow : MethodName := ⟨RX11, "deleteRow", "(I)V"⟩
abbrev cX11_deleteSelectedRows : ByteArray := prog_13_method_12_code
def yX11_deleteSelectedRows : MethodName := ⟨RX11, "deleteSelectedRows", "()I"⟩
abbrev cX11_moveRow : ByteArray := prog_13_method_13_code
def yX11_moveRow : MethodName := ⟨RX11, "moveRow", "(II)V"⟩
abbrev cX11_shorten : ByteArray := prog_13_method_14_code
def yX11_shorten : MethodName := ⟨RX11, "shorten", "(I)V"⟩
abbrev cX11_reorder : ByteArray := prog_13_method_15_code
def yX11_reorder : MethodName := ⟨RX11, "reorder", "(LPackedTable$RowOrder;)V"⟩
abbrev cX11_fulfills : ByteArray := prog_13_method_16_code
def yX11_fulfills : MethodName := ⟨RX11, "fulfills", "(II)Z"⟩
abbrev cX11_rowsFulfilling : ByteArray := prog_13_method_17_code
def yX11_rowsFulfilling : MethodName := ⟨RX11, "rowsFulfilling", "(I)I"⟩
abbrev cX11_firstRejecting : ByteArray := prog_13_method_18_code
def yX11_firstRejecting : MethodName := ⟨RX11, "firstRejecting", "(I)I"⟩
abbrev cX11_selects : ByteArray := prog_13_method_19_code
def yX11_selects : MethodName := ⟨RX11, "selects", "(I)Z"⟩
abbrev cX11_selectedRows : ByteArray := prog_13_method_20_code
def yX11_selectedRows : MethodName := ⟨RX11, "selectedRows", "()I"⟩
abbrev cX11_lowerEnd : ByteArray := prog_13_method_21_code
def yX11_lowerEnd : MethodName := ⟨RX11, "lowerEnd", "(I)I"⟩
abbrev cX11_upperEnd : ByteArray := prog_13_method_22_code
def yX11_upperEnd : MethodName := ⟨RX11, "upperEnd", "(I)I"⟩
abbrev cX11_selectsByCode : ByteArray := prog_13_method_23_code
def yX11_selectsByCode : MethodName := ⟨RX11, "selectsByCode", "(I)Z"⟩
abbrev cX11_copyFrom : ByteArray := prog_13_method_24_code
def yX11_copyFrom : MethodName := ⟨RX11, "copyFrom", "(LPackedTable$Store;)V"⟩
def RX12 : String := "PackedTable"
def TX12 : u_T := fun k => match k with
  | 0 => ("PackedTable", "store", "LPackedTable$Store;", true)
  | 1 => ("PackedTable", "snapshot", "LPackedTable$Store;", true)
  | 2 => ("PackedTable", "hasSnapshot", "Z", false)
  | 3 => ("PackedTable", "history", "LPackedTable$History;", true)
  | 4 => ("PackedTable", "input", "LPackedTable$Input;", true)
  | 5 => ("PackedTable", "parser", "LPackedTable$Parser;", true)
  | 6 => ("PackedTable", "output", "[B", true)
  | 7 => ("PackedTable", "outputLength", "I", false)
  | 8 => ("PackedTable", "order", "LPackedTable$RowOrder;", true)
  | 9 => ("PackedTable", "seen", "LPackedTable$Dictionary;", true)
  | _ => ("PackedTable", "packer", "LPackedTable$Packer;", true)
def tyX12 : Nat → FieldType := fun k => match k with
  | 0 => .object "PackedTable$Store"
  | 1 => .object "PackedTable$Store"
  | 2 => .boolean
  | 3 => .object "PackedTable$History"
  | 4 => .object "PackedTable$Input"
  | 5 => .object "PackedTable$Parser"
  | 6 => .array .byte
  | 7 => .int
  | 8 => .object "PackedTable$RowOrder"
  | 9 => .object "PackedTable$Dictionary"
  | _ => .object "PackedTable$Packer"
theorem nmX12 : ∀ a, a < 11 → ∀ b, b < 11 → a ≠ b → (TX12 a).2.1 ≠ (TX12 b).2.1 := by decide +kernel
theorem tyX12_ok : ∀ k, k < 11 → parseFieldDescriptor (TX12 k).2.2.1 = some (tyX12 k) := by decide +kernel
abbrev cX12_init : ByteArray := prog_1_method_1_code
def yX12_init : MethodName := ⟨RX12, "<init>", "()V"⟩
abbrev cX12_appendText : ByteArray := prog_1_method_2_code
def yX12_appendText : MethodName := ⟨RX12, "appendText", "(IIIII)I"⟩
abbrev cX12_loadTable : ByteArray := prog_1_method_3_code
def yX12_loadTable : MethodName := ⟨RX12, "loadTable", "(I)I"⟩
abbrev cX12_columnCount : ByteArray := prog_1_method_6_code
def yX12_columnCount : MethodName := ⟨RX12, "columnCount", "()I"⟩
abbrev cX12_rowCount : ByteArray := prog_1_method_7_code
def yX12_rowCount : MethodName := ⟨RX12, "rowCount", "()I"⟩
abbrev cX12_value : ByteArray := prog_1_method_8_code
def yX12_value : MethodName := ⟨RX12, "value", "(II)I"⟩
abbrev cX12_code : ByteArray := prog_1_method_9_code
def yX12_code : MethodName := ⟨RX12, "code", "(II)I"⟩
abbrev cX12_dictionarySize : ByteArray := prog_1_method_10_code
def yX12_dictionarySize : MethodName := ⟨RX12, "dictionarySize", "(I)I"⟩
abbrev cX12_dictionaryValue : ByteArray := prog_1_method_11_code
def yX12_dictionaryValue : MethodName := ⟨RX12, "dictionaryValue", "(II)I"⟩
abbrev cX12_findCode : ByteArray := prog_1_method_12_code
def yX12_findCode : MethodName := ⟨RX12, "findCode", "(II)I"⟩
abbrev cX12_staleCount : ByteArray := prog_1_method_13_code
def yX12_staleCount : MethodName := ⟨RX12, "staleCount", "(I)I"⟩
abbrev cX12_frequency : ByteArray := prog_1_method_14_code
def yX12_frequency : MethodName := ⟨RX12, "frequency", "(II)I"⟩
abbrev cX12_commonestCode : ByteArray := prog_1_method_15_code
def yX12_commonestCode : MethodName := ⟨RX12, "commonestCode", "(I)I"⟩
abbrev cX12_bitWidth : ByteArray := prog_1_method_16_code
def yX12_bitWidth : MethodName := ⟨RX12, "bitWidth", "(I)I"⟩
abbrev cX12_wordCount : ByteArray := prog_1_method_17_code
def yX12_wordCount : MethodName := ⟨RX12, "wordCount", "(I)I"⟩
abbrev cX12_packedWord : ByteArray := prog_1_method_18_code
def yX12_packedWord : MethodName := ⟨RX12, "packedWord", "(II)J"⟩
abbrev cX12_packedBits : ByteArray := prog_1_method_19_code
def yX12_packedBits : MethodName := ⟨RX12, "packedBits", "()I"⟩
abbrev cX12_runCount : ByteArray := prog_1_method_21_code
def yX12_runCount : MethodName := ⟨RX12, "runCount", "(I)I"⟩
abbrev cX12_longestRun : ByteArray := prog_1_method_22_code
def yX12_longestRun : MethodName := ⟨RX12, "longestRun", "(I)I"⟩
abbrev cX12_isSorted : ByteArray := prog_1_method_23_code
def yX12_isSorted : MethodName := ⟨RX12, "isSorted", "(I)Z"⟩
abbrev cX12_conditionCount : ByteArray := prog_1_method_24_code
def yX12_conditionCount : MethodName := ⟨RX12, "conditionCount", "()I"⟩
abbrev cX12_conditionColumn : ByteArray := prog_1_method_25_code
def yX12_conditionColumn : MethodName := ⟨RX12, "conditionColumn", "(I)I"⟩
abbrev cX12_conditionValue : ByteArray := prog_1_method_26_code
def yX12_conditionValue : MethodName := ⟨RX12, "conditionValue", "(I)I"⟩
abbrev cX12_conditionDirection : ByteArray := prog_1_method_27_code
def yX12_conditionDirection : MethodName := ⟨RX12, "conditionDirection", "(I)I"⟩
abbrev cX12_lowerCode : ByteArray := prog_1_method_28_code
def yX12_lowerCode : MethodName := ⟨RX12, "lowerCode", "(I)I"⟩
abbrev cX12_upperCode : ByteArray := prog_1_method_29_code
def yX12_upperCode : MethodName := ⟨RX12, "upperCode", "(I)I"⟩
abbrev cX12_matches : ByteArray := prog_1_method_30_code
def yX12_matches : MethodName := ⟨RX12, "matches", "(I)I"⟩
abbrev cX12_strictestCondition : ByteArray := prog_1_method_31_code
def yX12_strictestCondition : MethodName := ⟨RX12, "strictestCondition", "()I"⟩
abbrev cX12_isSelected : ByteArray := prog_1_method_32_code
def yX12_isSelected : MethodName := ⟨RX12, "isSelected", "(I)Z"⟩
abbrev cX12_selectedCount : ByteArray := prog_1_method_33_code
def yX12_selectedCount : MethodName := ⟨RX12, "selectedCount", "()I"⟩
abbrev cX12_selectedRow : ByteArray := prog_1_method_34_code
def yX12_selectedRow : MethodName := ⟨RX12, "selectedRow", "(I)I"⟩
abbrev cX12_rejectedBy : ByteArray := prog_1_method_35_code
def yX12_rejectedBy : MethodName := ⟨RX12, "rejectedBy", "(I)I"⟩
abbrev cX12_sumSelected : ByteArray := prog_1_method_36_code
def yX12_sumSelected : MethodName := ⟨RX12, "sumSelected", "(I)J"⟩
abbrev cX12_smallestSelected : ByteArray := prog_1_method_37_code
def yX12_smallestSelected : MethodName := ⟨RX12, "smallestSelected", "(I)I"⟩
abbrev cX12_greatestSelected : ByteArray := prog_1_method_38_code
def yX12_greatestSelected : MethodName := ⟨RX12, "greatestSelected", "(I)I"⟩
abbrev cX12_distinctSelected : ByteArray := prog_1_method_39_code
def yX12_distinctSelected : MethodName := ⟨RX12, "distinctSelected", "(I)I"⟩
abbrev cX12_bitWidthWith : ByteArray := prog_1_method_42_code
def yX12_bitWidthWith : MethodName := ⟨RX12, "bitWidthWith", "(II)I"⟩
abbrev cX12_bitWidthCompacted : ByteArray := prog_1_method_43_code
def yX12_bitWidthCompacted : MethodName := ⟨RX12, "bitWidthCompacted", "(I)I"⟩
abbrev cX12_runsIfSorted : ByteArray := prog_1_method_44_code
def yX12_runsIfSorted : MethodName := ⟨RX12, "runsIfSorted", "(I)I"⟩
abbrev cX12_bestSortColumn : ByteArray := prog_1_method_45_code
def yX12_bestSortColumn : MethodName := ⟨RX12, "bestSortColumn", "()I"⟩
abbrev cX12_gap : ByteArray := prog_1_method_46_code
def yX12_gap : MethodName := ⟨RX12, "gap", "()I"⟩
abbrev cX12_addRow : ByteArray := prog_1_method_47_code
def yX12_addRow : MethodName := ⟨RX12, "addRow", "(I)I"⟩
abbrev cX12_removeRow : ByteArray := prog_1_method_48_code
def yX12_removeRow : MethodName := ⟨RX12, "removeRow", "(I)I"⟩
abbrev cX12_setValue : ByteArray := prog_1_method_49_code
def yX12_setValue : MethodName := ⟨RX12, "setValue", "(III)I"⟩
abbrev cX12_sort : ByteArray := prog_1_method_50_code
def yX12_sort : MethodName := ⟨RX12, "sort", "(IZ)I"⟩
abbrev cX12_addLess : ByteArray := prog_1_method_51_code
def yX12_addLess : MethodName := ⟨RX12, "addLess", "(II)I"⟩
abbrev cX12_addEqual : ByteArray := prog_1_method_52_code
def yX12_addEqual : MethodName := ⟨RX12, "addEqual", "(II)I"⟩
abbrev cX12_addGreater : ByteArray := prog_1_method_53_code
def yX12_addGreater : MethodName := ⟨RX12, "addGreater", "(II)I"⟩
abbrev cX12_removeCondition : ByteArray := prog_1_method_54_code
def yX12_removeCondition : MethodName := ⟨RX12, "removeCondition", "(I)I"⟩
abbrev cX12_deleteSelected : ByteArray := prog_1_method_55_code
def yX12_deleteSelected : MethodName := ⟨RX12, "deleteSelected", "()I"⟩
abbrev cX12_compact : ByteArray := prog_1_method_56_code
def yX12_compact : MethodName := ⟨RX12, "compact", "(I)I"⟩
abbrev cX12_undoableCount : ByteArray := prog_1_method_60_code
def yX12_undoableCount : MethodName := ⟨RX12, "undoableCount", "()I"⟩
abbrev cX12_undo : ByteArray := prog_1_method_61_code
def yX12_undo : MethodName := ⟨RX12, "undo", "()I"⟩
abbrev cX12_saveSnapshot : ByteArray := prog_1_method_62_code
def yX12_saveSnapshot : MethodName := ⟨RX12, "saveSnapshot", "()V"⟩
abbrev cX12_restoreSnapshot : ByteArray := prog_1_method_63_code
def yX12_restoreSnapshot : MethodName := ⟨RX12, "restoreSnapshot", "()I"⟩
abbrev cX12_checkLength : ByteArray := prog_1_method_64_code
def yX12_checkLength : MethodName := ⟨RX12, "checkLength", "(I)V"⟩
abbrev cX12_checkColumn : ByteArray := prog_1_method_65_code
def yX12_checkColumn : MethodName := ⟨RX12, "checkColumn", "(I)V"⟩
abbrev cX12_checkRow : ByteArray := prog_1_method_66_code
def yX12_checkRow : MethodName := ⟨RX12, "checkRow", "(I)V"⟩
abbrev cX12_checkCode : ByteArray := prog_1_method_67_code
def yX12_checkCode : MethodName := ⟨RX12, "checkCode", "(II)V"⟩
abbrev cX12_checkCondition : ByteArray := prog_1_method_68_code
def yX12_checkCondition : MethodName := ⟨RX12, "checkCondition", "(I)V"⟩
abbrev cX12_checkValue : ByteArray := prog_1_method_69_code
def yX12_checkValue : MethodName := ⟨RX12, "checkValue", "(I)V"⟩
abbrev cX12_checkAnySeen : ByteArray := prog_1_method_70_code
def yX12_checkAnySeen : MethodName := ⟨RX12, "checkAnySeen", "()V"⟩
abbrev cX12_wordsOf : ByteArray := prog_1_method_71_code
def yX12_wordsOf : MethodName := ⟨RX12, "wordsOf", "(I)I"⟩
abbrev cX12_sumOfSelected : ByteArray := prog_1_method_72_code
def yX12_sumOfSelected : MethodName := ⟨RX12, "sumOfSelected", "(I)J"⟩
abbrev cX12_collectSelected : ByteArray := prog_1_method_73_code
def yX12_collectSelected : MethodName := ⟨RX12, "collectSelected", "(I)V"⟩
abbrev cX12_runsAfterSorting : ByteArray := prog_1_method_74_code
def yX12_runsAfterSorting : MethodName := ⟨RX12, "runsAfterSorting", "(I)I"⟩
abbrev cX12_packingDifferences : ByteArray := prog_1_method_75_code
def yX12_packingDifferences : MethodName := ⟨RX12, "packingDifferences", "(LPackedTable$Column;)I"⟩
abbrev cX12_addCondition : ByteArray := prog_1_method_76_code
def yX12_addCondition : MethodName := ⟨RX12, "addCondition", "(III)I"⟩
abbrev cX12_sortRows : ByteArray := prog_1_method_77_code
def yX12_sortRows : MethodName := ⟨RX12, "sortRows", "(IZ)V"⟩
def RX13 : String := "PackedTableModel"
def TX13 : u_T := fun k => match k with
  | _ => ("", "", "", false)
def tyX13 : Nat → FieldType := fun k => match k with
  | _ => .int
theorem nmX13 : ∀ a, a < 0 → ∀ b, b < 0 → a ≠ b → (TX13 a).2.1 ≠ (TX13 b).2.1 := by decide +kernel
theorem tyX13_ok : ∀ k, k < 0 → parseFieldDescriptor (TX13 k).2.2.1 = some (tyX13 k) := by decide +kernel
def RJx145de : String := "java/io/Serializable"
def TJx145de : u_T := fun k => match k with
  | _ => ("", "", "", false)
def tyJx145de : Nat → FieldType := fun k => match k with
  | _ => .int
theorem nmJx145de : ∀ a, a < 0 → ∀ b, b < 0 → a ≠ b → (TJx145de a).2.1 ≠ (TJx145de b).2.1 := by decide +kernel
theorem tyJx145de_ok : ∀ k, k < 0 → parseFieldDescriptor (TJx145de k).2.2.1 = some (tyJx145de k) := by decide +kernel
def RJ5 : String := "java/lang/AbstractStringBuilder"
def TJ5 : u_T := fun k => match k with
  | _ => ("", "", "", false)
def tyJ5 : Nat → FieldType := fun k => match k with
  | _ => .int
theorem nmJ5 : ∀ a, a < 0 → ∀ b, b < 0 → a ≠ b → (TJ5 a).2.1 ≠ (TJ5 b).2.1 := by decide +kernel
theorem tyJ5_ok : ∀ k, k < 0 → parseFieldDescriptor (TJ5 k).2.2.1 = some (tyJ5 k) := by decide +kernel
abbrev cJ5_init_d00df : ByteArray := prog_16_method_2_code
def yJ5_init_d00df : MethodName := ⟨RJ5, "<init>", "(I)V"⟩
abbrev cJ5_init_a7421 : ByteArray := prog_16_method_3_code
def yJ5_init_a7421 : MethodName := ⟨RJ5, "<init>", "(Ljava/lang/String;)V"⟩
abbrev cJ5_length_8abf5 : ByteArray := prog_16_method_6_code
def yJ5_length_8abf5 : MethodName := ⟨RJ5, "length", "()I"⟩
abbrev cJ5_ensureCapacityInternal_d00df : ByteArray := prog_16_method_9_code
def yJ5_ensureCapacityInternal_d00df : MethodName := ⟨RJ5, "ensureCapacityInternal", "(I)V"⟩
abbrev cJ5_newCapacity_0f7a4 : ByteArray := prog_16_method_10_code
def yJ5_newCapacity_0f7a4 : MethodName := ⟨RJ5, "newCapacity", "(I)I"⟩
abbrev cJ5_inflate_da8c8 : ByteArray := prog_16_method_11_code
def yJ5_inflate_da8c8 : MethodName := ⟨RJ5, "inflate", "()V"⟩
abbrev cJ5_append_cf1ce : ByteArray := prog_16_method_22_code
def yJ5_append_cf1ce : MethodName := ⟨RJ5, "append", "(Ljava/lang/String;)Ljava/lang/AbstractStringBuilder;"⟩
abbrev cJ5_appendNull_278bc : ByteArray := prog_16_method_26_code
def yJ5_appendNull_278bc : MethodName := ⟨RJ5, "appendNull", "()Ljava/lang/AbstractStringBuilder;"⟩
abbrev cJ5_append_3fe6f : ByteArray := prog_16_method_31_code
def yJ5_append_3fe6f : MethodName := ⟨RJ5, "append", "(C)Ljava/lang/AbstractStringBuilder;"⟩
abbrev cJ5_append_c97b9 : ByteArray := prog_16_method_32_code
def yJ5_append_c97b9 : MethodName := ⟨RJ5, "append", "(I)Ljava/lang/AbstractStringBuilder;"⟩
abbrev cJ5_getValue_6d5f1 : ByteArray := prog_16_method_64_code
def yJ5_getValue_6d5f1 : MethodName := ⟨RJ5, "getValue", "()[B"⟩
abbrev cJ5_isLatin1_aae02 : ByteArray := prog_16_method_68_code
def yJ5_isLatin1_aae02 : MethodName := ⟨RJ5, "isLatin1", "()Z"⟩
abbrev cJ5_inflateIfNeededFor_a7421 : ByteArray := prog_16_method_71_code
def yJ5_inflateIfNeededFor_a7421 : MethodName := ⟨RJ5, "inflateIfNeededFor", "(Ljava/lang/String;)V"⟩
abbrev cJ5_putStringAt_47b60 : ByteArray := prog_16_method_73_code
def yJ5_putStringAt_47b60 : MethodName := ⟨RJ5, "putStringAt", "(ILjava/lang/String;)V"⟩
def RJx2cfe8 : String := "java/lang/Appendable"
def TJx2cfe8 : u_T := fun k => match k with
  | _ => ("", "", "", false)
def tyJx2cfe8 : Nat → FieldType := fun k => match k with
  | _ => .int
theorem nmJx2cfe8 : ∀ a, a < 0 → ∀ b, b < 0 → a ≠ b → (TJx2cfe8 a).2.1 ≠ (TJx2cfe8 b).2.1 := by decide +kernel
theorem tyJx2cfe8_ok : ∀ k, k < 0 → parseFieldDescriptor (TJx2cfe8 k).2.2.1 = some (tyJx2cfe8 k) := by decide +kernel
def RJx9f9b0 : String := "java/lang/CharSequence"
def TJx9f9b0 : u_T := fun k => match k with
  | _ => ("", "", "", false)
def tyJx9f9b0 : Nat → FieldType := fun k => match k with
  | _ => .int
theorem nmJx9f9b0 : ∀ a, a < 0 → ∀ b, b < 0 → a ≠ b → (TJx9f9b0 a).2.1 ≠ (TJx9f9b0 b).2.1 := by decide +kernel
theorem tyJx9f9b0_ok : ∀ k, k < 0 → parseFieldDescriptor (TJx9f9b0 k).2.2.1 = some (tyJx9f9b0 k) := by decide +kernel
def RJx8e188 : String := "java/lang/Cloneable"
def TJx8e188 : u_T := fun k => match k with
  | _ => ("", "", "", false)
def tyJx8e188 : Nat → FieldType := fun k => match k with
  | _ => .int
theorem nmJx8e188 : ∀ a, a < 0 → ∀ b, b < 0 → a ≠ b → (TJx8e188 a).2.1 ≠ (TJx8e188 b).2.1 := by decide +kernel
theorem tyJx8e188_ok : ∀ k, k < 0 → parseFieldDescriptor (TJx8e188 k).2.2.1 = some (tyJx8e188 k) := by decide +kernel
def RJxb160c : String := "java/lang/Comparable"
def TJxb160c : u_T := fun k => match k with
  | _ => ("", "", "", false)
def tyJxb160c : Nat → FieldType := fun k => match k with
  | _ => .int
theorem nmJxb160c : ∀ a, a < 0 → ∀ b, b < 0 → a ≠ b → (TJxb160c a).2.1 ≠ (TJxb160c b).2.1 := by decide +kernel
theorem tyJxb160c_ok : ∀ k, k < 0 → parseFieldDescriptor (TJxb160c k).2.2.1 = some (tyJxb160c k) := by decide +kernel
def RJx29ce0 : String := "java/lang/Enum"
def TJx29ce0 : u_T := fun k => match k with
  | _ => ("", "", "", false)
def tyJx29ce0 : Nat → FieldType := fun k => match k with
  | _ => .int
theorem nmJx29ce0 : ∀ a, a < 0 → ∀ b, b < 0 → a ≠ b → (TJx29ce0 a).2.1 ≠ (TJx29ce0 b).2.1 := by decide +kernel
theorem tyJx29ce0_ok : ∀ k, k < 0 → parseFieldDescriptor (TJx29ce0 k).2.2.1 = some (tyJx29ce0 k) := by decide +kernel
def RJ6 : String := "java/lang/Integer"
def TJ6 : u_T := fun k => match k with
  | _ => ("", "", "", false)
def tyJ6 : Nat → FieldType := fun k => match k with
  | _ => .int
theorem nmJ6 : ∀ a, a < 0 → ∀ b, b < 0 → a ≠ b → (TJ6 a).2.1 ≠ (TJ6 b).2.1 := by decide +kernel
theorem tyJ6_ok : ∀ k, k < 0 → parseFieldDescriptor (TJ6 k).2.2.1 = some (tyJ6 k) := by decide +kernel
abbrev cJ6_getChars_ba4f3 : ByteArray := prog_23_method_12_code
def yJ6_getChars_ba4f3 : MethodName := ⟨RJ6, "getChars", "(II[B)I"⟩
abbrev cJ6_stringSize_0f7a4 : ByteArray := prog_23_method_13_code
def yJ6_stringSize_0f7a4 : MethodName := ⟨RJ6, "stringSize", "(I)I"⟩
abbrev cJ6_signum_0f7a4 : ByteArray := prog_23_method_56_code
def yJ6_signum_0f7a4 : MethodName := ⟨RJ6, "signum", "(I)I"⟩
def RJ9 : String := "java/lang/Math"
def TJ9 : u_T := fun k => match k with
  | _ => ("", "", "", false)
def tyJ9 : Nat → FieldType := fun k => match k with
  | _ => .int
theorem nmJ9 : ∀ a, a < 0 → ∀ b, b < 0 → a ≠ b → (TJ9 a).2.1 ≠ (TJ9 b).2.1 := by decide +kernel
theorem tyJ9_ok : ∀ k, k < 0 → parseFieldDescriptor (TJ9 k).2.2.1 = some (tyJ9 k) := by decide +kernel
abbrev cJ9_max_7cf53 : ByteArray := prog_24_method_65_code
def yJ9_max_7cf53 : MethodName := ⟨RJ9, "max", "(II)I"⟩
abbrev cJ9_min_7cf53 : ByteArray := prog_24_method_69_code
def yJ9_min_7cf53 : MethodName := ⟨RJ9, "min", "(II)I"⟩
def RJxd2413 : String := "java/lang/Number"
def TJxd2413 : u_T := fun k => match k with
  | _ => ("", "", "", false)
def tyJxd2413 : Nat → FieldType := fun k => match k with
  | _ => .int
theorem nmJxd2413 : ∀ a, a < 0 → ∀ b, b < 0 → a ≠ b → (TJxd2413 a).2.1 ≠ (TJxd2413 b).2.1 := by decide +kernel
theorem tyJxd2413_ok : ∀ k, k < 0 → parseFieldDescriptor (TJxd2413 k).2.2.1 = some (tyJxd2413 k) := by decide +kernel
def RJ0 : String := "java/lang/String"
def TJ0 : u_T := fun k => match k with
  | 0 => ("java/lang/String", "value", "[B", true)
  | 1 => ("java/lang/String", "coder", "B", true)
  | 2 => ("java/lang/String", "hash", "I", false)
  | _ => ("java/lang/String", "hashIsZero", "Z", false)
def tyJ0 : Nat → FieldType := fun k => match k with
  | 0 => .array .byte
  | 1 => .byte
  | 2 => .int
  | _ => .boolean
theorem nmJ0 : ∀ a, a < 4 → ∀ b, b < 4 → a ≠ b → (TJ0 a).2.1 ≠ (TJ0 b).2.1 := by decide +kernel
theorem tyJ0_ok : ∀ k, k < 4 → parseFieldDescriptor (TJ0 k).2.2.1 = some (tyJ0 k) := by decide +kernel
abbrev cJ0_init_81219 : ByteArray := prog_27_method_53_code
def yJ0_init_81219 : MethodName := ⟨RJ0, "<init>", "(Ljava/lang/StringBuilder;)V"⟩
abbrev cJ0_length_8abf5 : ByteArray := prog_27_method_54_code
def yJ0_length_8abf5 : MethodName := ⟨RJ0, "length", "()I"⟩
abbrev cJ0_charAt_5068e : ByteArray := prog_27_method_56_code
def yJ0_charAt_5068e : MethodName := ⟨RJ0, "charAt", "(I)C"⟩
abbrev cJ0_getBytes_840e7 : ByteArray := prog_27_method_147_code
def yJ0_getBytes_840e7 : MethodName := ⟨RJ0, "getBytes", "([BIB)V"⟩
abbrev cJ0_init_db425 : ByteArray := prog_27_method_150_code
def yJ0_init_db425 : MethodName := ⟨RJ0, "<init>", "(Ljava/lang/AbstractStringBuilder;Ljava/lang/Void;)V"⟩
abbrev cJ0_coder_7d493 : ByteArray := prog_27_method_152_code
def yJ0_coder_7d493 : MethodName := ⟨RJ0, "coder", "()B"⟩
abbrev cJ0_isLatin1_aae02 : ByteArray := prog_27_method_154_code
def yJ0_isLatin1_aae02 : MethodName := ⟨RJ0, "isLatin1", "()Z"⟩
abbrev cJ0_checkIndex_df160 : ByteArray := prog_27_method_155_code
def yJ0_checkIndex_df160 : MethodName := ⟨RJ0, "checkIndex", "(II)V"⟩
abbrev cJ0_checkBoundsOffCount_cabcc : ByteArray := prog_27_method_157_code
def yJ0_checkBoundsOffCount_cabcc : MethodName := ⟨RJ0, "checkBoundsOffCount", "(III)I"⟩
abbrev cJ0_checkBoundsBeginEnd_23922 : ByteArray := prog_27_method_158_code
def yJ0_checkBoundsBeginEnd_23922 : MethodName := ⟨RJ0, "checkBoundsBeginEnd", "(III)V"⟩
def RJ4 : String := "java/lang/StringBuilder"
def TJ4 : u_T := fun k => match k with
  | 0 => ("java/lang/AbstractStringBuilder", "value", "[B", false)
  | 1 => ("java/lang/AbstractStringBuilder", "coder", "B", false)
  | 2 => ("java/lang/AbstractStringBuilder", "maybeLatin1", "Z", false)
  | _ => ("java/lang/AbstractStringBuilder", "count", "I", false)
def tyJ4 : Nat → FieldType := fun k => match k with
  | 0 => .array .byte
  | 1 => .byte
  | 2 => .boolean
  | _ => .int
theorem nmJ4 : ∀ a, a < 4 → ∀ b, b < 4 → a ≠ b → (TJ4 a).2.1 ≠ (TJ4 b).2.1 := by decide +kernel
theorem tyJ4_ok : ∀ k, k < 4 → parseFieldDescriptor (TJ4 k).2.2.1 = some (tyJ4 k) := by decide +kernel
abbrev cJ4_init_da8c8 : ByteArray := prog_28_method_1_code
def yJ4_init_da8c8 : MethodName := ⟨RJ4, "<init>", "()V"⟩
abbrev cJ4_init_a7421 : ByteArray := prog_28_method_3_code
def yJ4_init_a7421 : MethodName := ⟨RJ4, "<init>", "(Ljava/lang/String;)V"⟩
abbrev cJ4_append_15ec4 : ByteArray := prog_28_method_7_code
def yJ4_append_15ec4 : MethodName := ⟨RJ4, "append", "(Ljava/lang/String;)Ljava/lang/StringBuilder;"⟩
abbrev cJ4_append_cf468 : ByteArray := prog_28_method_14_code
def yJ4_append_cf468 : MethodName := ⟨RJ4, "append", "(C)Ljava/lang/StringBuilder;"⟩
abbrev cJ4_append_bf812 : ByteArray := prog_28_method_15_code
def yJ4_append_bf812 : MethodName := ⟨RJ4, "append", "(I)Ljava/lang/StringBuilder;"⟩
abbrev cJ4_toString_0e30d : ByteArray := prog_28_method_42_code
def yJ4_toString_0e30d : MethodName := ⟨RJ4, "toString", "()Ljava/lang/String;"⟩
abbrev cJ4_append_cf1ce : ByteArray := prog_28_method_80_code
def yJ4_append_cf1ce : MethodName := ⟨RJ4, "append", "(Ljava/lang/String;)Ljava/lang/AbstractStringBuilder;"⟩
abbrev cJ4_length_8abf5 : ByteArray := prog_28_method_93_code
def yJ4_length_8abf5 : MethodName := ⟨RJ4, "length", "()I"⟩
def RJ1 : String := "java/lang/StringLatin1"
def TJ1 : u_T := fun k => match k with
  | _ => ("", "", "", false)
def tyJ1 : Nat → FieldType := fun k => match k with
  | _ => .int
theorem nmJ1 : ∀ a, a < 0 → ∀ b, b < 0 → a ≠ b → (TJ1 a).2.1 ≠ (TJ1 b).2.1 := by decide +kernel
theorem tyJ1_ok : ∀ k, k < 0 → parseFieldDescriptor (TJ1 k).2.2.1 = some (tyJ1 k) := by decide +kernel
abbrev cJ1_charAt_3b067 : ByteArray := prog_29_method_2_code
def yJ1_charAt_3b067 : MethodName := ⟨RJ1, "charAt", "([BI)C"⟩
abbrev cJ1_canEncode_fc78d : ByteArray := prog_29_method_3_code
def yJ1_canEncode_fc78d : MethodName := ⟨RJ1, "canEncode", "(C)Z"⟩
abbrev cJ1_inflate_0e8fd : ByteArray := prog_29_method_50_code
def yJ1_inflate_0e8fd : MethodName := ⟨RJ1, "inflate", "([BI[BII)V"⟩
def RJ2 : String := "java/lang/StringUTF16"
def TJ2 : u_T := fun k => match k with
  | _ => ("", "", "", false)
def tyJ2 : Nat → FieldType := fun k => match k with
  | _ => .int
theorem nmJ2 : ∀ a, a < 0 → ∀ b, b < 0 → a ≠ b → (TJ2 a).2.1 ≠ (TJ2 b).2.1 := by decide +kernel
theorem tyJ2_ok : ∀ k, k < 0 → parseFieldDescriptor (TJ2 k).2.2.1 = some (tyJ2 k) := by decide +kernel
abbrev cJ2_newBytesFor_77867 : ByteArray := prog_30_method_2_code
def yJ2_newBytesFor_77867 : MethodName := ⟨RJ2, "newBytesFor", "(I)[B"⟩
abbrev cJ2_newBytesLength_0f7a4 : ByteArray := prog_30_method_3_code
def yJ2_newBytesLength_0f7a4 : MethodName := ⟨RJ2, "newBytesLength", "(I)I"⟩
abbrev cJ2_putChar_b72d1 : ByteArray := prog_30_method_4_code
def yJ2_putChar_b72d1 : MethodName := ⟨RJ2, "putChar", "([BII)V"⟩
abbrev cJ2_getChar_3b067 : ByteArray := prog_30_method_5_code
def yJ2_getChar_3b067 : MethodName := ⟨RJ2, "getChar", "([BI)C"⟩
abbrev cJ2_length_9d52b : ByteArray := prog_30_method_6_code
def yJ2_length_9d52b : MethodName := ⟨RJ2, "length", "([B)I"⟩
abbrev cJ2_coderFromArrayLen_85cad : ByteArray := prog_30_method_15_code
def yJ2_coderFromArrayLen_85cad : MethodName := ⟨RJ2, "coderFromArrayLen", "([BI)B"⟩
abbrev cJ2_compress_39247 : ByteArray := prog_30_method_17_code
def yJ2_compress_39247 : MethodName := ⟨RJ2, "compress", "([BII)[B"⟩
abbrev cJ2_compress_5af95 : ByteArray := prog_30_method_22_code
def yJ2_compress_5af95 : MethodName := ⟨RJ2, "compress", "([BI[BII)I"⟩
abbrev cJ2_putCharSB_b72d1 : ByteArray := prog_30_method_71_code
def yJ2_putCharSB_b72d1 : MethodName := ⟨RJ2, "putCharSB", "([BII)V"⟩
abbrev cJ2_getChars_46870 : ByteArray := prog_30_method_77_code
def yJ2_getChars_46870 : MethodName := ⟨RJ2, "getChars", "(III[B)I"⟩
abbrev cJ2_putCharsAt_cd4e5 : ByteArray := prog_30_method_81_code
def yJ2_putCharsAt_cd4e5 : MethodName := ⟨RJ2, "putCharsAt", "([BICCCC)I"⟩
abbrev cJ2_charAt_3b067 : ByteArray := prog_30_method_83_code
def yJ2_charAt_3b067 : MethodName := ⟨RJ2, "charAt", "([BI)C"⟩
abbrev cJ2_inflate_0e8fd : ByteArray := prog_30_method_86_code
def yJ2_inflate_0e8fd : MethodName := ⟨RJ2, "inflate", "([BI[BII)V"⟩
abbrev cJ2_getChars_ba4f3 : ByteArray := prog_30_method_89_code
def yJ2_getChars_ba4f3 : MethodName := ⟨RJ2, "getChars", "(II[B)I"⟩
abbrev cJ2_checkIndex_2214a : ByteArray := prog_30_method_91_code
def yJ2_checkIndex_2214a : MethodName := ⟨RJ2, "checkIndex", "(I[B)V"⟩
abbrev cJ2_checkBoundsBeginEnd_d044e : ByteArray := prog_30_method_93_code
def yJ2_checkBoundsBeginEnd_d044e : MethodName := ⟨RJ2, "checkBoundsBeginEnd", "(II[B)V"⟩
abbrev cJ2_checkBoundsOffCount_d044e : ByteArray := prog_30_method_94_code
def yJ2_checkBoundsOffCount_d044e : MethodName := ⟨RJ2, "checkBoundsOffCount", "(II[B)V"⟩
def RJ10 : String := "java/lang/System"
def TJ10 : u_T := fun k => match k with
  | _ => ("", "", "", false)
def tyJ10 : Nat → FieldType := fun k => match k with
  | _ => .int
theorem nmJ10 : ∀ a, a < 0 → ∀ b, b < 0 → a ≠ b → (TJ10 a).2.1 ≠ (TJ10 b).2.1 := by decide +kernel
theorem tyJ10_ok : ∀ k, k < 0 → parseFieldDescriptor (TJ10 k).2.2.1 = some (tyJ10 k) := by decide +kernel
def RJxfd54e : String := "java/lang/constant/Constable"
def TJxfd54e : u_T := fun k => match k with
  | _ => ("", "", "", false)
def tyJxfd54e : Nat → FieldType := fun k => match k with
  | _ => .int
theorem nmJxfd54e : ∀ a, a < 0 → ∀ b, b < 0 → a ≠ b → (TJxfd54e a).2.1 ≠ (TJxfd54e b).2.1 := by decide +kernel
theorem tyJxfd54e_ok : ∀ k, k < 0 → parseFieldDescriptor (TJxfd54e k).2.2.1 = some (tyJxfd54e k) := by decide +kernel
def RJx3cf43 : String := "java/lang/constant/ConstantDesc"
def TJx3cf43 : u_T := fun k => match k with
  | _ => ("", "", "", false)
def tyJx3cf43 : Nat → FieldType := fun k => match k with
  | _ => .int
theorem nmJx3cf43 : ∀ a, a < 0 → ∀ b, b < 0 → a ≠ b → (TJx3cf43 a).2.1 ≠ (TJx3cf43 b).2.1 := by decide +kernel
theorem tyJx3cf43_ok : ∀ k, k < 0 → parseFieldDescriptor (TJx3cf43 k).2.2.1 = some (tyJx3cf43 k) := by decide +kernel
def RJ7 : String := "java/util/Arrays"
def TJ7 : u_T := fun k => match k with
  | _ => ("", "", "", false)
def tyJ7 : Nat → FieldType := fun k => match k with
  | _ => .int
theorem nmJ7 : ∀ a, a < 0 → ∀ b, b < 0 → a ≠ b → (TJ7 a).2.1 ≠ (TJ7 b).2.1 := by decide +kernel
theorem tyJ7_ok : ∀ k, k < 0 → parseFieldDescriptor (TJ7 k).2.2.1 = some (tyJ7 k) := by decide +kernel
abbrev cJ7_fill_d0a16 : ByteArray := prog_33_method_101_code
def yJ7_fill_d0a16 : MethodName := ⟨RJ7, "fill", "([JJ)V"⟩
abbrev cJ7_copyOf_9075b : ByteArray := prog_33_method_121_code
def yJ7_copyOf_9075b : MethodName := ⟨RJ7, "copyOf", "([BI)[B"⟩
abbrev cJ7_copyOf_59c91 : ByteArray := prog_33_method_123_code
def yJ7_copyOf_59c91 : MethodName := ⟨RJ7, "copyOf", "([II)[I"⟩
abbrev cJ7_checkLength_df160 : ByteArray := prog_33_method_131_code
def yJ7_checkLength_df160 : MethodName := ⟨RJ7, "checkLength", "(II)V"⟩
abbrev cJ7_copyOfRange_39247 : ByteArray := prog_33_method_132_code
def yJ7_copyOfRange_39247 : MethodName := ⟨RJ7, "copyOfRange", "([BII)[B"⟩
abbrev cJ7_copyOfRangeByte_39247 : ByteArray := prog_33_method_133_code
def yJ7_copyOfRangeByte_39247 : MethodName := ⟨RJ7, "copyOfRangeByte", "([BII)[B"⟩
def RJ8 : String := "jdk/internal/util/ArraysSupport"
def TJ8 : u_T := fun k => match k with
  | _ => ("", "", "", false)
def tyJ8 : Nat → FieldType := fun k => match k with
  | _ => .int
theorem nmJ8 : ∀ a, a < 0 → ∀ b, b < 0 → a ≠ b → (TJ8 a).2.1 ≠ (TJ8 b).2.1 := by decide +kernel
theorem tyJ8_ok : ∀ k, k < 0 → parseFieldDescriptor (TJ8 k).2.2.1 = some (tyJ8 k) := by decide +kernel
abbrev cJ8_newLength_cabcc : ByteArray := prog_34_method_27_code
def yJ8_newLength_cabcc : MethodName := ⟨RJ8, "newLength", "(III)I"⟩
abbrev cJ8_hugeLength_7cf53 : ByteArray := prog_34_method_28_code
def yJ8_hugeLength_7cf53 : MethodName := ⟨RJ8, "hugeLength", "(II)I"⟩
def RJ3 : String := "jdk/internal/util/Preconditions"
def TJ3 : u_T := fun k => match k with
  | _ => ("", "", "", false)
def tyJ3 : Nat → FieldType := fun k => match k with
  | _ => .int
theorem nmJ3 : ∀ a, a < 0 → ∀ b, b < 0 → a ≠ b → (TJ3 a).2.1 ≠ (TJ3 b).2.1 := by decide +kernel
theorem tyJ3_ok : ∀ k, k < 0 → parseFieldDescriptor (TJ3 k).2.2.1 = some (tyJ3 k) := by decide +kernel
abbrev cJ3_checkIndex_8e157 : ByteArray := prog_35_method_11_code
def yJ3_checkIndex_8e157 : MethodName := ⟨RJ3, "checkIndex", "(IILjava/util/function/BiFunction;)I"⟩
abbrev cJ3_checkFromToIndex_8c36e : ByteArray := prog_35_method_12_code
def yJ3_checkFromToIndex_8c36e : MethodName := ⟨RJ3, "checkFromToIndex", "(IIILjava/util/function/BiFunction;)I"⟩
abbrev cJ3_checkFromIndexSize_8c36e : ByteArray := prog_35_method_13_code
def yJ3_checkFromIndexSize_8c36e : MethodName := ⟨RJ3, "checkFromIndexSize", "(IIILjava/util/function/BiFunction;)I"⟩
def RL : String := "PackedTableLaw"
abbrev cL_most : ByteArray := method_2_code
def yL_most : MethodName := ⟨RL, "most", "(II)I"⟩
abbrev cL_cell : ByteArray := method_3_code
def yL_cell : MethodName := ⟨RL, "cell", "([II)I"⟩
abbrev cL_add : ByteArray := method_4_code
def yL_add : MethodName := ⟨RL, "add", "(LPackedTable;[II)V"⟩
abbrev cL_say : ByteArray := method_5_code
def yL_say : MethodName := ⟨RL, "say", "(LPackedTable;[ILjava/lang/String;)V"⟩
abbrev cL_end : ByteArray := method_6_code
def yL_end : MethodName := ⟨RL, "end", "(LPackedTable;[I)I"⟩
abbrev cL_all : ByteArray := method_7_code
def yL_all : MethodName := ⟨RL, "all", "(LPackedTable;)[I"⟩
abbrev cL_alike : ByteArray := method_8_code
def yL_alike : MethodName := ⟨RL, "alike", "([I[I)Z"⟩
abbrev cL_areColumns : ByteArray := method_9_code
def yL_areColumns : MethodName := ⟨RL, "areColumns", "(LPackedTable;)Z"⟩
abbrev cL_isFilter : ByteArray := method_10_code
def yL_isFilter : MethodName := ⟨RL, "isFilter", "(LPackedTable;)Z"⟩
abbrev cL_act : ByteArray := method_11_code
def yL_act : MethodName := ⟨RL, "act", "(LPackedTable;[II)Z"⟩
abbrev cL_law : ByteArray := code
def yL_law : MethodName := ⟨RL, "law", "([I)Z"⟩
abbrev vwCl : List vw_C := [(RX1, TX1, 3), (RX2, TX2, 6), (RX3, TX3, 2), (RX4, TX4, 4), (RX5, TX5, 3), (RX6, TX6, 7), (RX8, TX8, 2), (RX9, TX9, 9), (RX10, TX10, 3), (RX11, TX11, 3), (RX12, TX12, 11), (RJ4, TJ4, 4), (RJ0, TJ0, 4)]
