import java.math.BigInteger;

/** The boundary cases of the terms from tables to runs, sentence by sentence. */
final class TableTerms {
    private TableTerms() {
    }

    static void test() {
        lifetime();
        tables();
        dictionaries();
        staleValues();
        bitWidths();
        packing();
        conditions();
        codeRanges();
        runs();
    }

    private static void lifetime() {
        Clauses.test("What it is", "An object is used for at most 512 calls", () -> {
            PackedTable table = new PackedTable();
            for (int call = 1; call < 512; call++) {
                Check.same("call " + call, table.setValue(0, 0, 1000 + call), call == 1 ? 5 : 999 + call);
            }
            Check.same("call 512", table.dictionarySize(0), 514);
        });
    }

    private static void tables() {
        Clauses.terms("A table has 1 to 6 columns and 0 to 60 rows", () -> {
            for (int columns = 1; columns <= 6; columns++) {
                PackedTable table = Check.loaded("table " + columns + ";");
                Check.same("columns", table.columnCount(), columns);
                Check.same("no rows", table.rowCount(), 0);
            }
            Parsed.table("table 0;", 2, 6);
            Parsed.table("table 7;", 2, 6);
            PackedTable table = Prepared.largest();
            Check.same("most columns", table.columnCount(), 6);
            Check.same("most rows", table.rowCount(), 60);
            Check.same("first index", table.value(0, 0), 0);
            Check.same("last index", table.value(5, 59), 559);
            Check.outside("column 6", () -> table.value(6, 0));
            Check.outside("row 60", () -> table.value(0, 60));
            Check.feed(table, "1 2 3 4 5 6");
            Check.notNow("a row more", () -> table.addRow(11));
            Check.same("still most rows", table.rowCount(), 60);
        });
        Clauses.terms("In each row, each column has a value from -9999 to 9999", () -> {
            for (int column = 0; column < 6; column++) {
                PackedTable table = Check.loaded("table 6;" + Check.repeat("-9999 ", 6) + ";" + Check.repeat("9999 ", 6) + ";");
                Check.same("least loaded", table.value(column, 0), -9999);
                Check.same("greatest loaded", table.value(column, 1), 9999);
                Check.row(table, Check.repeat("9999 ", 6));
                Check.script(table, "row " + Check.repeat("-9999 ", 6) + ";set " + column + " 0 9999;");
                Check.same("greatest added", table.value(column, 2), 9999);
                Check.same("least added by a script", table.value(column, 3), -9999);
                Check.same("greatest set by a script", table.value(column, 0), 9999);
                table.setValue(column, 1, -9999);
                Check.same("least set", table.value(column, 1), -9999);
                Check.same("two values alone", Check.dictionary(table, column), "-9999 9999");
            }
        });
        Clauses.terms("If a row is removed, the indexes of the rows behind it decrease by 1", () -> {
            String[] left = {"table 1;1;2;3;", "table 1;0;2;3;", "table 1;0;1;3;", "table 1;0;1;2;"};
            for (int row = 0; row < 4; row++) {
                PackedTable table = Prepared.counting(4);
                table.removeRow(row);
                Check.same("without row " + row, Check.text(table), left[row]);
            }
            PackedTable table = Prepared.largest();
            table.removeRow(0);
            Check.same("row 1 of sixty", table.value(5, 0), 501);
            Check.same("row 59 of sixty", table.value(5, 58), 559);
            Check.outside("no row 59", () -> table.value(5, 59));
        });
    }

    private static void dictionaries() {
        Clauses.terms("Each column is encoded with a sorted dictionary", () -> {
            PackedTable table = Check.loaded("table 3;9999 5 0;-9999 5 1;0 5 0;");
            Check.same("sorted", Check.dictionary(table, 0), "-9999 0 9999");
            Check.same("as few bits as possible", table.bitWidth(0) * 100 + table.bitWidth(1) * 10 + table.bitWidth(2), 201);
            table.addGreater(0, -9999);
            Check.same("codes", table.lowerCode(0) * 10 + table.upperCode(0), 13);
            Check.same("rows with these codes", table.selectedCount(), 2);
        });
        Clauses.terms("Each column has a dictionary, which contains different values in ascending order", () -> {
            PackedTable table = Check.loaded("table 2;9999 0;-1 0;0 0;-9999 0;1 0;-1 0;9999 0;");
            Check.same("ascending", Check.dictionary(table, 0), "-9999 -1 0 1 9999");
            Check.same("one value", Check.dictionary(table, 1), "0");
            Check.same("no values", Check.dictionary(Prepared.bare(), 0), "");
            PackedTable falling = Prepared.bare();
            Check.row(falling, "60");
            for (int value = 59; value > -60; value--) {
                falling.setValue(0, 0, value);
            }
            Check.same("120 values", falling.dictionarySize(0), 120);
            for (int code = 0; code < 120; code++) {
                Check.same("value of code " + code, falling.dictionaryValue(0, code), code - 59);
            }
        });
        Clauses.terms("The code of a value is its index in the dictionary", () -> {
            PackedTable table = Prepared.largest();
            for (int column = 0; column < 6; column++) {
                for (int row = 0; row < 60; row++) {
                    Check.same("code", table.code(column, row), row);
                    Check.same("value", table.dictionaryValue(column, row), table.value(column, row));
                }
            }
        });
        Clauses.terms("The dictionary contains all values of the column", () -> {
            PackedTable table = Prepared.rich();
            containsAll(table);
            Check.script(table, "row -9999 9999 -1;set 0 0 -9998;sort 1 down;compact 0;compact 1;compact 2;");
            containsAll(table);
            table.undo();
            containsAll(table);
            table.restoreSnapshot();
            containsAll(table);
            containsAll(Prepared.full());
        });
        Clauses.terms("It may also contain stale values", () -> {
            insertedAt(-9999, 0, "-9999 1 5 9");
            insertedAt(0, 0, "0 1 5 9");
            insertedAt(4, 1, "1 4 5 9");
            insertedAt(6, 2, "1 5 6 9");
            insertedAt(8, 2, "1 5 8 9");
            insertedAt(10, 3, "1 5 9 10");
            insertedAt(9999, 3, "1 5 9 9999");
            PackedTable empty = Prepared.bare();
            Check.row(empty, "0");
            Check.same("the first value", Check.dictionary(empty, 0), "0");
        });
    }

    private static void containsAll(PackedTable table) {
        for (int column = 0; column < table.columnCount(); column++) {
            for (int row = 0; row < table.rowCount(); row++) {
                int code = table.findCode(column, table.value(column, row));
                Check.same("found", code >= 0, true);
                Check.same("code", table.code(column, row), code);
            }
        }
    }

    /** The value goes into the place of the 9 of a new table, which stays as a stale value. */
    private static void insertedAt(int value, int code, String due) {
        PackedTable table = new PackedTable();
        table.setValue(0, 3, value);
        Check.same("with " + value, Check.dictionary(table, 0), due);
        Check.same("code of " + value, table.code(0, 3), code);
        Check.same("code of 1", table.code(0, 1), value < 1 ? 1 : 0);
        Check.same("code of 5", table.code(0, 0), value < 5 ? 2 : 1);
        Check.same("code of 9", table.findCode(0, 9), value < 9 ? 3 : 2);
        Check.same("other columns", Check.dictionary(table, 1) + " " + Check.dictionary(table, 2), "-2 0 4 3 7");
        table.setValue(0, 3, 9);
        Check.same("nothing inserted for 9", Check.dictionary(table, 0), due);
    }

    private static void staleValues() {
        Clauses.terms("but no value is removed from a dictionary except by compacting", () -> {
            PackedTable table = new PackedTable();
            table.removeRow(3);
            table.setValue(1, 3, 0);
            Check.same("after removeRow", Check.dictionary(table, 0), "1 5 9");
            Check.same("after setValue", Check.dictionary(table, 1), "-2 0 4");
            table.sort(0, false);
            table.addEqual(2, 3);
            table.deleteSelected();
            Check.same("after deleteSelected", Check.dictionary(table, 2), "3 7");
            table.removeCondition(0);
            Check.script(table, "set 2 0 8;set 2 0 7;delete;sort 0;");
            Check.same("after a script 0", Check.dictionary(table, 0), "1 5 9");
            Check.same("after a script 1", Check.dictionary(table, 1), "-2 0 4");
            Check.same("after a script 2", Check.dictionary(table, 2), "3 7 8");
            Check.row(table, "5 0 7");
            Check.same("after addRow", Check.dictionary(table, 0), "1 5 9");
            table.compact(0);
            Check.same("after compacting", Check.dictionary(table, 0), "5");
            Check.same("after compacting another", Check.dictionary(table, 1), "-2 0 4");
        });
    }

    private static void bitWidths() {
        Clauses.terms("The bit width of a column is the smallest number of bits", () -> {
            PackedTable table = Check.loaded("table 1;0;");
            for (int size = 2; size <= 257; size++) {
                table.setValue(0, 0, size);
                if (Integer.bitCount(size) == 1 || Integer.bitCount(size - 1) == 1) {
                    Check.same("width of " + size, table.bitWidth(0), BigInteger.valueOf(size - 1).bitLength());
                }
            }
        });
        Clauses.terms("it is 0 for a dictionary with fewer than 2 values", () -> {
            PackedTable table = Prepared.bare();
            Check.same("no values", table.bitWidth(0), 0);
            Check.row(table, "5");
            Check.same("one value", table.bitWidth(0), 0);
            Check.row(table, "5");
            Check.same("one value in two rows", table.bitWidth(0), 0);
            Check.row(table, "6");
            Check.same("two values", table.bitWidth(0), 1);
            table.removeRow(2);
            Check.same("two values, one of them stale", table.bitWidth(0), 1);
            table.compact(0);
            Check.same("one value compacted", table.bitWidth(0), 0);
        });
        Clauses.terms("The number of words is the number of rows times the bit width", () -> {
            words("no rows", "", 0);
            words("no bits", Check.repeat("5;", 60), 0);
            words("2 bits", "0;1;", 1);
            words("60 bits", Check.repeat("0;1;", 30), 1);
            words("62 bits of 2", Check.repeat("0;", 28) + "1;2;3;", 1);
            words("64 bits of 2", Check.repeat("0;", 29) + "1;2;3;", 1);
            words("66 bits of 2", Check.repeat("0;", 30) + "1;2;3;", 2);
            words("63 bits of 3", Check.repeat("0;", 17) + "1;2;3;4;", 1);
            words("66 bits of 3", Check.repeat("0;", 18) + "1;2;3;4;", 2);
            words("126 bits of 3", Check.repeat("0;", 38) + "1;2;3;4;", 2);
            words("129 bits of 3", Check.repeat("0;", 39) + "1;2;3;4;", 3);
            words("128 bits of 4", Check.repeat("0;", 24) + "1;2;3;4;5;6;7;8;", 2);
            words("132 bits of 4", Check.repeat("0;", 25) + "1;2;3;4;5;6;7;8;", 3);
            PackedTable odd = Prepared.counting(17);
            for (int row = 16; row > 12; row--) {
                odd.removeRow(row);
            }
            Check.same("65 bits of 5", odd.wordCount(0), 2);
            Check.same("360 bits of 6", Prepared.counting(60).wordCount(0), 6);
            PackedTable table = Prepared.counting(60);
            table.deleteSelected();
            Check.same("width without rows", table.bitWidth(0), 6);
            Check.same("no rows, but bits", table.wordCount(0), 0);
        });
    }

    private static void words(String what, String rows, int due) {
        PackedTable table = Check.loaded("table 1;" + rows);
        Check.same(what, table.wordCount(0), due);
        Check.outside(what + ", word behind", () -> table.packedWord(0, due));
    }

    private static void packing() {
        Clauses.terms("If the bit width is w, the code of row r occupies the bits", () -> {
            PackedTable two = Check.loaded("table 1;" + Check.repeat("0;", 31) + "3;3;1;2;");
            Check.same("bits 62 and 63", two.packedWord(0, 0), 3L << 62);
            Check.same("bits 64 to 69", two.packedWord(0, 1), 0b10_01_11L);
            PackedTable three = Check.loaded("table 1;" + Check.repeat("0;", 21) + "7;0;1;2;3;4;5;6;");
            Check.same("bit 63", three.packedWord(0, 0), 1L << 63);
            Check.same("bits 64 and 65 of the same code", three.packedWord(0, 1) & 3, 3);
            PackedTable last = Check.loaded("table 1;1;" + Check.repeat("0;", 58) + "1;");
            Check.same("first and last row", last.packedWord(0, 0), 1L << 59 | 1);
            for (int rows = 1; rows <= 60; rows++) {
                packed(rows);
            }
        });
        Clauses.terms("The codes of a column are packed into 64-bit words", () -> {
            PackedTable table = Check.loaded("table 1;" + Check.repeat("3;0;2;1;", 15));
            Check.same("32 codes of 2 bits", table.packedWord(0, 0), 0x6363636363636363L);
            Check.same("28 more", table.packedWord(0, 1), 0x63636363636363L);
            Check.outside("no third word", () -> table.packedWord(0, 2));
        });
        Clauses.terms("All other bits are 0", () -> {
            PackedTable table = Check.loaded("table 1;" + Check.repeat("3;", 30) + "0;1;2;");
            table.removeRow(32);
            Check.same("one word", table.wordCount(0), 1);
            Check.same("word 0", table.packedWord(0, 0), -1L >>> 4 | 1L << 62);
            table.removeRow(31);
            Check.same("row 31 removed", table.packedWord(0, 0), -1L >>> 4);
            table.removeRow(0);
            Check.same("row 30 moved", table.packedWord(0, 0), -1L >>> 6);
            table.removeRow(29);
            table.compact(0);
            table.setValue(0, 0, 4);
            Check.same("narrower", table.packedWord(0, 0), 1);
            Check.outside("no word behind", () -> table.packedWord(0, 1));
        });
    }

    /** Rows that count down, so that the greatest code comes first, against one great number with all the bits. */
    private static void packed(int rows) {
        PackedTable table = Prepared.counting(rows);
        table.sort(0, false);
        int width = table.bitWidth(0);
        BigInteger bits = BigInteger.ZERO;
        for (int row = 0; row < rows; row++) {
            bits = bits.or(BigInteger.valueOf(rows - 1 - row).shiftLeft(row * width));
        }
        for (int word = 0; word < table.wordCount(0); word++) {
            Check.same("word " + word + " of " + rows + " rows", table.packedWord(0, word), bits.shiftRight(64 * word).longValue());
        }
    }

    private static void conditions() {
        Clauses.terms("The filter is a list of 0 to 8 conditions, identified by an index, starting at 0", () -> {
            PackedTable table = new PackedTable();
            Check.same("none", table.conditionCount(), 0);
            Check.outside("index 0 of none", () -> table.conditionValue(0));
            for (int value = 0; value < 8; value++) {
                table.addLess(0, value);
            }
            Check.same("eight", Check.filter(table), "0<0 0<1 0<2 0<3 0<4 0<5 0<6 0<7");
            Check.outside("index 8 of eight", () -> table.conditionValue(8));
            Check.outside("index -1", () -> table.conditionValue(-1));
            Check.notNow("a ninth", () -> table.addLess(0, 8));
            Check.same("a ninth of a script", Check.script(table, "less 0 8;"), 0);
            Check.same("still eight", table.conditionCount(), 8);
        });
        Clauses.terms("A condition compares a column with a value", () -> {
            PackedTable table = Check.loaded("table 1;-9999;-1;0;1;9999;");
            Check.same("less than the least", table.addLess(0, -9999), 0);
            Check.same("less than 0", matches(table.addLess(0, 0), table), 2);
            Check.same("less than the greatest", matches(table.addLess(0, 9999), table), 4);
            Check.same("equal to the least", matches(table.addEqual(0, -9999), table), 1);
            Check.same("equal to 0", matches(table.addEqual(0, 0), table), 1);
            Check.same("equal to the greatest", matches(table.addEqual(0, 9999), table), 1);
            Check.same("greater than the least", matches(table.addGreater(0, -9999), table), 4);
            Check.same("greater than 0", matches(table.addGreater(0, 0), table), 2);
            table.removeCondition(0);
            Check.same("greater than the greatest", matches(table.addGreater(0, 9999), table), 0);
        });
        Clauses.terms("A row is selected if it fulfills all conditions", () -> {
            PackedTable table = new PackedTable();
            Check.same("no condition", table.selectedCount(), 6);
            for (int value = 10; value < 17; value++) {
                Check.same("conditions of all", table.addLess(0, value), 6);
            }
            Check.same("the eighth", table.addEqual(1, 4), 1);
            Check.same("row 4", table.isSelected(4), true);
            Check.same("row 3", table.isSelected(3), false);
        });
        Clauses.terms("If a condition is removed, the indexes of the conditions behind it decrease by 1", () -> {
            String[] left = {"1=1 2>2", "0<0 2>2", "0<0 1=1"};
            for (int condition = 0; condition < 3; condition++) {
                PackedTable table = new PackedTable();
                table.addLess(0, 0);
                table.addEqual(1, 1);
                table.addGreater(2, 2);
                table.removeCondition(condition);
                Check.same("without " + condition, Check.filter(table), left[condition]);
                Check.outside("no index 2", () -> table.conditionValue(2));
            }
            PackedTable full = Prepared.eightConditions();
            full.removeCondition(0);
            Check.same("without the first of eight", Check.filter(full), "0<11 0<12 0<13 0<14 0<15 0<16 0<17");
        });
    }

    /** The matches of the condition added last. */
    private static int matches(int selected, PackedTable table) {
        return table.matches(table.conditionCount() - 1);
    }

    private static void codeRanges() {
        Clauses.terms("The code range of a condition consists of the codes in the present dictionary", () -> {
            PackedTable table = new PackedTable();
            table.addLess(0, 6);
            table.addEqual(0, 6);
            table.addGreater(0, 6);
            Check.same("at first", ranges(table), "0-2 2-2 2-3");
            table.setValue(0, 3, 6);
            Check.same("with 6, and 9 stale", ranges(table), "0-2 2-3 3-4");
            table.setValue(0, 3, -9);
            Check.same("with -9, and 6 and 9 stale", ranges(table), "0-3 3-4 4-5");
            table.compact(0);
            Check.same("compacted", ranges(table), "0-3 3-3 3-3");
            table.undo();
            Check.same("undone", ranges(table), "0-3 3-4 4-5");
        });
        Clauses.terms("It has a lower end, which is its first code, and an upper end, which is 1 more than its last code", () -> {
            PackedTable table = Check.loaded("table 1;-9999;0;9999;");
            table.addLess(0, 9999);
            table.addGreater(0, -9999);
            table.addEqual(0, -9999);
            table.addEqual(0, 0);
            table.addEqual(0, 9999);
            Check.same("ends", ranges(table), "0-2 1-3 0-1 1-2 2-3");
            PackedTable one = Check.loaded("table 1;5;");
            one.addLess(0, 6);
            one.addEqual(0, 5);
            one.addGreater(0, 4);
            Check.same("of one value", ranges(one), "0-1 0-1 0-1");
        });
        Clauses.terms("If no code belongs to it, both ends are the number of values in the dictionary that are less", () -> {
            PackedTable table = new PackedTable();
            table.addLess(0, 1);
            table.addLess(0, -9999);
            table.addEqual(0, 0);
            table.addEqual(0, 4);
            table.addEqual(0, 6);
            table.addEqual(0, 8);
            table.addEqual(0, 10);
            table.addEqual(0, -9999);
            Check.same("ends", ranges(table), "0-0 0-0 0-0 1-1 2-2 2-2 3-3 0-0");
            PackedTable bare = Prepared.bare();
            bare.addLess(0, 9999);
            bare.addEqual(0, 9999);
            Check.same("of no values", ranges(bare), "0-0 0-0");
        });
        Clauses.terms("for a condition that demands greater values, both ends are the size of the dictionary", () -> {
            PackedTable table = new PackedTable();
            table.addGreater(0, 9);
            table.addGreater(0, 9999);
            table.addGreater(2, 7);
            Check.same("ends", ranges(table), "3-3 3-3 2-2");
            table.setValue(0, 3, 5);
            Check.same("with a stale value", ranges(table), "3-3 3-3 2-2");
            PackedTable bare = Prepared.bare();
            bare.addGreater(0, -9999);
            Check.same("of no values", ranges(bare), "0-0");
        });
    }

    private static String ranges(PackedTable table) {
        StringBuilder text = new StringBuilder();
        for (int condition = 0; condition < table.conditionCount(); condition++) {
            text.append(condition == 0 ? "" : " ").append(table.lowerCode(condition));
            text.append('-').append(table.upperCode(condition));
        }
        return text.toString();
    }

    private static void runs() {
        Clauses.terms("A run of a column is a maximal sequence of consecutive rows with the same value", () -> {
            Check.same("no rows", Prepared.bare().runCount(0), 0);
            Check.same("one row", Prepared.counting(1).runCount(0), 1);
            Check.same("one run of sixty", Prepared.sixtyRows().runCount(0), 1);
            Check.same("longest of sixty", Prepared.sixtyRows().longestRun(0), 60);
            Check.same("sixty runs", Prepared.counting(60).runCount(0), 60);
            Check.same("longest of sixty runs", Prepared.counting(60).longestRun(0), 1);
            PackedTable table = Check.loaded("table 2;1 1;1 2;2 2;1 2;");
            Check.same("the same value again", table.runCount(0), 3);
            Check.same("another column", table.runCount(1), 2);
            table.removeRow(2);
            Check.same("joined", table.runCount(0), 1);
        });
    }
}
