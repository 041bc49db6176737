/** The boundary cases of promises 16 to 23, clause by clause. */
final class PackingClauses {
    private PackingClauses() {
    }

    static void test() {
        promises16And17();
        promise18();
        promises19And20();
        promises21And22();
        promise23();
    }

    private static void promises16And17() {
        Clauses.promise(16, "Returns the number of bits, 0 or more", () -> {
            Check.same("no values", Prepared.bare().bitWidth(0), 0);
            Check.same("one value", Prepared.sixtyRows().bitWidth(0), 0);
            Check.same("two values", Prepared.counting(2).bitWidth(0), 1);
            Check.same("three values", Prepared.counting(3).bitWidth(0), 2);
            Check.same("four values", Prepared.counting(4).bitWidth(0), 2);
            Check.same("32 values", Prepared.counting(32).bitWidth(0), 5);
            Check.same("33 values", Prepared.counting(33).bitWidth(0), 6);
        });
        Refusals.noSuchColumn(16, (table, column) -> table.bitWidth(column));
        Clauses.promise(17, "Returns the number of 64-bit words", () -> {
            PackedTable table = Prepared.counting(17);
            Check.same("85 bits", table.wordCount(0), 2);
            table.removeRow(16);
            Check.same("80 bits", table.wordCount(0), 2);
            table.compact(0);
            Check.same("64 bits", table.wordCount(0), 1);
            table.deleteSelected();
            Check.same("no rows", table.wordCount(0), 0);
            Check.same("no bits", Prepared.sixtyRows().wordCount(0), 0);
        });
        Refusals.noSuchColumn(17, (table, column) -> table.wordCount(column));
    }

    private static void promise18() {
        Clauses.promise(18, "Throws `IndexOutOfBoundsException` if there is no such column or no such word", () -> {
            Refusals.columns((table, column) -> table.packedWord(column, 0));
            for (int word : new int[] {-1, 1, 14, 15, Integer.MIN_VALUE, Integer.MAX_VALUE}) {
                Refusals.outside("word " + word, Prepared::rich, table -> table.packedWord(0, word));
            }
            PackedTable table = Prepared.counting(60);
            table.packedWord(0, 5);
            Refusals.outside("word 6 of 6", () -> Prepared.counting(60), six -> six.packedWord(0, 6));
            Refusals.outside("no rows", Prepared::bare, bare -> bare.packedWord(0, 0));
            Refusals.outside("no bits", Prepared::sixtyRows, narrow -> narrow.packedWord(0, 0));
            table.deleteSelected();
            Check.outside("bits, but no rows", () -> table.packedWord(0, 0));
        });
    }

    private static void promises19And20() {
        Clauses.promise(19, "Returns the number of bits of all packed columns", () -> {
            Check.same("new", new PackedTable().packedBits(), 30);
            Check.same("six columns of one bit", Prepared.wide(6).packedBits(), 12);
            Check.same("one column", Prepared.counting(60).packedBits(), 360);
        });
        Clauses.promise(19, "Returns the sum of the bit widths of all columns, times the number of rows", () -> {
            Check.same("no rows, no values", Prepared.bare().packedBits(), 0);
            Check.same("one value", Prepared.sixtyRows().packedBits(), 0);
            Check.same("most", Prepared.largest().packedBits(), 6 * 6 * 60);
            PackedTable table = Prepared.largest();
            table.deleteSelected();
            Check.same("bits, but no rows", table.packedBits(), 0);
        });
        Clauses.promise(20, "Returns 16 times the number of all values", () -> {
            Check.same("most", Prepared.largest().compressionRatio(), 16.0 * 360 / (2160 + 16.0 * 360));
            Check.same("sixty equal ones", Prepared.sixtyRows().compressionRatio(), 60.0);
            Check.same("one value", Prepared.counting(1).compressionRatio(), 1.0);
            PackedTable table = Prepared.counting(60);
            for (int row = 59; row > 0; row--) {
                table.removeRow(row);
            }
            Check.same("one row of sixty values", table.compressionRatio(), 16.0 / (6 + 16.0 * 60));
        });
        Clauses.promise(20, "0.0 without rows", () -> {
            Check.same("no values", Prepared.bare().compressionRatio(), 0.0);
            PackedTable table = Prepared.largest();
            table.deleteSelected();
            Check.same("stale values", table.compressionRatio(), 0.0);
        });
    }

    private static void promises21And22() {
        Clauses.promise(21, "Returns the number of runs", () -> {
            Check.same("no rows", Prepared.bare().runCount(0), 0);
            PackedTable table = Check.loaded("table 1;1;1;2;2;1;");
            Check.same("three", table.runCount(0), 3);
            table.addEqual(0, 2);
            table.deleteSelected();
            Check.same("joined", table.runCount(0), 1);
            Check.same("most", Prepared.counting(60).runCount(0), 60);
        });
        Refusals.noSuchColumn(21, (table, column) -> table.runCount(column));
        Clauses.promise(22, "Returns the number of rows", () -> {
            Check.same("one row", Prepared.counting(1).longestRun(0), 1);
            Check.same("at the start", Check.loaded("table 1;1;1;2;").longestRun(0), 2);
            Check.same("at the end", Check.loaded("table 1;2;1;1;").longestRun(0), 2);
            Check.same("not joined over another value", Check.loaded("table 1;1;1;2;1;1;").longestRun(0), 2);
            Check.same("most", Prepared.sixtyRows().longestRun(0), 60);
        });
        Clauses.promise(22, "0 without rows", () -> {
            Check.same("no values", Prepared.bare().longestRun(0), 0);
            PackedTable table = Prepared.sixtyRows();
            table.deleteSelected();
            Check.same("a stale value", table.longestRun(0), 0);
        });
        Refusals.noSuchColumn(22, (table, column) -> table.longestRun(column));
    }

    private static void promise23() {
        Clauses.promise(23, "Returns whether no row has a smaller value than the row before it", () -> {
            Check.same("no rows", Prepared.bare().isSorted(0), true);
            Check.same("one row", Prepared.counting(1).isSorted(0), true);
            Check.same("equal values", Prepared.sixtyRows().isSorted(0), true);
            Check.same("ascending", Prepared.counting(60).isSorted(0), true);
            Check.same("smaller at the start", Check.loaded("table 1;2;1;3;").isSorted(0), false);
            Check.same("smaller at the end", Check.loaded("table 1;2;3;1;").isSorted(0), false);
            Check.same("signs", Check.loaded("table 1;-9999;0;9999;").isSorted(0), true);
            Check.same("descending", Check.loaded("table 1;1;0;").isSorted(0), false);
        });
        Refusals.noSuchColumn(23, (table, column) -> table.isSorted(column));
    }
}
