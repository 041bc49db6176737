/** The boundary cases of promises 42 to 46, clause by clause. */
final class WhatIfClauses {
    private WhatIfClauses() {
    }

    static void test() {
        promise42();
        promise43();
        promises44And45();
        promise46();
    }

    private static void promise42() {
        Clauses.promise(42, "Returns the bit width that a column would have if a value was added to its dictionary", () -> {
            Check.same("first value", Prepared.bare().bitWidthWith(0, 5), 0);
            Check.same("second value", Prepared.counting(1).bitWidthWith(0, 5), 1);
            Check.same("third value", Prepared.counting(2).bitWidthWith(0, 5), 2);
            Check.same("fourth value", Prepared.counting(3).bitWidthWith(0, 5), 2);
            Check.same("fifth value", Prepared.counting(4).bitWidthWith(0, 5), 3);
            Check.same("32nd value", Prepared.counting(31).bitWidthWith(0, -9999), 5);
            Check.same("33rd value", Prepared.counting(32).bitWidthWith(0, 9999), 6);
        });
        Clauses.promise(42, "the present one if the dictionary contains the value", () -> {
            PackedTable table = Prepared.counting(4);
            for (int value = 0; value < 4; value++) {
                Check.same("value " + value, table.bitWidthWith(0, value), 2);
            }
            table.removeRow(3);
            Check.same("a stale value", table.bitWidthWith(0, 3), 2);
            Check.same("the only value", Prepared.sixtyRows().bitWidthWith(0, 1), 0);
        });
        Refusals.noSuchColumn(42, (table, column) -> table.bitWidthWith(column, 0));
        Refusals.valueOutOfRange(42, (table, value) -> table.bitWidthWith(0, value));
    }

    private static void promise43() {
        Clauses.promise(43, "Returns the bit width that a column would have after compacting it", () -> {
            PackedTable table = Prepared.counting(5);
            Check.same("nothing stale", table.bitWidthCompacted(0), 3);
            for (int left = 4; left >= 0; left--) {
                table.removeRow(0);
                int[] widths = {0, 0, 1, 2, 2};
                Check.same(left + " values left", table.bitWidthCompacted(0), widths[left]);
                Check.same("the present one", table.bitWidth(0), 3);
            }
            Check.same("no values", Prepared.bare().bitWidthCompacted(0), 0);
        });
        Refusals.noSuchColumn(43, (table, column) -> table.bitWidthCompacted(column));
    }

    private static void promises44And45() {
        Clauses.promise(44, "Returns the number of all runs if the table was sorted by a column", () -> {
            Check.same("no rows", Prepared.bare().runsIfSorted(0), 0);
            Check.same("one row of six columns", Check.loaded("table 6;1 2 3 4 5 6;").runsIfSorted(5), 6);
            Check.same("one run", Prepared.sixtyRows().runsIfSorted(0), 1);
            Check.same("most", Prepared.largest().runsIfSorted(5), 360);
        });
        Clauses.promise(44, "Returns the sum of the numbers of runs of all columns after sort(column, true)", () -> {
            PackedTable table = Check.loaded("table 3;2 1 5;1 1 6;2 2 5;1 2 6;2 1 5;");
            for (int column = 0; column < 3; column++) {
                int runs = table.runsIfSorted(column);
                table.sort(column, true);
                Check.same("column " + column, runs, table.runCount(0) + table.runCount(1) + table.runCount(2));
                table.undo();
            }
            PackedTable stable = Check.loaded("table 2;2 1;1 5;2 3;1 5;2 3;2 1;");
            Check.same("equal values keep their order", stable.runsIfSorted(0), 2 + 4);
        });
        Refusals.noSuchColumn(44, (table, column) -> table.runsIfSorted(column));
        Clauses.promise(45, "Returns the column with the smallest runsIfSorted", () -> {
            Check.same("the first", Check.loaded("table 2;1 7;3 8;2 7;1 7;").bestSortColumn(), 0);
            Check.same("the last", Check.loaded("table 2;1 7;2 8;3 7;4 8;").bestSortColumn(), 1);
            PackedTable six = Check.loaded("table 6;1 1 1 1 1 1;2 2 2 2 2 2;3 3 3 3 3 1;4 4 4 4 4 2;");
            Check.same("the last of six", six.bestSortColumn(), 5);
            Check.same("the only one", Prepared.counting(60).bestSortColumn(), 0);
        });
        Clauses.promise(45, "the smallest index if several are equal", () -> {
            Check.same("all equal", Prepared.largest().bestSortColumn(), 0);
            Check.same("no rows", Check.loaded("table 6;").bestSortColumn(), 0);
            PackedTable table = Check.loaded("table 3;1 1 1;2 2 2;3 1 1;4 2 2;");
            Check.same("the last two equal", table.bestSortColumn(), 1);
            Check.same("their runs", table.runsIfSorted(1), table.runsIfSorted(2));
        });
    }

    private static void promise46() {
        Clauses.promise(46, "always 0", () -> {
            Check.same("new", new PackedTable().gap(), 0);
            Check.same("rich", Prepared.rich().gap(), 0);
            Check.same("full", Prepared.full().gap(), 0);
            Check.same("bare", Prepared.bare().gap(), 0);
            Check.same("largest", Prepared.largest().gap(), 0);
            for (int value : new int[] {-9999, -1, 0, 1, 9999}) {
                PackedTable table = Check.loaded("table 2;-9999 0;9999 0;0 0;");
                for (int direction = -1; direction <= 1; direction++) {
                    addCondition(table, value, direction);
                    Check.same("direction " + direction + " of " + value, table.gap(), 0);
                    table.setValue(0, 2, value);
                    Check.same("with value " + value, table.gap(), 0);
                    table.addEqual(1, 0);
                    Check.same("with another condition", table.gap(), 0);
                    table.compact(0);
                    Check.same("compacted", table.gap(), 0);
                    for (int count = 4; count > 0; count--) {
                        table.undo();
                        Check.same("undone", table.gap(), 0);
                    }
                }
            }
        });
    }

    private static void addCondition(PackedTable table, int value, int direction) {
        switch (direction) {
            case -1 -> table.addLess(0, value);
            case 0 -> table.addEqual(0, value);
            default -> table.addGreater(0, value);
        }
    }
}
