/** Promises 42 to 46: what would be, and the check of the store; none of these calls changes anything. */
final class WhatIfTest {
    private static final int[] NO_COLUMNS = {-1, 3, 5, 6, Integer.MIN_VALUE, Integer.MAX_VALUE};

    public static void main(String[] args) {
        promise42();
        promise43();
        promise44();
        promise45();
        promise46();
        noSuchColumn();
        nothingChanges();
        Check.finish();
    }

    private static void promise42() {
        PackedTable table = new PackedTable();
        Check.same("42 new value", table.bitWidthWith(2, 5), 2);
        Check.same("42 old value", table.bitWidthWith(2, 7), 1);
        Check.same("42 least old value", table.bitWidthWith(2, 3), 1);
        Check.same("42 fourth value", table.bitWidthWith(0, 6), 2);
        table.setValue(0, 3, 6);
        Check.same("42 stale value", table.bitWidthWith(0, 9), 2);
        Check.same("42 fifth value", table.bitWidthWith(0, 10), 3);
        Check.same("42 greatest", table.bitWidthWith(0, 9999), 3);
        Check.same("42 least", table.bitWidthWith(0, -9999), 3);
        Check.same("42 empty", Check.loaded("table 1;").bitWidthWith(0, 0), 0);
        Check.same("42 second value", Check.loaded("table 1;1;").bitWidthWith(0, 0), 1);
        Check.illegal("42 too great", () -> table.bitWidthWith(0, 10000));
        Check.illegal("42 too small", () -> table.bitWidthWith(0, -10000));
        Check.illegal("42 greatest number", () -> table.bitWidthWith(0, Integer.MAX_VALUE));
        Check.illegal("42 least number", () -> table.bitWidthWith(0, Integer.MIN_VALUE));
        Check.outside("42 column first", () -> table.bitWidthWith(3, 10000));
    }

    private static void promise43() {
        PackedTable table = new PackedTable();
        Check.same("43 nothing stale", table.bitWidthCompacted(0), 2);
        table.setValue(0, 3, 5);
        Check.same("43 one stale", table.bitWidthCompacted(0), 1);
        Check.same("43 present width", table.bitWidth(0), 2);
        table.compact(0);
        Check.same("43 compacted", table.bitWidth(0), 1);
        table.deleteSelected();
        Check.same("43 all stale", table.bitWidthCompacted(0), 0);
    }

    private static void promise44() {
        PackedTable table = new PackedTable();
        Check.same("44 column 0", table.runsIfSorted(0), 13);
        Check.same("44 column 1", table.runsIfSorted(1), 12);
        Check.same("44 column 2", table.runsIfSorted(2), 12);
        for (int column = 0; column < 3; column++) {
            PackedTable sorted = new PackedTable();
            sorted.sort(column, true);
            int runs = sorted.runCount(0) + sorted.runCount(1) + sorted.runCount(2);
            Check.same("44 after sorting by " + column, table.runsIfSorted(column), runs);
        }
        table.deleteSelected();
        Check.same("44 no rows", table.runsIfSorted(0), 0);
    }

    private static void promise45() {
        PackedTable table = new PackedTable();
        Check.same("45 smallest index of equal ones", table.bestSortColumn(), 1);
        Check.load(table, "table 3;1 1 3;2 2 1;1 3 2;2 4 3;1 1 1;2 2 2;");
        Check.same("45 runs 0", table.runsIfSorted(0), 13);
        Check.same("45 runs 1", table.runsIfSorted(1), 12);
        Check.same("45 runs 2", table.runsIfSorted(2), 14);
        Check.same("45 middle", table.bestSortColumn(), 1);
        Check.load(table, "table 2;1 7;3 8;2 7;1 7;");
        Check.same("45 first", table.bestSortColumn(), 0);
        Check.load(table, "table 2;1 1;2 1;1 2;2 2;");
        Check.same("45 equal runs", table.bestSortColumn(), 0);
        Check.load(table, "table 2;1 7;2 8;3 7;4 8;");
        Check.same("45 last", table.bestSortColumn(), 1);
        Check.load(table, "table 6;");
        Check.same("45 no rows", table.bestSortColumn(), 0);
    }

    private static void promise46() {
        PackedTable table = new PackedTable();
        Check.same("46 new", table.gap(), 0);
        Check.script(table, "less 0 6;greater 1 -3;equal 2 7;set 0 0 2;set 0 1 8;row 1 2 3;sort 1 down;");
        Check.same("46 after a script", table.gap(), 0);
        table.deleteSelected();
        Check.same("46 with stale values", table.gap(), 0);
        table.compact(0);
        Check.same("46 compacted", table.gap(), 0);
        Check.load(table, "table 1;");
        Check.same("46 empty", table.gap(), 0);
        Check.load(table, "table 2;" + Check.repeat("1 -1;2 0;0 1;", 20));
        Check.script(table, "less 0 2;equal 1 1;greater 1 0;");
        Check.same("46 sixty rows", table.gap(), 0);
    }

    private static void noSuchColumn() {
        PackedTable table = new PackedTable();
        for (int column : NO_COLUMNS) {
            Check.outside("42 column " + column, () -> table.bitWidthWith(column, 0));
            Check.outside("43 column " + column, () -> table.bitWidthCompacted(column));
            Check.outside("44 column " + column, () -> table.runsIfSorted(column));
        }
    }

    private static void nothingChanges() {
        PackedTable table = new PackedTable();
        table.setValue(0, 3, 5);
        table.addLess(0, 4);
        String before = Check.state(table);
        table.bitWidthWith(0, 77);
        table.bitWidthCompacted(0);
        table.runsIfSorted(0);
        table.bestSortColumn();
        table.gap();
        Check.same("42 to 46 change nothing", Check.state(table), before);
        Check.same("42 to 46 are no changes", table.undoableCount(), 2);
    }
}
