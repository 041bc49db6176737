/** The boundary cases of promises 6 to 15, clause by clause. */
final class ValueClauses {
    private static final String NO_CODE = "Throws `IndexOutOfBoundsException` if there is no such column or no such code";

    private ValueClauses() {
    }

    static void test() {
        promises6And7();
        promises8And9();
        promises10And11();
        promises12And13();
        promise14();
        promise15();
    }

    private static void promises6And7() {
        Clauses.promise(6, "Returns 1 to 6", () -> {
            for (int columns = 1; columns <= 6; columns++) {
                Check.same("columns", Prepared.wide(columns).columnCount(), columns);
            }
            PackedTable table = Prepared.wide(6);
            table.deleteSelected();
            Check.same("without rows", table.columnCount(), 6);
        });
        Clauses.promise(7, "Returns 0 to 60", () -> {
            PackedTable table = Prepared.counting(59);
            Check.same("59", table.rowCount(), 59);
            Check.row(table, "0");
            Check.same("60", table.rowCount(), 60);
            Check.same("no row more", Check.script(table, "row 0;"), 0);
            Check.same("still 60", table.rowCount(), 60);
            table.deleteSelected();
            Check.same("0", table.rowCount(), 0);
            table.undo();
            Check.same("60 again", table.rowCount(), 60);
            Check.same("loaded without rows", Prepared.bare().rowCount(), 0);
        });
    }

    private static void promises8And9() {
        Refusals.noSuchColumnOrRow(8, (table, column) -> table.value(column, 0), (table, row) -> table.value(0, row));
        Refusals.noSuchColumnOrRow(9, (table, column) -> table.code(column, 0), (table, row) -> table.code(0, row));
    }

    private static void promises10And11() {
        Clauses.promise(10, "Returns the number of values, including stale ones", () -> {
            PackedTable table = new PackedTable();
            table.setValue(0, 3, 5);
            Check.same("one stale", table.dictionarySize(0), 3);
            table.deleteSelected();
            Check.same("all stale", table.dictionarySize(0), 3);
            table.compact(0);
            Check.same("none", table.dictionarySize(0), 0);
            Check.same("of a table without rows", Prepared.bare().dictionarySize(0), 0);
            Check.same("of sixty", Prepared.counting(60).dictionarySize(0), 60);
            Check.same("of one value", Prepared.sixtyRows().dictionarySize(0), 1);
        });
        Refusals.noSuchColumn(10, (table, column) -> table.dictionarySize(column));
        Clauses.promise(11, NO_CODE, () -> {
            Refusals.columns((table, column) -> table.dictionaryValue(column, 0));
            noSuchCode((table, code) -> table.dictionaryValue(0, code));
        });
        Clauses.promise(11, "Returns the value with this code", () -> {
            PackedTable table = Check.loaded("table 1;9999;-9999;");
            Check.same("first", table.dictionaryValue(0, 0), -9999);
            Check.same("last", table.dictionaryValue(0, 1), 9999);
            table.deleteSelected();
            Check.same("stale", table.dictionaryValue(0, 1), 9999);
        });
    }

    /** In column 0 of the rich table the codes are 0 to 3, of which 3 is stale. */
    private static void noSuchCode(Refusals.Call call) {
        call.on(Prepared.rich(), 0);
        call.on(Prepared.rich(), 3);
        call.on(Prepared.counting(60), 59);
        for (int code : new int[] {-1, 4, 16, Integer.MIN_VALUE, Integer.MAX_VALUE}) {
            Refusals.outside("code " + code, Prepared::rich, table -> call.on(table, code));
        }
        Refusals.outside("code 60", () -> Prepared.counting(60), table -> call.on(table, 60));
        Refusals.outside("code 0 of none", Prepared::bare, table -> call.on(table, 0));
        Refusals.outside("code -1 of none", Prepared::bare, table -> call.on(table, -1));
    }

    private static void promises12And13() {
        Clauses.promise(12, "-1 if the dictionary does not contain it", () -> {
            PackedTable table = Check.loaded("table 2;5 6;1 0;9 0;");
            for (int value : new int[] {0, 2, 4, 6, 8, 10, -9999, 9999, -10000, 10000, Integer.MIN_VALUE, Integer.MAX_VALUE}) {
                Check.same("value " + value, table.findCode(0, value), -1);
            }
            Check.same("of an empty dictionary", Prepared.bare().findCode(0, 0), -1);
            table.removeRow(2);
            Check.same("stale", table.findCode(0, 9), 2);
            table.compact(0);
            Check.same("compacted", table.findCode(0, 9), -1);
            Check.same("first", table.findCode(0, 1), 0);
            Check.same("last", table.findCode(0, 5), 1);
        });
        Refusals.noSuchColumn(12, (table, column) -> table.findCode(column, 0));
        Clauses.promise(13, "Counts the stale values of a dictionary", () -> {
            PackedTable table = new PackedTable();
            table.setValue(0, 3, 2);
            Check.same("one", table.staleCount(0), 1);
            Check.same("in another column", table.staleCount(1), 0);
            table.setValue(0, 3, 9);
            Check.same("9 is none again, but 2", table.staleCount(0), 1);
            table.undo();
            table.undo();
            Check.same("undone", table.staleCount(0), 0);
        });
        Clauses.promise(13, "Returns the number of values that do not occur in the column", () -> {
            PackedTable table = Prepared.counting(60);
            Check.same("none", table.staleCount(0), 0);
            table.deleteSelected();
            Check.same("all", table.staleCount(0), 60);
            table.compact(0);
            Check.same("compacted", table.staleCount(0), 0);
            Check.same("of an empty dictionary", Prepared.bare().staleCount(0), 0);
        });
        Refusals.noSuchColumn(13, (table, column) -> table.staleCount(column));
    }

    private static void promise14() {
        Clauses.promise(14, NO_CODE, () -> {
            Refusals.columns((table, column) -> table.frequency(column, 0));
            noSuchCode((table, code) -> table.frequency(0, code));
        });
        Clauses.promise(14, "Returns the number of rows in which the column has this code", () -> {
            Check.same("all rows", Prepared.sixtyRows().frequency(0, 0), 60);
            PackedTable table = new PackedTable();
            table.setValue(0, 3, 5);
            Check.same("a stale code", table.frequency(0, 2), 0);
            table.addLess(0, -9);
            Check.same("rows that are not selected", table.frequency(0, 1), 4);
        });
    }

    private static void promise15() {
        Clauses.promise(15, "Finds the most frequent code of a column", () -> {
            PackedTable table = Check.loaded("table 2;9 1;9 2;1 2;");
            Check.same("the greater code", table.commonestCode(0), 1);
            table.addLess(0, 9);
            Check.same("whatever is selected", table.commonestCode(0), 1);
            Check.same("of the last column", table.commonestCode(1), 1);
        });
        Clauses.promise(15, "Returns the code with the greatest frequency", () -> {
            Check.same("the first", Check.loaded("table 1;1;2;3;1;").commonestCode(0), 0);
            Check.same("the last", Check.loaded("table 1;1;3;2;3;").commonestCode(0), 2);
            Check.same("one row", Prepared.counting(1).commonestCode(0), 0);
            Check.same("sixty rows", Prepared.sixtyRows().commonestCode(0), 0);
            PackedTable table = Check.loaded("table 1;1;1;1;2;2;");
            table.removeRow(0);
            table.removeRow(0);
            Check.same("rows alone count", table.commonestCode(0), 1);
            table.removeRow(0);
            Check.same("a stale code before", table.commonestCode(0), 1);
        });
        Clauses.promise(15, "the smallest code if several are equal", () -> {
            Check.same("all once", Check.loaded("table 1;9;8;7;").commonestCode(0), 0);
            Check.same("two twice", Check.loaded("table 1;9;9;0;8;8;").commonestCode(0), 1);
            Check.same("the smaller one behind", Check.loaded("table 1;0;1;1;-1;-1;").commonestCode(0), 0);
            Check.same("below 0", Check.loaded("table 1;-7;-8;-8;-7;").commonestCode(0), 0);
            Check.same("sixty", Prepared.counting(60).commonestCode(0), 0);
        });
        Clauses.promise(15, "-1 without rows", () -> {
            Check.same("an empty dictionary", Prepared.bare().commonestCode(0), -1);
            PackedTable table = Check.loaded("table 1;-1;0;1;");
            table.deleteSelected();
            Check.same("stale values", table.commonestCode(0), -1);
        });
        Refusals.noSuchColumn(15, (table, column) -> table.commonestCode(column));
    }
}
