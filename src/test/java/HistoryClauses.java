/** The boundary cases of promises 58 to 63, clause by clause. */
final class HistoryClauses {
    private HistoryClauses() {
    }

    static void test() {
        promise58();
        promise59();
        promise60();
        promise61();
        promise61Keeps();
        promise62();
        promise63();
    }

    private static void promise58() {
        Clauses.promise(58, "Writes a row to the output, which is replaced", () -> {
            PackedTable table = Check.loaded("table 6;-9999 -9999 -9999 -9999 -9999 -9999;0 -1 10 -10 100 1000;");
            written(table, 0, "-9999 -9999 -9999 -9999 -9999 -9999*");
            written(table, 1, "0 -1 10 -10 100 1000*");
            table.addLess(0, 0);
            written(table, 1, "0 -1 10 -10 100 1000");
            table.sort(0, false);
            written(table, 1, "-9999 -9999 -9999 -9999 -9999 -9999*");
            written(Check.loaded("table 1;0;"), 0, "0*");
            written(Check.loaded("table 2;9 -9;"), 0, "9 -9*");
            written(Check.loaded("table 3;99 999 9999;"), 0, "99 999 9999*");
            written(Check.loaded("table 3;101 1001 -1010;"), 0, "101 1001 -1010*");
        });
        Clauses.promise(58, "Returns the number of bytes of the output", () -> {
            PackedTable one = Check.loaded("table 1;5;");
            Check.same("selected", one.writeRow(0), 2);
            one.addLess(0, 5);
            Check.same("not selected", one.writeRow(0), 1);
            Check.same("most", Check.loaded("table 6;" + Check.repeat("-9999 ", 6) + ";").writeRow(0), 36);
        });
        Refusals.noSuchRow(58, (table, row) -> table.writeRow(row));
    }

    private static void written(PackedTable table, int row, String due) {
        Check.same("length of " + due, table.writeRow(row), due.length());
        Check.same("output", Check.output(table, due.length()), due);
        Check.outside("nothing behind " + due, () -> table.outputByte(due.length()));
    }

    private static void promise59() {
        Clauses.promise(59, "The output changes in writeRow only", () -> {
            PackedTable table = new PackedTable();
            table.writeRow(0);
            table.setValue(0, 0, 8);
            table.addLess(0, 0);
            Check.same("after changes", Check.output(table, 7), "5 -2 7*");
            table.undo();
            table.saveSnapshot();
            table.restoreSnapshot();
            Check.script(table, "delete;");
            Check.outside("no such row", () -> table.writeRow(0));
            Check.same("after a refused call", Check.output(table, 7), "5 -2 7*");
            Check.load(table, "table 1;");
            Check.load(table, "table 7;");
            Check.same("after loading", Check.output(table, 7), "5 -2 7*");
            Check.outside("nothing behind", () -> table.outputByte(7));
        });
        Clauses.promise(59, "Throws `IndexOutOfBoundsException` if there is no such byte", () -> {
            Check.same("first", Prepared.rich().outputByte(0), '1');
            Check.same("last", Prepared.rich().outputByte(5), '3');
            for (int index : new int[] {-1, 6, 35, 36, 37, Integer.MIN_VALUE, Integer.MAX_VALUE}) {
                Refusals.outside("index " + index, Prepared::rich, table -> table.outputByte(index));
            }
            Refusals.outside("no output", Prepared::bare, table -> table.outputByte(0));
            Refusals.outside("no output, index -1", Prepared::bare, table -> table.outputByte(-1));
            PackedTable longest = Check.loaded("table 6;" + Check.repeat("-9999 ", 6) + ";9 9 9 9 9 9;");
            longest.writeRow(0);
            Check.same("byte 35", longest.outputByte(35), '*');
            Check.outside("byte 36", () -> longest.outputByte(36));
            longest.writeRow(1);
            Check.same("byte 11", longest.outputByte(11), '*');
            Check.outside("byte 12 of a shorter one", () -> longest.outputByte(12));
        });
    }

    private static void promise60() {
        Clauses.promise(60, "Returns 0 to 8", () -> {
            PackedTable table = new PackedTable();
            for (int count = 0; count < 20; count++) {
                Check.same("after " + count, table.undoableCount(), Math.min(count, 8));
                table.compact(0);
            }
            Check.same("eight", table.undoableCount(), 8);
            for (int left = 7; left >= 0; left--) {
                table.undo();
                Check.same("left", table.undoableCount(), left);
            }
            Check.notNow("nothing", () -> table.undo());
            Check.same("still 0", table.undoableCount(), 0);
        });
    }

    private static void promise61() {
        Clauses.promise(61, "Undoes the latest change: table, dictionaries and filter become as they were before it", () -> {
            PackedTable table = Prepared.full();
            String[] states = new String[9];
            for (int change = 0; change < 8; change++) {
                states[change] = Check.state(table);
                Check.script(table, "drop 0;set 0 " + change + " " + (change * 1000) + ";sort 0 down;compact 0;");
            }
            for (int change = 7; change >= 0; change--) {
                table.undo();
                Check.same("before change " + change, Check.state(table), states[change]);
            }
            PackedTable emptied = Prepared.largest();
            String before = Check.state(emptied);
            Check.script(emptied, "delete;compact 0;compact 5;");
            Check.same("emptied", emptied.rowCount(), 0);
            emptied.undo();
            Check.same("full again", Check.state(emptied), before);
            PackedTable bare = Prepared.bare();
            Check.row(bare, "5");
            bare.undo();
            Check.same("empty again", Check.state(bare), "table 1;||");
        });
        Clauses.promise(61, "Returns the number of changes that can still be undone", () -> {
            PackedTable table = new PackedTable();
            table.compact(0);
            Check.same("of one", table.undo(), 0);
            for (int count = 0; count < 9; count++) {
                table.compact(0);
            }
            Check.same("of nine", table.undo(), 7);
            table.compact(0);
            Check.same("of eight again", table.undo(), 7);
        });
        Clauses.promise(61, "Throws `IllegalStateException` if there is nothing to undo", () -> {
            Refusals.notNow("new", PackedTable::new, table -> table.undo());
            Refusals.notNow("loaded", Prepared::bare, table -> table.undo());
            Refusals.notNow("all undone", HistoryClauses::allUndone, table -> table.undo());
            PackedTable table = Prepared.rich();
            table.restoreSnapshot();
            Check.notNow("restored", () -> table.undo());
        });
    }

    private static PackedTable allUndone() {
        PackedTable table = Prepared.rich();
        for (int count = table.undoableCount(); count > 0; count--) {
            table.undo();
        }
        return table;
    }

    private static void promise61Keeps() {
        Clauses.promise(61, "The input buffer, the parse error, the output and the snapshot are not affected", () -> {
            PackedTable table = allUndone();
            Check.same("code", table.errorCode(), 2);
            Check.same("offset", table.errorOffset(), 8);
            Check.same("output", Check.output(table, 6), "1 -5 3");
            Check.same("snapshot", table.restoreSnapshot(), 6);
            Check.same("its state", Check.filter(table) + " " + table.value(0, 3), "0<9 1>-9 2");
            Check.same("buffer", table.loadTable(16), 2);
            Check.same("its text", Check.text(table), "table 2;7 8;9 9;");
            PackedTable full = Prepared.full();
            full.undo();
            Check.same("a full buffer", full.appendText(0, 0, 0, 0, 0), -1);
            PackedTable row = new PackedTable();
            Check.row(row, "1 2 3");
            row.undo();
            Check.illegal("an empty buffer", () -> row.addRow(1));
            PackedTable without = new PackedTable();
            without.compact(0);
            without.undo();
            Check.notNow("no snapshot", () -> without.restoreSnapshot());
        });
    }

    private static void promise62() {
        Clauses.promise(62, "Saves a snapshot of the table, the dictionaries and the filter", () -> {
            PackedTable table = Prepared.full();
            String saved = Check.state(table);
            table.saveSnapshot();
            Check.script(table, "delete;drop 0;compact 0;");
            table.restoreSnapshot();
            Check.same("full", Check.state(table), saved);
            PackedTable bare = Prepared.bare();
            bare.saveSnapshot();
            Check.row(bare, "5");
            Check.same("empty", bare.restoreSnapshot(), 0);
            Check.same("empty state", Check.state(bare), "table 1;||");
        });
        Clauses.promise(62, "An earlier snapshot is replaced", () -> {
            PackedTable table = new PackedTable();
            table.saveSnapshot();
            table.setValue(0, 0, 7);
            table.deleteSelected();
            table.saveSnapshot();
            Check.row(table, "1 2 3");
            Check.same("the later one", table.restoreSnapshot(), 0);
            Check.same("its state", Check.state(table), "table 3;|1 5 7 9|-2 0 4|3 7|");
        });
    }

    private static void promise63() {
        Clauses.promise(63, "Restores the snapshot, which is kept", () -> {
            PackedTable table = Prepared.rich();
            for (int count = 0; count < 3; count++) {
                Check.same("rows", table.restoreSnapshot(), 6);
                Check.same("state", Check.state(table),
                        "table 3;5 -2 7;1 -2 7;5 0 3;2 -2 7;1 4 3;5 0 7;|1 2 5 9|-2 0 4|3 7|0<9 1>-9");
                Check.script(table, "delete;drop 0;compact 0;row 8 8 8;");
                table.setValue(0, 0, 50);
            }
        });
        Clauses.promise(63, "The undo history is cleared", () -> {
            PackedTable table = Prepared.full();
            Check.same("before", table.undoableCount(), 8);
            table.restoreSnapshot();
            Check.same("cleared", table.undoableCount(), 0);
            Check.notNow("nothing to undo", () -> table.undo());
            table.setValue(0, 0, 9);
            Check.same("a new change", table.undo(), 0);
            Check.same("undone", table.value(0, 0), 1);
        });
        Clauses.promise(63, "Returns the number of rows afterwards", () -> {
            PackedTable table = Prepared.sixtyRows();
            table.saveSnapshot();
            table.deleteSelected();
            Check.same("sixty", table.restoreSnapshot(), 60);
            table.deleteSelected();
            table.saveSnapshot();
            Check.same("none", table.restoreSnapshot(), 0);
        });
        Clauses.promise(63, "Throws `IllegalStateException` if there is no snapshot", () -> {
            Refusals.notNow("new", PackedTable::new, table -> table.restoreSnapshot());
            Refusals.notNow("loaded", Prepared::bare, table -> table.restoreSnapshot());
            PackedTable table = Prepared.rich();
            table.loadTable(16);
            Check.notNow("discarded", () -> table.restoreSnapshot());
            table.saveSnapshot();
            Check.same("saved anew", table.restoreSnapshot(), 2);
        });
    }
}
