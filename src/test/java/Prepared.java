/** Tables to begin a test with. */
final class Prepared {
    private Prepared() {
    }

    /** Something of everything: stale values, conditions, changes, a snapshot, a parse error, output and text. */
    static PackedTable rich() {
        PackedTable table = new PackedTable();
        table.setValue(0, 3, 2);
        table.addLess(0, 9);
        table.addGreater(1, -9);
        table.saveSnapshot();
        table.setValue(1, 4, -5);
        table.addEqual(2, 7);
        table.sort(0, true);
        table.writeRow(1);
        Check.load(table, "table 1;10000;");
        Check.feed(table, "table 2;7 8;9 9;");
        return table;
    }

    /** All that can be full is full: rows, conditions, changes and the input buffer. */
    static PackedTable full() {
        PackedTable table = sixtyRows();
        for (int value = 2; value < 10; value++) {
            table.addLess(0, value);
        }
        table.setValue(0, 59, 3);
        table.saveSnapshot();
        table.compact(0);
        table.writeRow(59);
        Check.script(table, Check.repeat("delete;", 21));
        Check.feed(table, "table 1;" + Check.repeat("-9999;", 60) + Check.repeat(" ", 332));
        return table;
    }

    /** All that can be empty is empty. */
    static PackedTable bare() {
        return Check.loaded("table 1;");
    }

    static PackedTable sixtyRows() {
        return Check.loaded("table 1;" + Check.repeat("1;", 60));
    }

    /** A table of one column with the values 0 to rows - 1. */
    static PackedTable counting(int rows) {
        StringBuilder text = new StringBuilder("table 1;");
        for (int row = 0; row < rows; row++) {
            text.append(row).append(';');
        }
        return Check.loaded(text.toString());
    }

    /** Two rows, of 1 and of 2, in as many columns. */
    static PackedTable wide(int columns) {
        return Check.loaded("table " + columns + ";" + Check.repeat("1 ", columns) + ";" + Check.repeat("2 ", columns) + ";");
    }

    /** Six columns and sixty rows, with the value 100 * column + row in each place. */
    static PackedTable largest() {
        PackedTable table = Check.loaded("table 6;");
        for (int first = 0; first < 60; first += 20) {
            StringBuilder script = new StringBuilder();
            for (int row = first; row < first + 20; row++) {
                script.append("row");
                for (int column = 0; column < 6; column++) {
                    script.append(' ').append(100 * column + row);
                }
                script.append(';');
            }
            Check.script(table, script.toString());
        }
        return table;
    }

    /** A filter of eight conditions, all of which all rows of a new table fulfill. */
    static PackedTable eightConditions() {
        PackedTable table = new PackedTable();
        for (int value = 10; value < 18; value++) {
            table.addLess(0, value);
        }
        return table;
    }
}
