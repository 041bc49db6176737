/** Promises 6 to 15: values and dictionaries. */
final class ValuesTest {
    private static final int[] NO_COLUMNS = {-1, 3, 5, 6, Integer.MIN_VALUE, Integer.MAX_VALUE};

    public static void main(String[] args) {
        promises6And7();
        promise8();
        promise9();
        promise10();
        promise11();
        promise12();
        promise13();
        promise14();
        promise15();
        noSuchColumn();
        Check.finish();
    }

    private static void promises6And7() {
        for (int columns = 1; columns <= 6; columns++) {
            PackedTable table = Check.loaded("table " + columns + ";" + Check.repeat("1 ", columns) + ";");
            Check.same("6 columns", table.columnCount(), columns);
            Check.same("7 one row", table.rowCount(), 1);
        }
        PackedTable table = Check.loaded("table 1;" + Check.repeat("1;", 59));
        Check.same("7 rows", table.rowCount(), 59);
        Check.row(table, "2");
        Check.same("7 rows after addRow", table.rowCount(), 60);
        table.addEqual(0, 1);
        table.deleteSelected();
        Check.same("7 rows after deleteSelected", table.rowCount(), 1);
        table.removeRow(0);
        Check.same("7 no rows", table.rowCount(), 0);
        Check.same("6 without rows", table.columnCount(), 1);
    }

    private static void promise8() {
        PackedTable table = new PackedTable();
        Check.same("8 first", table.value(0, 0), 5);
        Check.same("8 last", table.value(2, 5), 7);
        Check.same("8 column, then row", table.value(1, 4), 4);
        Check.outside("8 row -1", () -> table.value(0, -1));
        Check.outside("8 row 6", () -> table.value(0, 6));
        Check.outside("8 row 60", () -> table.value(0, 60));
        Check.outside("8 greatest row", () -> table.value(0, Integer.MAX_VALUE));
        table.removeRow(0);
        Check.outside("8 removed row", () -> table.value(0, 5));
    }

    private static void promise9() {
        PackedTable table = new PackedTable();
        Check.same("9 least value", table.code(0, 1), 0);
        Check.same("9 greatest value", table.code(0, 3), 2);
        Check.same("9 last column", table.code(2, 5), 1);
        table.setValue(0, 0, 3);
        Check.same("9 inserted", table.code(0, 0), 1);
        Check.same("9 greater increased", table.code(0, 3), 3);
        Check.same("9 less kept", table.code(0, 1), 0);
        Check.outside("9 row -1", () -> table.code(0, -1));
        Check.outside("9 row 6", () -> table.code(0, 6));
    }

    private static void promise10() {
        PackedTable table = new PackedTable();
        Check.same("10 size", table.dictionarySize(0), 3);
        table.setValue(0, 3, 1);
        Check.same("10 stale counts", table.dictionarySize(0), 3);
        table.setValue(0, 3, 2);
        Check.same("10 inserted", table.dictionarySize(0), 4);
        table.deleteSelected();
        Check.same("10 all stale", table.dictionarySize(0), 4);
        Check.load(table, "table 1;");
        Check.same("10 empty", table.dictionarySize(0), 0);
    }

    private static void promise11() {
        PackedTable table = new PackedTable();
        Check.same("11 first", table.dictionaryValue(1, 0), -2);
        Check.same("11 last", table.dictionaryValue(1, 2), 4);
        table.setValue(1, 4, -5);
        Check.same("11 stale", Check.dictionary(table, 1), "-5 -2 0 4");
        Check.outside("11 code -1", () -> table.dictionaryValue(1, -1));
        Check.outside("11 code 4", () -> table.dictionaryValue(1, 4));
        Check.outside("11 code of another column", () -> table.dictionaryValue(2, 2));
        Check.load(table, "table 1;");
        Check.outside("11 empty dictionary", () -> table.dictionaryValue(0, 0));
    }

    private static void promise12() {
        PackedTable table = new PackedTable();
        Check.same("12 found", table.findCode(0, 9), 2);
        Check.same("12 between", table.findCode(0, 6), -1);
        Check.same("12 below", table.findCode(0, 0), -1);
        Check.same("12 above", table.findCode(0, 10), -1);
        Check.same("12 least number", table.findCode(0, Integer.MIN_VALUE), -1);
        Check.same("12 greatest number", table.findCode(0, Integer.MAX_VALUE), -1);
        table.setValue(0, 3, 1);
        Check.same("12 stale", table.findCode(0, 9), 2);
        table.compact(0);
        Check.same("12 compacted", table.findCode(0, 9), -1);
        for (int value = 10; value < 80; value++) {
            table.setValue(0, 3, value);
            Check.same("12 of " + value, table.findCode(0, value), value - 8);
            Check.same("12 above " + value, table.findCode(0, value + 1), -1);
        }
        Check.load(table, "table 1;");
        Check.same("12 empty", table.findCode(0, 0), -1);
    }

    private static void promise13() {
        PackedTable table = new PackedTable();
        Check.same("13 none", table.staleCount(0), 0);
        table.setValue(0, 3, 2);
        Check.same("13 one", table.staleCount(0), 1);
        Check.same("13 other column", table.staleCount(1), 0);
        table.setValue(0, 3, 9);
        Check.same("13 another one", table.staleCount(0), 1);
        Check.same("13 it is 2", table.frequency(0, table.findCode(0, 2)), 0);
        table.deleteSelected();
        Check.same("13 all", table.staleCount(0), 4);
        Check.same("13 all of column 2", table.staleCount(2), 2);
    }

    private static void promise14() {
        PackedTable table = new PackedTable();
        Check.same("14 code 0", table.frequency(0, 0), 2);
        Check.same("14 code 1", table.frequency(0, 1), 3);
        Check.same("14 code 2", table.frequency(0, 2), 1);
        table.setValue(0, 3, 5);
        Check.same("14 stale", table.frequency(0, 2), 0);
        Check.same("14 more", table.frequency(0, 1), 4);
        Check.outside("14 code -1", () -> table.frequency(0, -1));
        Check.outside("14 code 3", () -> table.frequency(0, 3));
        Check.outside("14 code 2 of column 2", () -> table.frequency(2, 2));
    }

    private static void promise15() {
        PackedTable table = new PackedTable();
        Check.same("15 column 0", table.commonestCode(0), 1);
        Check.same("15 column 1", table.commonestCode(1), 0);
        Check.same("15 column 2", table.commonestCode(2), 1);
        Check.load(table, "table 1;8;7;7;8;9;-1;");
        Check.same("15 equal frequencies", table.commonestCode(0), 1);
        Check.load(table, "table 1;-7;-8;-8;-7;");
        Check.same("15 equal frequencies below 0", table.commonestCode(0), 0);
        Check.load(table, "table 1;5;4;");
        table.setValue(0, 1, 6);
        Check.same("15 stale value before", table.commonestCode(0), 1);
        table.deleteSelected();
        Check.same("15 no rows", table.commonestCode(0), -1);
        Check.load(table, "table 1;" + Check.repeat("1;2;0;", 20));
        Check.same("15 sixty rows", table.commonestCode(0), 0);
    }

    private static void noSuchColumn() {
        PackedTable table = new PackedTable();
        for (int column : NO_COLUMNS) {
            Check.outside("8 column " + column, () -> table.value(column, 0));
            Check.outside("9 column " + column, () -> table.code(column, 0));
            Check.outside("10 column " + column, () -> table.dictionarySize(column));
            Check.outside("11 column " + column, () -> table.dictionaryValue(column, 0));
            Check.outside("12 column " + column, () -> table.findCode(column, 5));
            Check.outside("13 column " + column, () -> table.staleCount(column));
            Check.outside("14 column " + column, () -> table.frequency(column, 0));
            Check.outside("15 column " + column, () -> table.commonestCode(column));
        }
    }
}
