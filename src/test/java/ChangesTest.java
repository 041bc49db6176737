/** Promises 47 to 57: changes. */
final class ChangesTest {
    private static final int[] NO_COLUMNS = {-1, 3, 5, 6, Integer.MIN_VALUE, Integer.MAX_VALUE};
    private static final int[] NO_ROWS = {-1, 6, 59, 60, Integer.MIN_VALUE, Integer.MAX_VALUE};

    public static void main(String[] args) {
        promise47();
        promise47Refused();
        promise48();
        promise49();
        promise49Order();
        promise50();
        promise50Stable();
        promises51To53();
        promises51To53Refused();
        promise54();
        promise55();
        promise56();
        promise57();
        promise57Commands();
        promise57Stops();
        promise57Refused();
        Check.finish();
    }

    private static void promise47() {
        PackedTable table = new PackedTable();
        Check.same("47 index", Check.row(table, "3 - 9999\n9999"), 6);
        Check.same("47 behind all others", Check.text(table),
                "table 3;5 -2 7;1 -2 7;5 0 3;9 -2 7;1 4 3;5 0 7;3 -9999 9999;");
        Check.same("47 dictionary 0", Check.dictionary(table, 0), "1 3 5 9");
        Check.same("47 dictionary 1", Check.dictionary(table, 1), "-9999 -2 0 4");
        Check.same("47 is a change", table.undoableCount(), 1);
        Check.feed(table, "1 2 3 4 5");
        Check.same("47 first bytes alone", table.addRow(5), 7);
        Check.same("47 buffer emptied", table.appendText(0, 0, 0, 0, 0), 20);
        PackedTable one = Check.loaded("table 1;" + Check.repeat("1;", 59));
        Check.same("47 the sixtieth", Check.row(one, "-0002 "), 59);
        Check.same("47 its value", one.value(0, 59), -2);
    }

    private static void promise47Refused() {
        PackedTable table = new PackedTable();
        Check.feed(table, "1 2 3");
        Check.illegal("47 negative", () -> table.addRow(-1));
        Check.illegal("47 least", () -> table.addRow(Integer.MIN_VALUE));
        Check.illegal("47 too long", () -> table.addRow(21));
        Check.illegal("47 greatest", () -> table.addRow(Integer.MAX_VALUE));
        Check.same("47 not a change", table.undoableCount(), 0);
        Check.same("47 not emptied", table.addRow(5), 6);
        PackedTable full = Prepared.sixtyRows();
        Check.feed(full, "1");
        Check.illegal("47 length first", () -> full.addRow(21));
        Check.notNow("47 sixty rows", () -> full.addRow(1));
        Check.notNow("47 sixty rows before parsing", () -> full.addRow(0));
        Check.same("47 no change", full.undoableCount(), 0);
        full.removeRow(3);
        Check.same("47 not emptied when full", full.addRow(1), 59);
    }

    private static void promise48() {
        PackedTable table = new PackedTable();
        table.addEqual(0, 9);
        Check.same("48 middle", table.removeRow(3), 5);
        Check.same("48 rows behind", Check.text(table), "table 3;5 -2 7;1 -2 7;5 0 3;1 4 3;5 0 7;");
        Check.same("48 dictionary kept", Check.dictionary(table, 0), "1 5 9");
        Check.same("48 filter kept", Check.filter(table), "0=9");
        Check.same("48 first", table.removeRow(0), 4);
        Check.same("48 last", table.removeRow(3), 3);
        Check.same("48 left", Check.text(table), "table 3;1 -2 7;5 0 3;1 4 3;");
        Check.outside("48 no longer", () -> table.removeRow(3));
        Check.same("48 changes", table.undoableCount(), 4);
        table.removeRow(0);
        table.removeRow(0);
        Check.same("48 none left", table.removeRow(0), 0);
        Check.outside("48 without rows", () -> table.removeRow(0));
        PackedTable other = new PackedTable();
        for (int row : NO_ROWS) {
            Check.outside("48 row " + row, () -> other.removeRow(row));
        }
        Check.same("48 no change", other.undoableCount(), 0);
        Check.same("48 of sixty", Prepared.sixtyRows().removeRow(59), 59);
    }

    private static void promise49() {
        PackedTable table = new PackedTable();
        Check.same("49 before", table.setValue(1, 2, 9), 0);
        Check.same("49 after", table.value(1, 2), 9);
        Check.same("49 others", Check.text(table), "table 3;5 -2 7;1 -2 7;5 9 3;9 -2 7;1 4 3;5 0 7;");
        Check.same("49 inserted", Check.dictionary(table, 1), "-2 0 4 9");
        Check.same("49 other dictionary", Check.dictionary(table, 0), "1 5 9");
        Check.same("49 same value", table.setValue(1, 2, 9), 9);
        Check.same("49 is a change", table.undoableCount(), 2);
        Check.same("49 least", table.setValue(0, 0, -9999), 5);
        Check.same("49 greatest", table.setValue(0, 0, 9999), -9999);
        Check.same("49 stale stays", Check.dictionary(table, 0), "-9999 1 5 9 9999");
        table.setValue(0, 0, -9999);
        Check.same("49 stale used again", Check.dictionary(table, 0), "-9999 1 5 9 9999");
    }

    private static void promise49Order() {
        PackedTable table = new PackedTable();
        for (int column : NO_COLUMNS) {
            Check.outside("49 column " + column, () -> table.setValue(column, 0, 0));
        }
        for (int row : NO_ROWS) {
            Check.outside("49 row " + row, () -> table.setValue(0, row, 0));
        }
        Check.illegal("49 too great", () -> table.setValue(0, 0, 10000));
        Check.illegal("49 too small", () -> table.setValue(0, 0, -10000));
        Check.illegal("49 greatest number", () -> table.setValue(0, 0, Integer.MAX_VALUE));
        Check.illegal("49 least number", () -> table.setValue(0, 0, Integer.MIN_VALUE));
        Check.outside("49 column first", () -> table.setValue(3, 0, 10000));
        Check.outside("49 row first", () -> table.setValue(0, 6, 10000));
        Check.same("49 no change", table.undoableCount(), 0);
        Check.same("49 nothing inserted", table.dictionarySize(0), 3);
    }

    private static void promise50() {
        PackedTable table = new PackedTable();
        Check.same("50 ascending runs", table.sort(0, true), 3);
        Check.same("50 ascending", Check.text(table), "table 3;1 -2 7;1 4 3;5 -2 7;5 0 3;5 0 7;9 -2 7;");
        Check.same("50 descending runs", table.sort(1, false), 3);
        Check.same("50 descending", Check.text(table), "table 3;1 4 3;5 0 3;5 0 7;1 -2 7;5 -2 7;9 -2 7;");
        Check.same("50 changes", table.undoableCount(), 2);
        Check.same("50 sorted already", table.sort(1, false), 3);
        Check.same("50 is a change", table.undoableCount(), 3);
        for (int column : NO_COLUMNS) {
            Check.outside("50 column " + column, () -> table.sort(column, true));
        }
        Check.same("50 no change", table.undoableCount(), 3);
        table.setValue(0, 0, 2);
        Check.same("50 runs without stale values", table.sort(2, true), 2);
        table.deleteSelected();
        Check.same("50 no rows", table.sort(0, true), 0);
    }

    private static void promise50Stable() {
        StringBuilder text = new StringBuilder("table 2;");
        for (int row = 0; row < 60; row++) {
            text.append(row * 7 % 4).append(' ').append(row).append(';');
        }
        for (int direction = 0; direction < 2; direction++) {
            PackedTable table = Check.loaded(text.toString());
            Check.same("50 four runs", table.sort(0, direction == 0), 4);
            for (int row = 1; row < 60; row++) {
                int step = Integer.compare(table.value(0, row), table.value(0, row - 1));
                boolean isKept = step == 0 && table.value(1, row) > table.value(1, row - 1);
                Check.same("50 row " + row, isKept || step == (direction == 0 ? 1 : -1), true);
                Check.same("50 whole row " + row, table.value(1, row) * 7 % 4, table.value(0, row));
            }
        }
    }

    private static void promises51To53() {
        PackedTable table = new PackedTable();
        Check.same("51 count", table.addLess(0, 9), 5);
        Check.same("53 count", table.addGreater(1, -2), 3);
        Check.same("52 count", table.addEqual(2, 3), 2);
        Check.same("51 to 53 order", Check.filter(table), "0<9 1>-2 2=3");
        Check.same("51 to 53 changes", table.undoableCount(), 3);
        Check.same("51 least", table.addLess(0, -9999), 0);
        Check.same("52 greatest", table.addEqual(0, 9999), 0);
        Check.same("53 greatest", table.addGreater(0, 9999), 0);
        Check.same("51 dictionary stays", Check.dictionary(table, 0), "1 5 9");
        Check.same("52 twice the same", new PackedTable().addEqual(0, 5), 3);
    }

    private static void promises51To53Refused() {
        PackedTable table = new PackedTable();
        for (int column : NO_COLUMNS) {
            Check.outside("51 column " + column, () -> table.addLess(column, 10000));
            Check.outside("52 column " + column, () -> table.addEqual(column, 10000));
            Check.outside("53 column " + column, () -> table.addGreater(column, 10000));
        }
        for (int value : new int[] {10000, -10000, Integer.MIN_VALUE, Integer.MAX_VALUE}) {
            Check.illegal("51 value " + value, () -> table.addLess(0, value));
            Check.illegal("52 value " + value, () -> table.addEqual(0, value));
            Check.illegal("53 value " + value, () -> table.addGreater(0, value));
        }
        Check.same("51 to 53 no change", table.undoableCount(), 0);
        for (int count = 0; count < 8; count++) {
            table.addLess(0, 5);
        }
        Check.notNow("51 eight conditions", () -> table.addLess(0, 5));
        Check.notNow("52 eight conditions", () -> table.addEqual(0, 5));
        Check.notNow("53 eight conditions", () -> table.addGreater(0, 5));
        Check.illegal("51 value first", () -> table.addLess(0, 10000));
        Check.illegal("52 value first", () -> table.addEqual(0, 10000));
        Check.illegal("53 value first", () -> table.addGreater(0, 10000));
        Check.outside("51 column first", () -> table.addLess(3, 5));
        Check.same("51 to 53 eight", table.conditionCount(), 8);
    }

    private static void promise54() {
        PackedTable table = new PackedTable();
        table.addLess(0, 9);
        table.addGreater(1, -2);
        table.addEqual(2, 3);
        Check.same("54 middle", table.removeCondition(1), 2);
        Check.same("54 left", Check.filter(table), "0<9 2=3");
        Check.same("54 last", table.removeCondition(1), 5);
        Check.outside("54 no longer", () -> table.removeCondition(1));
        Check.outside("54 negative", () -> table.removeCondition(-1));
        Check.outside("54 greatest", () -> table.removeCondition(Integer.MAX_VALUE));
        Check.same("54 changes", table.undoableCount(), 5);
        Check.same("54 first", table.removeCondition(0), 6);
        Check.outside("54 none", () -> table.removeCondition(0));
        for (int count = 0; count < 8; count++) {
            table.addLess(0, count);
        }
        table.removeCondition(0);
        Check.same("54 of eight", Check.filter(table), "0<1 0<2 0<3 0<4 0<5 0<6 0<7");
        table.removeCondition(6);
        Check.same("54 of seven", Check.filter(table), "0<1 0<2 0<3 0<4 0<5 0<6");
    }

    private static void promise55() {
        PackedTable table = new PackedTable();
        table.addGreater(0, 1);
        table.addEqual(2, 7);
        Check.same("55 removed", table.deleteSelected(), 3);
        Check.same("55 left", Check.text(table), "table 3;1 -2 7;5 0 3;1 4 3;");
        Check.same("55 filter stays", Check.filter(table), "0>1 2=7");
        Check.same("55 stale", Check.dictionary(table, 0), "1 5 9");
        Check.same("55 none", table.deleteSelected(), 0);
        Check.same("55 is a change", table.undoableCount(), 4);
        table.removeCondition(0);
        table.removeCondition(0);
        Check.same("55 empty filter", table.deleteSelected(), 3);
        Check.same("55 no rows", table.rowCount(), 0);
        Check.same("55 without rows", table.deleteSelected(), 0);
        Check.same("55 sixty", Prepared.sixtyRows().deleteSelected(), 60);
    }

    private static void promise56() {
        PackedTable table = new PackedTable();
        Check.same("56 nothing", table.compact(0), 0);
        Check.same("56 is a change", table.undoableCount(), 1);
        table.setValue(0, 3, 2);
        table.setValue(0, 3, 3);
        table.setValue(1, 3, 1);
        table.setValue(1, 3, 2);
        Check.same("56 removed", table.compact(0), 2);
        Check.same("56 left", Check.dictionary(table, 0), "1 3 5");
        Check.same("56 other column", Check.dictionary(table, 1), "-2 0 1 2 4");
        Check.same("56 table", Check.text(table), "table 3;5 -2 7;1 -2 7;5 0 3;3 2 7;1 4 3;5 0 7;");
        Check.same("56 code", table.code(0, 3), 1);
        for (int column : NO_COLUMNS) {
            Check.outside("56 column " + column, () -> table.compact(column));
        }
        Check.same("56 no change", table.undoableCount(), 6);
        table.deleteSelected();
        Check.same("56 all", table.compact(0), 3);
        Check.same("56 empty", table.dictionarySize(0), 0);
    }

    private static void promise57() {
        PackedTable table = new PackedTable();
        int executed = Check.script(table, "row 2 2 2; set 0 0 -8;sort 0 down;less 0 9;equal 2 7;greater 1 -9;"
                + "drop 1;delete;compact 2;");
        Check.same("57 executed", executed, 9);
        Check.same("57 one change", table.undoableCount(), 1);
        Check.same("57 state", Check.state(table), "table 3;9 -2 7;|-8 1 2 5 9|-2 0 2 4|7|0<9 1>-9");
        Check.same("57 no error", table.errorCode(), 0);
        table.undo();
        Check.same("57 undone at once", Check.text(table), Check.text(new PackedTable()));
        Check.same("57 empty script", Check.script(table, ""), 0);
        Check.same("57 an empty script is a change", table.undoableCount(), 1);
        Check.same("57 blanks", Check.script(table, " \n "), 0);
        Check.same("57 buffer emptied", table.appendText(0, 0, 0, 0, 0), 20);
    }

    private static void promise57Commands() {
        command("row 1 -2 3;", 1, "table 3;5 -2 7;1 -2 7;5 0 3;9 -2 7;1 4 3;5 0 7;1 -2 3;|1 5 9|-2 0 4|3 7|");
        command("set2 5-1;", 1, "table 3;5 -2 7;1 -2 7;5 0 3;9 -2 7;1 4 3;5 0 -1;|1 5 9|-2 0 4|-1 3 7|");
        command("sort 0;", 1, "table 3;1 -2 7;1 4 3;5 -2 7;5 0 3;5 0 7;9 -2 7;|1 5 9|-2 0 4|3 7|");
        command("sort 0down;", 1, "table 3;9 -2 7;5 -2 7;5 0 3;5 0 7;1 -2 7;1 4 3;|1 5 9|-2 0 4|3 7|");
        command("sort 0 down;sort 1;", 2, "table 3;9 -2 7;5 -2 7;1 -2 7;5 0 3;5 0 7;1 4 3;|1 5 9|-2 0 4|3 7|");
        command("sort 0;sort 1 down;sort 2;", 3, "table 3;1 4 3;5 0 3;5 0 7;1 -2 7;5 -2 7;9 -2 7;|1 5 9|-2 0 4|3 7|");
        String table = "table 3;5 -2 7;1 -2 7;5 0 3;9 -2 7;1 4 3;5 0 7;|1 5 9|-2 0 4|3 7|";
        command("less 2 -9999;", 1, table + "2<-9999");
        command("equal 1 9999;", 1, table + "1=9999");
        command("greater 0 5;", 1, table + "0>5");
        command("less 0 1;equal 0 2;greater 0 3;drop 0;", 4, table + "0=2 0>3");
        command("less 0 9;drop 0;", 2, table);
        command("delete;", 1, "table 3;|1 5 9|-2 0 4|3 7|");
        command("delete;compact 1;", 2, "table 3;|1 5 9||3 7|");
        command("equal 2 3;delete;", 2, "table 3;5 -2 7;1 -2 7;9 -2 7;5 0 7;|1 5 9|-2 0 4|3 7|2=3");
        command("row 2 2 2;row 3 3 3;", 2,
                "table 3;5 -2 7;1 -2 7;5 0 3;9 -2 7;1 4 3;5 0 7;2 2 2;3 3 3;|1 2 3 5 9|-2 0 2 3 4|2 3 7|");
    }

    private static void command(String script, int executed, String due) {
        PackedTable table = new PackedTable();
        Check.same("57 \"" + script + "\"", Check.script(table, script), executed);
        Check.same("57 after \"" + script + "\"", Check.state(table), due);
    }

    private static void promise57Stops() {
        PackedTable table = new PackedTable();
        Check.same("57 no such row", Check.script(table, "less 0 9;set 0 6 1;delete;"), 1);
        Check.same("57 stops", table.rowCount(), 6);
        Check.same("57 no error when stopped", table.errorCode(), 0);
        Check.same("57 last row", Check.script(table, "set 0 5 1;delete;"), 2);
        Check.same("57 no such condition", Check.script(table, "drop 0;drop 0;less 0 1;"), 1);
        Check.same("57 none left", table.conditionCount(), 0);
        Check.same("57 first stops", Check.script(table, "drop 0;less 0 1;"), 0);
        Check.same("57 changes", table.undoableCount(), 4);
        Check.same("57 eight conditions", Check.script(table, Check.repeat("less 0 1;", 8) + "compact 0;less 0 1;"), 9);
        Check.same("57 ninth less", Check.script(table, "less 0 1;compact 0;"), 0);
        Check.same("57 ninth equal", Check.script(table, "equal 0 1;compact 0;"), 0);
        Check.same("57 ninth greater", Check.script(table, "greater 0 1;compact 0;"), 0);
        PackedTable nearly = Check.loaded("table 1;" + Check.repeat("1;", 59));
        Check.same("57 sixty rows", Check.script(nearly, "row 2;row 3;delete;"), 1);
        Check.same("57 sixtieth row", nearly.value(0, 59), 2);
        Check.same("57 no sixty-first", nearly.dictionarySize(0), 2);
        Check.same("57 again", Check.script(nearly, "delete;row 3;row 3;"), 3);
    }

    private static void promise57Refused() {
        PackedTable table = new PackedTable();
        int length = Check.feed(table, "delete;");
        Check.illegal("57 negative", () -> table.runScript(-1));
        Check.illegal("57 least", () -> table.runScript(Integer.MIN_VALUE));
        Check.illegal("57 too long", () -> table.runScript(21));
        Check.illegal("57 greatest", () -> table.runScript(Integer.MAX_VALUE));
        Check.same("57 not a change", table.undoableCount(), 0);
        Check.same("57 not emptied", table.runScript(length), 1);
        Check.illegal("57 emptied", () -> table.runScript(1));
        Check.same("57 parsed before executed", Check.script(table, "row 1 1 1;row 2 2 2;x;"), -1);
        Check.same("57 nothing executed", table.rowCount(), 0);
        Check.same("57 an error is no change", table.undoableCount(), 1);
        PackedTable six = Check.loaded("table 6;1 2 3 4 5 6;");
        Check.same("57 last column", Check.script(six, "set 5 0 9;compact 5;"), 2);
        Check.same("57 of six", Check.text(six), "table 6;1 2 3 4 5 9;");
        PackedTable one = Check.loaded("table 1;1;");
        Check.same("57 only column", Check.script(one, "compact 1;"), -1);
        Check.same("57 only column's error", one.errorCode(), 2);
    }
}
