/** Promises 58 to 63: output, undoing and the snapshot. */
final class HistoryTest {
    public static void main(String[] args) {
        promise58();
        promise59();
        promise60();
        promise61();
        promise61Keeps();
        promise61EveryChange();
        promise62();
        promise63();
        Check.finish();
    }

    private static void promise58() {
        PackedTable table = new PackedTable();
        written(table, 0, "5 -2 7*");
        table.addLess(0, 5);
        written(table, 0, "5 -2 7");
        written(table, 1, "1 -2 7*");
        written(table, 5, "5 0 7");
        Check.outside("58 row -1", () -> table.writeRow(-1));
        Check.outside("58 row 6", () -> table.writeRow(6));
        Check.outside("58 greatest row", () -> table.writeRow(Integer.MAX_VALUE));
        Check.same("58 output kept", Check.output(table, 5), "5 0 7");
        written(Check.loaded("table 1;0;"), 0, "0*");
        written(Check.loaded("table 6;-9999 -9999 -9999 -9999 -9999 -9999;"), 0,
                "-9999 -9999 -9999 -9999 -9999 -9999*");
        written(Check.loaded("table 6;9 10 99 100 999 1000;"), 0, "9 10 99 100 999 1000*");
        written(Check.loaded("table 6;-1 -10 -11 -100 -109 -9010;"), 0, "-1 -10 -11 -100 -109 -9010*");
    }

    private static void written(PackedTable table, int row, String due) {
        Check.same("58 length of " + due, table.writeRow(row), due.length());
        Check.same("58 " + due, Check.output(table, due.length()), due);
        Check.outside("59 behind " + due, () -> table.outputByte(due.length()));
    }

    private static void promise59() {
        PackedTable table = new PackedTable();
        Check.outside("59 empty", () -> table.outputByte(0));
        table.writeRow(0);
        Check.same("59 first", table.outputByte(0), '5');
        Check.same("59 space", table.outputByte(1), 32);
        Check.same("59 minus", table.outputByte(2), 45);
        Check.same("59 asterisk", table.outputByte(6), 42);
        Check.outside("59 behind", () -> table.outputByte(7));
        Check.outside("59 negative", () -> table.outputByte(-1));
        Check.outside("59 least", () -> table.outputByte(Integer.MIN_VALUE));
        Check.outside("59 greatest", () -> table.outputByte(Integer.MAX_VALUE));
        table.setValue(0, 0, 8);
        table.addLess(0, 0);
        table.undo();
        table.saveSnapshot();
        table.restoreSnapshot();
        Check.load(table, "table 1;");
        Check.outside("58 no rows", () -> table.writeRow(0));
        Check.same("59 changes in writeRow only", Check.output(table, 7), "5 -2 7*");
    }

    private static void promise60() {
        PackedTable table = new PackedTable();
        for (int count = 0; count < 12; count++) {
            Check.same("60 after " + count, table.undoableCount(), Math.min(count, 8));
            table.compact(0);
        }
        for (int left = 7; left >= 0; left--) {
            table.undo();
            Check.same("60 left", table.undoableCount(), left);
        }
        Check.notNow("60 nothing", () -> table.undo());
        Check.same("60 still none", table.undoableCount(), 0);
    }

    private static void promise61() {
        PackedTable table = new PackedTable();
        String[] states = new String[12];
        for (int count = 0; count < 12; count++) {
            states[count] = Check.state(table);
            table.setValue(count % 3, count % 6, 100 + count);
        }
        for (int left = 7; left >= 0; left--) {
            Check.same("61 left", table.undo(), left);
            Check.same("61 state " + (left + 4), Check.state(table), states[left + 4]);
        }
        Check.notNow("61 older", () -> table.undo());
        Check.same("61 kept when refused", Check.state(table), states[4]);
        table.setValue(0, 0, 1);
        Check.same("61 change after undoing", table.undo(), 0);
        Check.same("61 undone again", Check.state(table), states[4]);
        for (int count = 0; count < 20; count++) {
            table.setValue(1, 1, count);
            table.setValue(1, 1, -count);
            table.undo();
            Check.same("61 to and fro", table.value(1, 1), count);
        }
    }

    private static void promise61Keeps() {
        PackedTable table = new PackedTable();
        table.setValue(0, 0, 8);
        table.saveSnapshot();
        table.setValue(0, 0, 7);
        Check.load(table, "table x");
        table.writeRow(0);
        Check.feed(table, "1 1 1");
        table.undo();
        table.undo();
        Check.same("61 code kept", table.errorCode(), 1);
        Check.same("61 offset kept", table.errorOffset(), 6);
        Check.same("61 output kept", Check.output(table, 7), "7 -2 7*");
        Check.same("61 buffer kept", table.addRow(5), 6);
        Check.same("61 snapshot kept", table.restoreSnapshot(), 6);
        Check.same("61 snapshot", table.value(0, 0), 8);
    }

    private static void promise61EveryChange() {
        PackedTable table = new PackedTable();
        table.setValue(0, 3, 2);
        table.addLess(0, 5);
        table.addGreater(1, -2);
        table.saveSnapshot();
        String before = Check.state(table);
        for (int change = 0; change < 11; change++) {
            change(table, change);
            Check.same("61 change " + change + " is one", table.undoableCount(), change == 0 ? 4 : 1);
            Check.same("61 change " + change + " changes", Check.state(table).equals(before), false);
            table.undo();
            Check.same("61 change " + change + " undone", Check.state(table), before);
            Check.same("61 change " + change + " consistent", table.gap(), 0);
            table.restoreSnapshot();
        }
    }

    private static void change(PackedTable table, int change) {
        switch (change) {
            case 0 -> Check.row(table, "8 8 8");
            case 1 -> table.removeRow(2);
            case 2 -> table.setValue(2, 2, 99);
            case 3 -> table.sort(1, false);
            case 4 -> table.addLess(0, 0);
            case 5 -> table.addEqual(0, 0);
            case 6 -> table.addGreater(0, 0);
            case 7 -> table.removeCondition(0);
            case 8 -> table.deleteSelected();
            case 9 -> table.compact(0);
            default -> Check.script(table, "delete;drop 0;set 0 0 3333;");
        }
    }

    private static void promise62() {
        PackedTable table = new PackedTable();
        table.saveSnapshot();
        Check.same("62 not a change", table.undoableCount(), 0);
        table.setValue(0, 0, 8);
        table.addLess(0, 3);
        table.compact(0);
        String saved = Check.state(table);
        table.saveSnapshot();
        Check.same("62 keeps the history", table.undoableCount(), 3);
        table.deleteSelected();
        table.restoreSnapshot();
        Check.same("62 replaced", Check.state(table), saved);
    }

    private static void promise63() {
        PackedTable table = new PackedTable();
        Check.notNow("63 none", () -> table.restoreSnapshot());
        table.setValue(0, 3, 2);
        table.addEqual(1, 0);
        String saved = Check.state(table);
        table.saveSnapshot();
        table.deleteSelected();
        Check.notNow("63 none elsewhere", () -> new PackedTable().restoreSnapshot());
        Check.same("63 rows", table.restoreSnapshot(), 6);
        Check.same("63 state", Check.state(table), saved);
        Check.same("63 history cleared", table.undoableCount(), 0);
        Check.notNow("63 nothing to undo", () -> table.undo());
        table.setValue(0, 0, 77);
        table.removeCondition(0);
        Check.same("63 kept", table.restoreSnapshot(), 6);
        Check.same("63 state again", Check.state(table), saved);
        Check.load(table, "table 9");
        Check.same("63 kept by a parse error", table.restoreSnapshot(), 6);
        Check.load(table, "table 1;4;");
        Check.notNow("63 discarded", () -> table.restoreSnapshot());
        table.saveSnapshot();
        table.removeRow(0);
        Check.same("63 saved anew", table.restoreSnapshot(), 1);
    }
}
