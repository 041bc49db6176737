/** Checks how texts are parsed: code 0 and offset -1 stand for a text without an error. */
final class Parsed {
    private Parsed() {
    }

    static void table(String text, int code, int offset) {
        PackedTable table = new PackedTable();
        note(table, text, Check.load(table, text), code, offset);
    }

    static void row(String text, int code, int offset) {
        PackedTable table = new PackedTable();
        note(table, text, Check.row(table, text), code, offset);
    }

    static void script(String text, int code, int offset) {
        PackedTable table = new PackedTable();
        note(table, text, Check.script(table, text), code, offset);
    }

    /** A text without an error, and the table as the grammar writes it. */
    static void goodTable(String text, String due) {
        PackedTable table = new PackedTable();
        note(table, text, Check.load(table, text), 0, -1);
        Check.same("table of \"" + text + "\"", Check.text(table), due);
    }

    private static void note(PackedTable table, String text, int answer, int code, int offset) {
        Check.same("code of \"" + text + "\"", table.errorCode(), code);
        Check.same("offset of \"" + text + "\"", table.errorOffset(), offset);
        Check.same("\"" + text + "\" is refused with -1", answer == -1, code != 0);
        Check.same("buffer after \"" + text + "\"", table.appendText(0, 0, 0, 0, 0), 20);
        if (code != 0) {
            Check.same("state after \"" + text + "\"", Check.state(table), Check.state(new PackedTable()));
            Check.same("changes after \"" + text + "\"", table.undoableCount(), 0);
        }
    }
}
