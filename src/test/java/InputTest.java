/** Promises 1 to 5: a new object, the input buffer, tables as text and parse errors. */
final class InputTest {
    public static void main(String[] args) {
        promise1();
        promise2();
        promise2Bytes();
        promise3();
        promise3Replaces();
        promise3Lengths();
        promise3Tokens();
        promises4And5OfTables();
        promises4And5AtTheLastRow();
        promises4And5OfRows();
        promises4And5OfScripts();
        promises4And5Kept();
        Check.finish();
    }

    private static void promise1() {
        PackedTable table = new PackedTable();
        Check.same("1 table", Check.text(table), "table 3;5 -2 7;1 -2 7;5 0 3;9 -2 7;1 4 3;5 0 7;");
        Check.same("1 dictionary 0", Check.dictionary(table, 0), "1 5 9");
        Check.same("1 dictionary 1", Check.dictionary(table, 1), "-2 0 4");
        Check.same("1 dictionary 2", Check.dictionary(table, 2), "3 7");
        Check.same("1 filter", table.conditionCount(), 0);
        Check.same("1 undoable", table.undoableCount(), 0);
        Check.same("1 error", table.errorCode(), 0);
        Check.same("1 offset", table.errorOffset(), -1);
        Check.outside("1 output", () -> table.outputByte(0));
        Check.illegal("1 buffer", () -> table.loadTable(1));
        Check.notNow("1 undo", () -> table.undo());
        Check.notNow("1 snapshot", () -> table.restoreSnapshot());
    }

    private static void promise2() {
        PackedTable table = new PackedTable();
        for (int count = 1; count <= 35; count++) {
            Check.same("2 call " + count, table.appendText(0, 0, 0, 0, 0), 20L * count);
        }
        Check.same("2 full", table.appendText(0, 0, 0, 0, 0), -1);
        Check.same("2 still full", table.appendText(0, 0, 0, 0, 0), -1);
        Check.illegal("2 nothing appended", () -> table.loadTable(701));
        Check.same("2 700 bytes", table.loadTable(700), -1);
        Check.same("2 after emptying", table.appendText(0, 0, 0, 0, 0), 20);
    }

    private static void promise2Bytes() {
        String order = "table 1;1234 ;-0567;";
        PackedTable table = new PackedTable();
        Check.same("2 most significant first", Check.load(table, order), 2);
        Check.same("2 the bytes", Check.text(table), "table 1;1234;-567;");
        for (int place = 0; place < 20; place++) {
            char[] text = "                    ".toCharArray();
            text[place] = (char) 200;
            Check.load(table, new String(text));
            Check.same("2 byte " + place, table.errorOffset(), place);
        }
        table.appendText(0x7461626c, 0x6520313b, 0x313b8080, 0xff00a020, -1);
        Check.same("2 signed bytes", table.loadTable(20), -1);
        Check.same("2 offset of byte 128", table.errorOffset(), 10);
    }

    private static void promise3() {
        PackedTable table = new PackedTable();
        Check.same("3 rows", Check.load(table, "table 2;1 2;3 4;-9999 9999;"), 3);
        Check.same("3 table", Check.text(table), "table 2;1 2;3 4;-9999 9999;");
        Check.same("3 one column, no rows", Check.load(table, "table 1;"), 0);
        Check.same("3 one column", table.columnCount(), 1);
        Check.same("3 six columns", Check.load(table, "table 6;1 2 3 4 5 6;"), 1);
        Check.same("3 six columns' text", Check.text(table), "table 6;1 2 3 4 5 6;");
        Check.same("3 sixty rows", Check.load(table, "table 1;" + Check.repeat("7;", 60)), 60);
        Check.same("3 many digits", Check.load(table, "table 0000000000000000000001;-00000000000000000042;"), 1);
        Check.same("3 value of many digits", table.value(0, 0), -42);
        Check.same("3 minus zero", Check.load(table, "table 1;-0;"), 1);
        Check.same("3 value of minus zero", table.value(0, 0), 0);
    }

    private static void promise3Replaces() {
        PackedTable table = new PackedTable();
        table.setValue(0, 0, 77);
        table.addLess(0, 50);
        table.saveSnapshot();
        Check.same("3 refused", Check.load(table, "table 9;"), -1);
        Check.same("3 refused keeps history", table.undoableCount(), 2);
        Check.same("3 refused keeps filter", Check.filter(table), "0<50");
        Check.same("3 refused keeps table", table.value(0, 0), 77);
        Check.same("3 refused keeps snapshot", table.restoreSnapshot(), 6);
        table.setValue(0, 0, 78);
        Check.same("3 loaded", Check.load(table, "table 3;2 2 2;1 1 1;"), 2);
        Check.same("3 new state", Check.state(table), "table 3;2 2 2;1 1 1;|1 2|1 2|1 2|");
        Check.same("3 history cleared", table.undoableCount(), 0);
        Check.notNow("3 nothing to undo", () -> table.undo());
        Check.notNow("3 snapshot discarded", () -> table.restoreSnapshot());
        Check.same("3 buffer emptied", table.appendText(0, 0, 0, 0, 0), 20);
    }

    private static void promise3Lengths() {
        PackedTable table = new PackedTable();
        Check.same("3 empty text", table.loadTable(0), -1);
        Check.same("3 empty text's offset", table.errorOffset(), 0);
        int length = Check.feed(table, "table 1;5;");
        Check.illegal("3 negative", () -> table.loadTable(-1));
        Check.illegal("3 smallest", () -> table.loadTable(Integer.MIN_VALUE));
        Check.illegal("3 too long", () -> table.loadTable(21));
        Check.illegal("3 greatest", () -> table.loadTable(Integer.MAX_VALUE));
        Check.same("3 buffer not emptied", table.loadTable(length), 1);
        Check.illegal("3 buffer emptied", () -> table.loadTable(1));
        Check.feed(table, "table 1;5;6;       ;");
        Check.same("3 first bytes alone", table.loadTable(10), 1);
        Check.feed(table, "table 1;12345;");
        Check.same("3 number cut", table.loadTable(11), -1);
        Check.same("3 end behind the cut", table.errorOffset(), 11);
    }

    private static void promise3Tokens() {
        PackedTable table = new PackedTable();
        Check.same("3 tight", Check.load(table, "table3;1-2-3;"), 1);
        Check.same("3 tight values", Check.text(table), "table 3;1 -2 -3;");
        Check.same("3 wide", Check.load(table, "\n table\n3 ; - 1 \n2 -\n3;\n"), 1);
        Check.same("3 wide values", Check.text(table), "table 3;-1 2 -3;");
    }

    private static void promises4And5OfTables() {
        bad("", 1, 0);
        bad("   ", 1, 3);
        bad(";", 1, 0);
        bad("Table 1;", 1, 0);
        bad(" tables 1;", 1, 1);
        bad("tabl 1;", 1, 0);
        bad("fable 1;", 1, 0);
        bad("tablez 1;", 1, 0);
        bad("zzz", 1, 0);
        bad("table", 1, 5);
        bad("table ;", 1, 6);
        bad("table x;", 1, 6);
        bad("table -1;", 1, 6);
        bad("table 0;", 2, 6);
        bad("table 7;", 2, 6);
        bad("table 99999999999999999999;", 2, 6);
        bad("table 4294967297;", 2, 6);
        bad("table 1", 1, 7);
        bad("table 1 1;", 1, 8);
        bad("table 1;;", 1, 8);
        bad("table 1;x;", 1, 8);
        bad("table 1;5", 1, 9);
        bad("table 1;5 ", 1, 10);
        bad("table 1;5 6;", 1, 10);
        bad("table 1;5 -6;", 1, 10);
        bad("table 1;5 10000;", 1, 10);
        bad("table 1;5x;", 1, 9);
        bad("table 1;--5;", 1, 9);
        bad("table 1;-;", 1, 9);
        bad("table 1;-", 1, 9);
        bad("table 1;10000;", 2, 8);
        bad("table 1;-10000;", 2, 9);
        bad("table 1;4294967296;", 2, 8);
        bad("table 2;5;", 1, 9);
        bad("table 2;1 2;3;", 1, 13);
        bad("table 1;5;\t", 1, 10);
        bad("table 1;5;\r6;", 1, 10);
        bad("table 1;5," + (char) 200, 1, 9);
        bad("table 1;5;" + (char) 255, 1, 10);
        bad("table 1;5;" + (char) 0, 1, 10);
        bad("table 1;+5;", 1, 8);
        bad("table 1;5;table 1;", 1, 10);
        bad("ta" + (char) 0xe1 + "ble 1;", 1, 0);
        bad("table 1;`;", 1, 8);
        bad("table{1;", 1, 5);
        bad("table 1;5:", 1, 9);
        bad("table 1;5/", 1, 9);
    }

    private static void promises4And5AtTheLastRow() {
        String full = "table 1;" + Check.repeat("1;", 60);
        bad(full + "1;", 3, 128);
        bad(full + " 9999;", 3, 129);
        bad(full + "-1;", 3, 128);
        bad(full + "-", 3, 128);
        bad(full + "10000;", 2, 128);
        bad(full + ";", 1, 128);
        bad(full + "x", 1, 128);
        bad(full + "!", 1, 128);
        PackedTable table = new PackedTable();
        Check.same("5 sixty rows and blanks", Check.load(table, full + "  \n"), 60);
        Check.same("5 sixty rows' error", table.errorCode(), 0);
    }

    private static void promises4And5OfRows() {
        badRow("", 1, 0);
        badRow("1 2", 1, 3);
        badRow("1 2 3;", 1, 5);
        badRow("1 2 3 4", 1, 6);
        badRow("1 2 3 -4", 1, 6);
        badRow("1 2 3 10000", 1, 6);
        badRow("1 2 3x", 1, 5);
        badRow("1 2 10000", 2, 4);
        badRow("1 -10000 2", 2, 3);
        badRow("row 1 2 3", 1, 0);
        badRow("1 ; 2 3", 1, 2);
        badRow("1 2 3 " + (char) 128, 1, 6);
    }

    private static void promises4And5OfScripts() {
        badScript("x;", 1, 0);
        badScript(";", 1, 0);
        badScript("1;", 1, 0);
        badScript("delete", 1, 6);
        badScript("delete 1;", 1, 7);
        badScript("deleted;", 1, 0);
        badScript("relete;", 1, 0);
        badScript("sort 0 town;", 1, 7);
        badScript("delete;;", 1, 7);
        badScript("row 1 2;", 1, 7);
        badScript("row 1 2 3 4;", 1, 10);
        badScript("row 1 2 10000;", 2, 8);
        badScript("set 3 0 1;", 2, 4);
        badScript("set -1 0 1;", 1, 4);
        badScript("set 0 60 1;", 2, 6);
        badScript("set 0 0;", 1, 7);
        badScript("set 0 0 -10000;", 2, 9);
        badScript("set 0 0 1 2;", 1, 10);
        badScript("sort;", 1, 4);
        badScript("sort 3;", 2, 5);
        badScript("sort 0 up;", 1, 7);
        badScript("sort down;", 1, 5);
        badScript("sort 0 down down;", 1, 12);
        badScript("less 0;", 1, 6);
        badScript("less 3 0;", 2, 5);
        badScript("equal 0 10000;", 2, 8);
        badScript("greater 0 -;", 1, 11);
        badScript("drop 8;", 2, 5);
        badScript("drop -1;", 1, 5);
        badScript("drop;", 1, 4);
        badScript("compact;", 1, 7);
        badScript("compact 3;", 2, 8);
        badScript("compact 99999999999999999999999;", 2, 8);
        badScript("table 1;", 1, 0);
        badScript("down;", 1, 0);
        String full = Check.repeat("drop 7;", 20);
        badScript(full + "drop 7;", 3, 140);
        badScript(full + " delete", 3, 141);
        badScript(full + "row;", 3, 140);
        badScript(full + "rows;", 1, 140);
        badScript(full + "down;", 1, 140);
        badScript(full + "7;", 1, 140);
        badScript(full + ";", 1, 140);
        badScript(full + "?", 1, 140);
        PackedTable table = new PackedTable();
        Check.same("5 twenty commands", Check.script(table, Check.repeat("compact 0 ;\n", 20)), 20);
        Check.same("5 set 59 and drop 7", Check.script(table, "set 2 59 -9999;drop 7;"), 0);
        Check.same("5 no error", table.errorOffset(), -1);
    }

    private static void promises4And5Kept() {
        PackedTable table = new PackedTable();
        Check.load(table, "table 9;");
        Check.illegal("4 throws", () -> table.loadTable(-1));
        Check.illegal("4 throws", () -> table.addRow(-1));
        Check.illegal("4 throws", () -> table.runScript(-1));
        Check.outside("4 throws", () -> table.removeRow(-1));
        table.setValue(0, 0, 0);
        Check.same("4 kept", table.errorCode(), 2);
        Check.same("5 kept", table.errorOffset(), 6);
        table.undo();
        Check.same("4 kept by undo", table.errorCode(), 2);
        Check.same("4 script", Check.script(table, ""), 0);
        Check.same("4 cleared", table.errorCode(), 0);
        Check.same("5 cleared", table.errorOffset(), -1);
        Check.row(table, " 1");
        Check.same("4 row", table.errorCode(), 1);
        Check.same("5 row", table.errorOffset(), 2);
        Check.row(table, "1 2 3");
        Check.same("4 cleared by row", table.errorCode(), 0);
        Check.same("5 cleared by row", table.errorOffset(), -1);
        Check.load(table, "?");
        Check.load(table, "table 1;" + Check.repeat("1;", 60));
        Check.same("4 cleared by load", table.errorCode(), 0);
        Check.load(table, "?");
        Check.feed(table, "1");
        Check.notNow("4 full", () -> table.addRow(1));
        Check.same("4 kept when full", table.errorCode(), 1);
    }

    private static void bad(String text, int code, int offset) {
        PackedTable table = new PackedTable();
        String before = Check.state(table);
        table.saveSnapshot();
        Check.same("3 \"" + text + "\"", Check.load(table, text), -1);
        isBad(table, text, code, offset, before);
    }

    private static void badRow(String text, int code, int offset) {
        PackedTable table = new PackedTable();
        String before = Check.state(table);
        Check.same("47 \"" + text + "\"", Check.row(table, text), -1);
        isBad(table, text, code, offset, before);
    }

    private static void badScript(String text, int code, int offset) {
        PackedTable table = new PackedTable();
        String before = Check.state(table);
        Check.same("57 \"" + text + "\"", Check.script(table, text), -1);
        isBad(table, text, code, offset, before);
    }

    private static void isBad(PackedTable table, String text, int code, int offset, String before) {
        Check.same("4 \"" + text + "\"", table.errorCode(), code);
        Check.same("5 \"" + text + "\"", table.errorOffset(), offset);
        Check.same("nothing changed by \"" + text + "\"", Check.state(table), before);
        Check.same("no change by \"" + text + "\"", table.undoableCount(), 0);
        Check.same("emptied by \"" + text + "\"", table.appendText(0, 0, 0, 0, 0), 20);
    }
}
