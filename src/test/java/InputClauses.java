/** The boundary cases of promises 1 to 5, clause by clause. */
final class InputClauses {
    private static final int BLANKS = 0x20202020;

    private InputClauses() {
    }

    static void test() {
        promise1();
        promise2();
        promise3();
        promise3Replaces();
        promise4();
        promise5();
    }

    private static void promise1() {
        Clauses.promise(1, "Creates a store with the table", () -> {
            PackedTable table = new PackedTable();
            Check.same("state", Check.state(table), "table 3;5 -2 7;1 -2 7;5 0 3;9 -2 7;1 4 3;5 0 7;|1 5 9|-2 0 4|3 7|");
            Check.same("empty filter", table.conditionCount(), 0);
            Check.same("nothing stale", table.staleCount(0) + table.staleCount(1) + table.staleCount(2), 0);
            Check.outside("empty output", () -> table.outputByte(0));
            Check.illegal("empty buffer of tables", () -> table.loadTable(1));
            Check.illegal("empty buffer of rows", () -> table.addRow(1));
            Check.illegal("empty buffer of scripts", () -> table.runScript(1));
            Check.notNow("no snapshot", () -> table.restoreSnapshot());
        });
        Clauses.promise(1, "Nothing can be undone", () -> {
            PackedTable table = new PackedTable();
            Check.same("count", table.undoableCount(), 0);
            Refusals.notNow("undo", PackedTable::new, fresh -> fresh.undo());
            table.setValue(0, 0, 6);
            Check.same("the first change alone", table.undo(), 0);
            Check.notNow("nothing before it", () -> table.undo());
        });
    }

    private static void promise2() {
        Clauses.promise(2, "Appends 20 bytes to the input buffer", () -> {
            PackedTable table = new PackedTable();
            table.appendText(0x7461626C, 0x6520313B, 0x31323334, 0x3B2D3536, 0x37383B20);
            Check.same("rows", table.loadTable(20), 2);
            Check.same("in order", Check.text(table), "table 1;1234;-5678;");
            for (int place = 0; place < 20; place++) {
                for (int sign : new int[] {0, 127, 128, 255}) {
                    badByte(place, sign);
                }
            }
            table.appendText(Integer.MIN_VALUE, -1, 0, Integer.MAX_VALUE, -128);
            Check.same("any bytes", table.loadTable(20), -1);
            Check.same("offset", table.errorOffset(), 0);
        });
        Clauses.promise(2, "Returns the new number of bytes in the buffer", () -> {
            PackedTable table = new PackedTable();
            for (int size = 20; size <= 700; size += 20) {
                Check.same("size", table.appendText(BLANKS, BLANKS, BLANKS, BLANKS, BLANKS), size);
            }
            table.loadTable(0);
            Check.same("emptied", table.appendText(-1, -1, -1, -1, -1), 20);
        });
        Clauses.promise(2, "-1 if it would exceed 700, in which case nothing is appended", () -> {
            PackedTable table = new PackedTable();
            Check.feed(table, "table 1;5;" + Check.repeat(" ", 670));
            Check.same("exactly 700", table.appendText(BLANKS, BLANKS, BLANKS, BLANKS, BLANKS), 700);
            for (int count = 0; count < 3; count++) {
                Check.same("exceeded", table.appendText(0, 0, 0, 0, 0), -1);
            }
            Check.illegal("701 bytes", () -> table.loadTable(701));
            Check.illegal("720 bytes", () -> table.loadTable(720));
            Check.same("the 700 bytes as before", table.loadTable(700), 1);
            Check.same("the value", table.value(0, 0), 5);
        });
    }

    private static void badByte(int place, int sign) {
        int[] fours = {BLANKS, BLANKS, BLANKS, BLANKS, BLANKS};
        int shift = 24 - place % 4 * 8;
        fours[place / 4] = BLANKS & ~(255 << shift) | sign << shift;
        PackedTable table = new PackedTable();
        table.appendText(fours[0], fours[1], fours[2], fours[3], fours[4]);
        Check.same("byte " + place, table.loadTable(20), -1);
        Check.same("offset of byte " + place, table.errorOffset(), place);
    }

    private static void promise3() {
        Clauses.promise(3, "Parses the first bytes of the input buffer as a table", () -> {
            PackedTable table = new PackedTable();
            Check.feed(table, "table 1;5;6;7;");
            Check.same("no bytes", table.loadTable(0), -1);
            Check.same("their offset", table.errorOffset(), 0);
            for (int length = 1; length <= 14; length++) {
                Check.feed(table, "table 1;5;6;7;");
                boolean isTable = length >= 8 && length % 2 == 0;
                Check.same("first " + length, table.loadTable(length), isTable ? length / 2 - 4 : -1);
                Check.same("offset in " + length, table.errorOffset(), isTable ? -1 : length < 5 ? 0 : length);
            }
            Check.feed(table, "table 1;5;??????????");
            Check.same("others are not read", table.loadTable(10), 1);
        });
        Refusals.noSuchLength(3, (table, length) -> table.loadTable(length));
    }

    private static void promise3Replaces() {
        Clauses.promise(3, "If there is no error, the table replaces the old one", () -> {
            PackedTable table = Prepared.rich();
            table.loadTable(16);
            Check.same("state", Check.state(table), "table 2;7 8;9 9;|7 9|8 9|");
            Check.same("stale values", table.staleCount(0) + table.staleCount(1), 0);
            Check.outside("the old last column", () -> table.bitWidth(2));
            Check.same("conditions", table.conditionCount(), 0);
            Check.same("selected", table.selectedCount(), 2);
            Check.same("history", table.undoableCount(), 0);
            Check.notNow("undo", () -> table.undo());
            Check.notNow("snapshot", () -> table.restoreSnapshot());
            Check.same("output stays", table.outputByte(0), '1');
            PackedTable full = Prepared.full();
            Check.same("sixty rows again", full.loadTable(368), 60);
            Check.same("full no more", Check.state(full), "table 1;" + Check.repeat("-9999;", 60) + "|-9999|");
            Check.same("no rows", Check.load(full, "table 1;"), 0);
            Check.same("empty", Check.state(full), "table 1;||");
            PackedTable same = new PackedTable();
            same.addLess(0, 5);
            Check.load(same, Check.text(same));
            Check.same("the same table", Check.state(same), Check.state(new PackedTable()));
            Check.same("history of the same table", same.undoableCount(), 0);
        });
        Clauses.promise(3, "The buffer is emptied in any case", () -> {
            PackedTable table = new PackedTable();
            Check.feed(table, "table 1;5;" + Check.repeat(" ", 40));
            table.loadTable(10);
            Check.illegal("nothing left", () -> table.loadTable(1));
            Check.same("after a table", table.appendText(0, 0, 0, 0, 0), 20);
            table.loadTable(20);
            Check.same("after an error", table.appendText(0, 0, 0, 0, 0), 20);
            table.loadTable(0);
            Check.same("after no bytes", table.appendText(0, 0, 0, 0, 0), 20);
        });
        Clauses.promise(3, "Returns the number of rows", () -> {
            Check.same("none", Check.load(new PackedTable(), "table 6;"), 0);
            Check.same("one", Check.load(new PackedTable(), "table 6;1 2 3 4 5 6;"), 1);
            Check.same("sixty", Check.load(new PackedTable(), "table 1;" + Check.repeat("1;", 60)), 60);
            String row = "1 2 3 4 5 6;";
            PackedTable most = new PackedTable();
            Check.same("as many values as 700 bytes hold", Check.load(most, "table 6;" + Check.repeat(row, 57)), 57);
            Check.same("all of them", Check.text(most), "table 6;" + Check.repeat(row, 57));
        });
        Clauses.promise(3, "-1 if there is a parse error, in which case the store stays as it is", () -> {
            for (String text : new String[] {"table 7;", "table 1;5;6", "table 1;10000;", "table 1;" + Check.repeat("5;", 61)}) {
                PackedTable table = Prepared.rich();
                table.loadTable(0);
                Check.same("answer", Check.load(table, text), -1);
                Check.same("state", Check.state(table), Check.state(Prepared.rich()));
                Check.same("history", table.undoableCount(), 6);
                table.undo();
                Check.same("a change undone", table.isSorted(0), false);
                Check.same("snapshot", table.restoreSnapshot(), 6);
                Check.same("conditions of the snapshot", Check.filter(table), "0<9 1>-9");
            }
        });
    }

    private static void promise4() {
        Clauses.promise(4, "Returns the code of the parse error of the latest call of loadTable, addRow or runScript", () -> {
            PackedTable table = new PackedTable();
            Check.load(table, "table 7;");
            Check.same("load", table.errorCode(), 2);
            Check.row(table, "x");
            Check.same("row", table.errorCode(), 1);
            Check.script(table, Check.repeat("delete;", 21));
            Check.same("script", table.errorCode(), 3);
            Check.illegal("refused load", () -> table.loadTable(-1));
            Check.illegal("refused row", () -> table.addRow(1));
            Check.illegal("refused script", () -> table.runScript(1));
            Check.same("after refused calls", table.errorCode(), 3);
            table.setValue(0, 0, 1);
            table.undo();
            table.saveSnapshot();
            table.restoreSnapshot();
            table.writeRow(0);
            Check.outside("another refused call", () -> table.removeRow(6));
            Check.same("after other calls", table.errorCode(), 3);
            PackedTable full = Prepared.full();
            Check.notNow("refused by sixty rows", () -> full.addRow(700));
            Check.same("after sixty rows", full.errorCode(), 3);
        });
        Clauses.promise(4, "Returns 1, 2 or 3", () -> {
            Parsed.table("x", 1, 0);
            Parsed.table("table 0;", 2, 6);
            Parsed.table("table 1;" + Check.repeat("5;", 60) + "5", 3, 128);
        });
        Clauses.promise(4, "0 if that call found no error or there was no such call", () -> {
            PackedTable table = new PackedTable();
            Check.same("no call", table.errorCode(), 0);
            Check.illegal("refused call", () -> table.loadTable(1));
            Check.same("no call that did not throw", table.errorCode(), 0);
            Check.load(table, "x");
            Check.load(table, "table 3;");
            Check.same("load", table.errorCode(), 0);
            Check.load(table, "x");
            Check.row(table, "1 2 3");
            Check.same("row", table.errorCode(), 0);
            Check.load(table, "x");
            Check.script(table, "");
            Check.same("script", table.errorCode(), 0);
            Check.load(table, "x");
            Check.script(table, "drop 0;");
            Check.same("script that stops", table.errorCode(), 0);
        });
    }

    private static void promise5() {
        Clauses.promise(5, "Returns the offset of the parse error of the latest call of loadTable, addRow or runScript", () -> {
            PackedTable table = new PackedTable();
            Check.load(table, "table 7;");
            Check.same("load", table.errorOffset(), 6);
            Check.row(table, "x");
            Check.same("row", table.errorOffset(), 0);
            Check.script(table, Check.repeat("delete;", 21));
            Check.same("script", table.errorOffset(), 140);
            Check.illegal("refused load", () -> table.loadTable(-1));
            Check.illegal("refused row", () -> table.addRow(1));
            Check.illegal("refused script", () -> table.runScript(1));
            Check.same("after refused calls", table.errorOffset(), 140);
            table.setValue(0, 0, 1);
            table.undo();
            table.saveSnapshot();
            table.restoreSnapshot();
            table.writeRow(0);
            Check.same("after other calls", table.errorOffset(), 140);
            PackedTable full = Prepared.full();
            Check.notNow("refused by sixty rows", () -> full.addRow(700));
            Check.same("after sixty rows", full.errorOffset(), 140);
        });
        Clauses.promise(5, "-1 if that call found no error or there was no such call", () -> {
            PackedTable table = new PackedTable();
            Check.same("no call", table.errorOffset(), -1);
            Check.illegal("refused call", () -> table.loadTable(1));
            Check.same("no call that did not throw", table.errorOffset(), -1);
            Check.load(table, "x");
            Check.load(table, "table 3;");
            Check.same("load", table.errorOffset(), -1);
            Check.load(table, "x");
            Check.row(table, "1 2 3");
            Check.same("row", table.errorOffset(), -1);
            Check.load(table, "x");
            Check.script(table, "");
            Check.same("script", table.errorOffset(), -1);
            Check.load(table, "x");
            Check.script(table, "drop 0;");
            Check.same("script that stops", table.errorOffset(), -1);
        });
    }
}
