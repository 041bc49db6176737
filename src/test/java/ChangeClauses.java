/** The boundary cases of promises 47 to 57, clause by clause. */
final class ChangeClauses {
    private ChangeClauses() {
    }

    static void test() {
        promise47();
        promise47Full();
        promise48();
        promise49();
        promise50();
        promises51To53();
        promise54();
        promise55();
        promise56();
        promise57();
        promise57Refused();
        promise57Stops();
    }

    private static void promise47() {
        Clauses.promise(47, "Parses the first bytes of the input buffer as one row (see the grammar), with nothing behind it", () -> {
            Parsed.row("1 2 3 ", 0, -1);
            Parsed.row("1 2 3\n \n", 0, -1);
            Parsed.row("1 2 3;", 1, 5);
            Parsed.row("1 2 3 4", 1, 6);
            Parsed.row("1 2 3 -", 1, 6);
            Parsed.row("1 2 3 row", 1, 6);
            Parsed.row("1 2 3 ?", 1, 6);
            PackedTable table = new PackedTable();
            Check.feed(table, "1 2 345;");
            Check.same("the first bytes alone", table.addRow(5), 6);
            Check.same("behind all others", Check.text(table), "table 3;5 -2 7;1 -2 7;5 0 3;9 -2 7;1 4 3;5 0 7;1 2 3;");
        });
        Clauses.promise(47, "The buffer is emptied", () -> {
            PackedTable table = new PackedTable();
            Check.feed(table, "1 2 3" + Check.repeat(" ", 40));
            Check.same("a row", table.addRow(5), 6);
            Check.illegal("nothing left", () -> table.addRow(1));
            Check.same("after a row", table.appendText(0, 0, 0, 0, 0), 20);
            Check.same("an error", table.addRow(1), -1);
            Check.same("after an error", table.appendText(0, 0, 0, 0, 0), 20);
            Check.same("no bytes", table.addRow(0), -1);
            Check.same("after no bytes", table.appendText(0, 0, 0, 0, 0), 20);
        });
        Clauses.promise(47, "Returns the index of the row", () -> {
            Check.same("the first", Check.row(Prepared.bare(), "1"), 0);
            Check.same("the last", Check.row(Prepared.counting(59), "1"), 59);
        });
        Clauses.promise(47, "-1 if there is a parse error", () -> {
            for (String text : new String[] {"", "x", "1 2", "1 2 3 4", "1 2 10000", "1 2 -10000", "1 2 3;"}) {
                PackedTable table = Prepared.rich();
                table.loadTable(0);
                Check.same("\"" + text + "\"", Check.row(table, text), -1);
                Check.same("state", Check.state(table), Check.state(Prepared.rich()));
                Check.same("changes", table.undoableCount(), 6);
            }
        });
        Refusals.noSuchLength(47, (table, length) -> table.addRow(length));
    }

    private static void promise47Full() {
        Clauses.promise(47, "Throws `IllegalStateException` if there are 60 rows", () -> {
            PackedTable table = Prepared.counting(59);
            Check.same("the sixtieth", Check.row(table, "5"), 59);
            Check.feed(table, "5");
            Check.notNow("another", () -> table.addRow(1));
            Refusals.notNow("a row", Prepared::full, full -> full.addRow(700));
            Refusals.notNow("no bytes", Prepared::full, full -> full.addRow(0));
        });
        Clauses.promise(47, "the buffer is not emptied then", () -> {
            PackedTable table = Prepared.sixtyRows();
            Check.feed(table, "77");
            Check.notNow("full", () -> table.addRow(2));
            Check.same("20 bytes more", table.appendText(0, 0, 0, 0, 0), 40);
            table.removeRow(0);
            Check.same("the same text", table.addRow(2), 59);
            Check.same("its value", table.value(0, 59), 77);
        });
    }

    private static void promise48() {
        Clauses.promise(48, "Returns the number of rows that are left", () -> {
            PackedTable table = Prepared.counting(60);
            for (int left = 59; left >= 0; left--) {
                Check.same("left", table.removeRow(left % 2 == 0 ? left : 0), left);
            }
            Refusals.outside("none", Prepared::bare, bare -> bare.removeRow(0));
        });
        Refusals.noSuchRow(48, (table, row) -> table.removeRow(row));
    }

    private static void promise49() {
        Clauses.promise(49, "Returns the value before", () -> {
            PackedTable table = new PackedTable();
            Check.same("loaded", table.setValue(0, 0, -9999), 5);
            Check.same("least", table.setValue(0, 0, 9999), -9999);
            Check.same("greatest", table.setValue(0, 0, 9999), 9999);
            Check.same("the same", table.setValue(0, 0, 0), 9999);
            Check.same("last row", table.setValue(2, 5, 0), 7);
        });
        Refusals.noSuchColumnOrRow(49, (table, column) -> table.setValue(column, 0, 5), (table, row) -> table.setValue(0, row, 5));
        Refusals.valueOutOfRange(49, (table, value) -> table.setValue(0, 0, value));
    }

    private static void promise50() {
        Clauses.promise(50, "Rows with equal values keep their order, in both directions", () -> {
            String rows = "5 0;1 1;5 2;1 3;5 4;1 5;";
            PackedTable up = Check.loaded("table 2;" + rows);
            Check.same("two runs", up.sort(0, true), 2);
            Check.same("ascending", Check.text(up), "table 2;1 1;1 3;1 5;5 0;5 2;5 4;");
            PackedTable down = Check.loaded("table 2;" + rows);
            Check.same("two runs", down.sort(0, false), 2);
            Check.same("descending", Check.text(down), "table 2;5 0;5 2;5 4;1 1;1 3;1 5;");
            PackedTable equal = Check.loaded("table 2;7 3;7 1;7 2;");
            equal.sort(0, true);
            equal.sort(0, false);
            Check.same("all equal", Check.text(equal), "table 2;7 3;7 1;7 2;");
        });
        Clauses.promise(50, "Returns the number of runs of this column afterwards", () -> {
            Check.same("no rows", Prepared.bare().sort(0, true), 0);
            Check.same("no rows descending", Prepared.bare().sort(0, false), 0);
            Check.same("one row", Prepared.counting(1).sort(0, true), 1);
            Check.same("one run", Prepared.sixtyRows().sort(0, false), 1);
            PackedTable table = Prepared.counting(60);
            Check.same("sixty runs", table.sort(0, false), 60);
            Check.same("turned round", table.value(0, 0) * 100 + table.value(0, 59), 5900);
            Check.same("signs", Check.loaded("table 1;1;-1;1;-1;").sort(0, true), 2);
        });
        Refusals.noSuchColumn(50, (table, column) -> table.sort(column, true));
    }

    private static void promises51To53() {
        Clauses.promise(51, "Adds the condition that a column is less than a value, behind all other conditions", () -> {
            PackedTable table = Prepared.eightConditions();
            table.removeCondition(0);
            Check.same("none below the least", table.addLess(1, -2), 0);
            Check.same("the eighth", table.conditionColumn(7) * 10 + table.conditionDirection(7), 9);
            Check.same("nothing inserted", Check.dictionary(Prepared.rich(), 1), "-5 -2 0 4");
        });
        Clauses.promise(51, "Returns selectedCount() afterwards", () -> {
            Check.same("all", new PackedTable().addLess(0, 10), 6);
            Check.same("the value itself is not less", new PackedTable().addLess(0, 9), 5);
            Check.same("none", new PackedTable().addLess(0, 1), 0);
            Check.same("no rows", Prepared.bare().addLess(0, 9999), 0);
        });
        Refusals.noSuchColumn(51, (table, column) -> table.addLess(column, 5));
        Refusals.valueOutOfRange(51, (table, value) -> table.addLess(0, value));
        Refusals.eightConditions(51, (table, value) -> table.addLess(0, value));
        Clauses.promise(52, "Adds the condition that a column is equal to a value, behind all other conditions", () -> {
            PackedTable table = Prepared.eightConditions();
            table.removeCondition(0);
            Check.same("one", table.addEqual(1, 4), 1);
            Check.same("the eighth", table.conditionColumn(7) * 10 + table.conditionDirection(7), 10);
            Check.same("a value that is not in the dictionary", new PackedTable().addEqual(0, 6), 0);
        });
        Clauses.promise(52, "Returns selectedCount() afterwards", () -> {
            Check.same("all", Prepared.sixtyRows().addEqual(0, 1), 60);
            Check.same("some", new PackedTable().addEqual(0, 5), 3);
            Check.same("none", new PackedTable().addEqual(0, 0), 0);
            Check.same("no rows", Prepared.bare().addEqual(0, 0), 0);
        });
        Refusals.noSuchColumn(52, (table, column) -> table.addEqual(column, 5));
        Refusals.valueOutOfRange(52, (table, value) -> table.addEqual(0, value));
        Refusals.eightConditions(52, (table, value) -> table.addEqual(0, value));
        Clauses.promise(53, "Adds the condition that a column is greater than a value, behind all other conditions", () -> {
            PackedTable table = Prepared.eightConditions();
            table.removeCondition(0);
            Check.same("none above the greatest", table.addGreater(1, 4), 0);
            Check.same("the eighth", table.conditionColumn(7) * 10 + table.conditionDirection(7), 11);
        });
        Clauses.promise(53, "Returns selectedCount() afterwards", () -> {
            Check.same("all", new PackedTable().addGreater(0, 0), 6);
            Check.same("the value itself is not greater", new PackedTable().addGreater(0, 1), 4);
            Check.same("none", new PackedTable().addGreater(0, 9), 0);
            Check.same("no rows", Prepared.bare().addGreater(0, -9999), 0);
        });
        Refusals.noSuchColumn(53, (table, column) -> table.addGreater(column, 5));
        Refusals.valueOutOfRange(53, (table, value) -> table.addGreater(0, value));
        Refusals.eightConditions(53, (table, value) -> table.addGreater(0, value));
    }

    private static void promise54() {
        Clauses.promise(54, "Returns selectedCount() afterwards", () -> {
            PackedTable table = new PackedTable();
            table.addLess(0, 1);
            table.addEqual(0, 5);
            Check.same("the first", table.removeCondition(0), 3);
            Check.same("the last", table.removeCondition(0), 6);
            PackedTable full = Prepared.full();
            for (int left = 7; left >= 0; left--) {
                Check.same("of sixty rows", full.removeCondition(left), left > 0 ? 59 : 60);
            }
            PackedTable bare = Prepared.bare();
            bare.addEqual(0, 0);
            Check.same("no rows", bare.removeCondition(0), 0);
        });
        Refusals.noSuchCondition(54, (table, condition) -> table.removeCondition(condition));
    }

    private static void promise55() {
        Clauses.promise(55, "Removes all selected rows", () -> {
            PackedTable table = Check.loaded("table 1;1;0;1;0;1;");
            table.addEqual(0, 1);
            table.deleteSelected();
            Check.same("first, middle and last", Check.state(table), "table 1;0;0;|0 1|0=1");
            table.removeCondition(0);
            table.deleteSelected();
            Check.same("an empty filter selects all", Check.state(table), "table 1;|0 1|");
        });
        Clauses.promise(55, "Returns the number of rows that were removed", () -> {
            Check.same("sixty", Prepared.sixtyRows().deleteSelected(), 60);
            Check.same("no rows", Prepared.bare().deleteSelected(), 0);
            PackedTable table = new PackedTable();
            table.addLess(0, 1);
            Check.same("none", table.deleteSelected(), 0);
            Check.same("all are left", table.rowCount(), 6);
        });
    }

    private static void promise56() {
        Clauses.promise(56, "Compacts a column: its stale values are removed from the dictionary", () -> {
            PackedTable table = Prepared.counting(5);
            table.removeRow(4);
            table.removeRow(2);
            table.removeRow(0);
            table.compact(0);
            Check.same("first, middle and last", Check.state(table), "table 1;1;3;|1 3|");
            Check.same("code", table.code(0, 1), 1);
            PackedTable two = Prepared.wide(2);
            two.deleteSelected();
            two.compact(1);
            Check.same("one column alone", Check.state(two), "table 2;|1 2||");
        });
        Clauses.promise(56, "Returns the number of values that were removed", () -> {
            PackedTable table = Prepared.counting(60);
            Check.same("none", table.compact(0), 0);
            table.deleteSelected();
            Check.same("all", table.compact(0), 60);
            Check.same("none left", table.compact(0), 0);
            Check.same("an empty dictionary", Prepared.bare().compact(0), 0);
        });
        Refusals.noSuchColumn(56, (table, column) -> table.compact(column));
    }

    private static void promise57() {
        Clauses.promise(57, "Parses the first bytes of the input buffer as a script", () -> {
            PackedTable table = new PackedTable();
            Check.feed(table, "delete;delete;x");
            Check.same("no bytes", table.runScript(0), 0);
            Check.same("nothing deleted", table.rowCount(), 6);
            Check.feed(table, "sort 0;delete;x");
            Check.same("the first bytes alone", table.runScript(7), 1);
            Check.same("still nothing deleted", table.rowCount(), 6);
            Check.feed(table, "row 1 2 3;set 0 6 4;sort 1 down;less 0 5;equal 2 3;greater 1 1;drop 1;delete;compact 1;");
            Check.same("all nine", table.runScript(91), 9);
            Check.same("in order", Check.state(table), "table 3;5 0 3;5 0 7;1 -2 7;5 -2 7;9 -2 7;|1 4 5 9|-2 0|3 7|0<5 1>1");
            Check.same("twenty rows", Check.script(Prepared.bare(), Check.repeat("row 1;", 20)), 20);
        });
        Clauses.promise(57, "The buffer is emptied", () -> {
            PackedTable table = new PackedTable();
            Check.feed(table, "sort 0;" + Check.repeat(" ", 40));
            Check.same("a script", table.runScript(7), 1);
            Check.illegal("nothing left", () -> table.runScript(1));
            Check.same("after a script", table.appendText(0, 0, 0, 0, 0), 20);
            Check.same("an error", table.runScript(1), -1);
            Check.same("after an error", table.appendText(0, 0, 0, 0, 0), 20);
            Check.same("no bytes", table.runScript(0), 0);
            Check.same("after no bytes", table.appendText(0, 0, 0, 0, 0), 20);
            Check.script(table, "drop 0;");
            Check.illegal("after a script that stops", () -> table.runScript(1));
        });
        Clauses.promise(57, "Returns the number of commands that were executed", () -> {
            Check.same("no commands", Check.script(new PackedTable(), ""), 0);
            Check.same("none executed", Check.script(new PackedTable(), "drop 0;sort 0;"), 0);
            Check.same("one of two", Check.script(new PackedTable(), "sort 0;drop 0;"), 1);
            Check.same("twenty", Check.script(new PackedTable(), Check.repeat("delete;", 20)), 20);
        });
        Clauses.promise(57, "-1 if there is a parse error", () -> {
            for (String text : new String[] {"x", "delete", "delete;x", "set 0 60 1;", "sort 3;", Check.repeat("delete;", 21)}) {
                PackedTable table = Prepared.rich();
                table.loadTable(0);
                Check.same("\"" + text + "\"", Check.script(table, text), -1);
                Check.same("state", Check.state(table), Check.state(Prepared.rich()));
                Check.same("changes", table.undoableCount(), 6);
            }
        });
    }

    private static void promise57Refused() {
        Refusals.noSuchLength(57, (table, length) -> table.runScript(length));
    }

    private static void promise57Stops() {
        Clauses.promise(57, "Execution stops at the first command whose method would throw an exception", () -> {
            PackedTable rows = Prepared.counting(59);
            Check.same("the 61st row", Check.script(rows, "row 5;row 6;delete;"), 1);
            Check.same("sixty rows", rows.rowCount(), 60);
            Check.same("no value of it", rows.findCode(0, 60), -1);
            stops("set 0 5 8;set 0 6 8;delete;", 1, "5 -2 7;1 -2 7;5 0 3;9 -2 7;1 4 3;8 0 7;|1 5 8 9|-2 0 4|3 7|");
            stops("set 0 59 8;delete;", 0, "5 -2 7;1 -2 7;5 0 3;9 -2 7;1 4 3;5 0 7;|1 5 9|-2 0 4|3 7|");
            stops("less 0 0;drop 1;delete;", 1, "5 -2 7;1 -2 7;5 0 3;9 -2 7;1 4 3;5 0 7;|1 5 9|-2 0 4|3 7|0<0");
            stops("drop 0;less 0 0;", 0, "5 -2 7;1 -2 7;5 0 3;9 -2 7;1 4 3;5 0 7;|1 5 9|-2 0 4|3 7|");
            stops("delete;set 0 0 1;compact 0;", 1, "|1 5 9|-2 0 4|3 7|");
            for (String word : new String[] {"less", "equal", "greater"}) {
                String eight = Check.repeat(word + " 0 5;", 8);
                PackedTable table = new PackedTable();
                Check.same("a ninth " + word, Check.script(table, eight + word + " 0 5;compact 0;"), 8);
                Check.same("eight of " + word, table.conditionCount(), 8);
                Check.same("room again", Check.script(table, "drop 7;" + word + " 0 5;" + word + " 0 5;"), 2);
            }
        });
        Clauses.promise(57, "runScript itself does not throw then", () -> {
            PackedTable table = Prepared.full();
            table.loadTable(0);
            for (String text : new String[] {"row 5;", "less 0 5;", "equal 0 5;", "greater 0 5;", "delete;set 0 59 5;",
                "drop 6;drop 6;drop 6;"}) {
                Check.same(text, Check.script(table, text) < text.split(";").length, true);
                Check.same("no error", table.errorCode(), 0);
                Check.same("no offset", table.errorOffset(), -1);
            }
        });
    }

    private static void stops(String script, int executed, String due) {
        PackedTable table = new PackedTable();
        Check.same("\"" + script + "\"", Check.script(table, script), executed);
        Check.same("state", Check.state(table), "table 3;" + due);
        Check.same("error", table.errorCode(), 0);
        Check.same("one change", table.undo(), 0);
        Check.same("undone", Check.state(table), Check.state(new PackedTable()));
    }
}
