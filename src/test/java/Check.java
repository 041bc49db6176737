/** Counts what is as due and what is not, for one test program. */
final class Check {
    private static int passed;
    private static int failed;
    // Stands before what a failed check says; a test that quotes the document puts its words here.
    private static String context = "";

    private Check() {
    }

    static void within(String newContext) {
        context = newContext;
    }

    static int count() {
        return passed + failed;
    }

    static void same(String what, long got, long due) {
        note(got == due, what, String.valueOf(got), String.valueOf(due));
    }

    static void same(String what, boolean got, boolean due) {
        note(got == due, what, String.valueOf(got), String.valueOf(due));
    }

    static void same(String what, double got, double due) {
        note(Double.compare(got, due) == 0, what, String.valueOf(got), String.valueOf(due));
    }

    static void same(String what, String got, String due) {
        note(got.equals(due), what, got, due);
    }

    static void outside(String what, Runnable call) {
        fails(what, IndexOutOfBoundsException.class, call);
    }

    static void illegal(String what, Runnable call) {
        fails(what, IllegalArgumentException.class, call);
    }

    static void notNow(String what, Runnable call) {
        fails(what, IllegalStateException.class, call);
    }

    static void fails(String what, Class<? extends RuntimeException> due, Runnable call) {
        String got = "no exception";
        try {
            call.run();
        } catch (RuntimeException e) {
            got = e.getClass().getName();
        }
        note(got.equals(due.getName()), what, got, due.getName());
    }

    private static void note(boolean isGood, String what, String got, String due) {
        if (isGood) {
            passed++;
        } else {
            failed++;
            System.out.println(context + what + " answered " + got + ", due is " + due);
        }
    }

    static void finish() {
        System.out.println(passed + " passed, " + failed + " failed");
        if (failed > 0 || passed == 0) {
            System.exit(1);
        }
    }

    /** Appends the text, filled up with spaces to a multiple of 20 bytes; returns its own length. */
    static int feed(PackedTable table, String text) {
        StringBuilder filled = new StringBuilder(text);
        while (filled.length() % 20 != 0) {
            filled.append(' ');
        }
        for (int start = 0; start < filled.length(); start += 20) {
            int[] fours = new int[5];
            for (int place = 0; place < 20; place++) {
                fours[place / 4] = fours[place / 4] << 8 | filled.charAt(start + place);
            }
            table.appendText(fours[0], fours[1], fours[2], fours[3], fours[4]);
        }
        return text.length();
    }

    static int load(PackedTable table, String text) {
        return table.loadTable(feed(table, text));
    }

    static int row(PackedTable table, String text) {
        return table.addRow(feed(table, text));
    }

    static int script(PackedTable table, String text) {
        return table.runScript(feed(table, text));
    }

    static PackedTable loaded(String text) {
        PackedTable table = new PackedTable();
        load(table, text);
        return table;
    }

    static String repeat(String part, int times) {
        return part.repeat(times);
    }

    /** The table as the grammar writes it. */
    static String text(PackedTable table) {
        StringBuilder text = new StringBuilder("table " + table.columnCount() + ";");
        for (int row = 0; row < table.rowCount(); row++) {
            for (int column = 0; column < table.columnCount(); column++) {
                text.append(column == 0 ? "" : " ").append(table.value(column, row));
            }
            text.append(';');
        }
        return text.toString();
    }

    static String dictionary(PackedTable table, int column) {
        StringBuilder text = new StringBuilder();
        for (int code = 0; code < table.dictionarySize(column); code++) {
            text.append(code == 0 ? "" : " ").append(table.dictionaryValue(column, code));
        }
        return text.toString();
    }

    /** Column, sign of the direction and value of each condition. */
    static String filter(PackedTable table) {
        StringBuilder text = new StringBuilder();
        for (int condition = 0; condition < table.conditionCount(); condition++) {
            text.append(condition == 0 ? "" : " ").append(table.conditionColumn(condition));
            text.append("<=>".charAt(table.conditionDirection(condition) + 1)).append(table.conditionValue(condition));
        }
        return text.toString();
    }

    static String state(PackedTable table) {
        StringBuilder text = new StringBuilder(text(table));
        for (int column = 0; column < table.columnCount(); column++) {
            text.append('|').append(dictionary(table, column));
        }
        return text.append('|').append(filter(table)).toString();
    }

    static String output(PackedTable table, int length) {
        StringBuilder text = new StringBuilder();
        for (int index = 0; index < length; index++) {
            text.append((char) table.outputByte(index));
        }
        return text.toString();
    }
}
