/** The boundary cases of the terms of text input, sentence by sentence. */
final class TextTerms {
    private static final String SIXTY = "table 1;" + Check.repeat("1;", 60);
    private static final String TWENTY = Check.repeat("drop 7;", 20);

    private TextTerms() {
    }

    static void test() {
        tokens();
        bytes();
        grammarOfTables();
        grammarOfScripts();
        errors();
        codes();
    }

    private static void tokens() {
        Clauses.terms("Texts are read from an input buffer of at most 700 bytes", () -> {
            PackedTable table = new PackedTable();
            String text = "table 1;" + Check.repeat(" ", 690) + "5;";
            Check.same("700 bytes", text.length(), 700);
            Check.same("all of them read", Check.load(table, text), 1);
            Check.same("the last of them", table.value(0, 0), 5);
            Check.feed(table, text);
            Check.same("20 more", table.appendText(0, 0, 0, 0, 0), -1);
            Check.same("still read", table.loadTable(700), 1);
        });
        Clauses.terms("A text consists of tokens", () -> {
            Parsed.table("", 1, 0);
            Parsed.row("", 1, 0);
            Parsed.script("", 0, -1);
            Parsed.goodTable("table2;3-4;", "table 2;3 -4;");
            Parsed.script("row1-2 3;set0 0-1;sort0down;sort 0 down;drop7;", 0, -1);
        });
        Clauses.terms("A word is a maximal run of the letters a to z", () -> {
            Parsed.table("tabl 1;", 1, 0);
            Parsed.table("tablee 1;", 1, 0);
            Parsed.table("tablea 1;", 1, 0);
            Parsed.table("tablez 1;", 1, 0);
            Parsed.table("fable 1;", 1, 0);
            Parsed.table("tabla 1;", 1, 0);
            Parsed.table("ttable 1;", 1, 0);
            Parsed.table("tab le 1;", 1, 0);
            Parsed.table("table`1;", 1, 5);
            Parsed.table("table{1;", 1, 5);
            Parsed.table("tableA1;", 1, 5);
            Parsed.table("tableZ1;", 1, 5);
            Parsed.table("TABLE 1;", 1, 0);
            Parsed.script("sort 0 downn;", 1, 7);
            Parsed.script("sort 0 do wn;", 1, 7);
            Parsed.script("sortdown 0;", 1, 0);
            Parsed.script("sort 0 town;", 1, 7);
            Parsed.script("relete;", 1, 0);
            Parsed.script("deletes;", 1, 0);
            Parsed.script("a;", 1, 0);
            Parsed.script("z;", 1, 0);
        });
        Clauses.terms("A number is a maximal run of decimal digits of any length", () -> {
            Parsed.goodTable("table 1;" + Check.repeat("0", 690) + "7;", "table 1;7;");
            Parsed.goodTable("table " + Check.repeat("0", 600) + "1;01234;", "table 1;1234;");
            Parsed.goodTable("table 1;5678;9;", "table 1;5678;9;");
            Parsed.table("table 1;" + Check.repeat("9", 691) + ";", 2, 8);
            Parsed.table("table 1;" + Check.repeat("0", 600) + "10000;", 2, 8);
            Parsed.table("table 1;4294967296;", 2, 8);
            Parsed.table("table 1;4294967301;", 2, 8);
            Parsed.table("table 1;-4294967295;", 2, 9);
            Parsed.table("table 1;18446744073709551616;", 2, 8);
            Parsed.table("table 1;18446744073709551621;", 2, 8);
            Parsed.table("table 1;2147483648;", 2, 8);
            Parsed.table("table 4294967297;", 2, 6);
            Parsed.table("table 1;1" + Check.repeat("0", 100) + ";", 2, 8);
            Parsed.script("drop 4294967296;", 2, 5);
            Parsed.script("drop " + Check.repeat("0", 600) + "7;", 0, -1);
        });
        Clauses.terms("The characters ; and - are tokens", () -> {
            Parsed.goodTable("table 2;1-2;-3-4;", "table 2;1 -2;-3 -4;");
            Parsed.goodTable("table 1;- 5;", "table 1;-5;");
            Parsed.table("table 1;--5;", 1, 9);
            Parsed.table("table 1;5;;", 1, 10);
            Parsed.table("table 1;-;", 1, 9);
            Parsed.table("table 1-;", 1, 7);
        });
        Clauses.terms("Spaces (byte 32) and line feeds (byte 10) separate tokens and have no other meaning", () -> {
            Parsed.goodTable(" \n table\n\n2 \n; \n-\n 1\n2 ;\n \n", "table 2;-1 2;");
            Parsed.goodTable("table 2;1 2;", "table 2;1 2;");
            Parsed.goodTable("table 2;1\n2;", "table 2;1 2;");
            Parsed.table("table 2;12;", 1, 10);
            Parsed.table("table 1;1 2;", 1, 10);
            Parsed.table("table 1;1\n2;", 1, 10);
            Parsed.table("   ", 1, 3);
            Parsed.table("\n", 1, 1);
            Parsed.script(" \n ", 0, -1);
            Parsed.script("\nsort\n0\ndown\n;\n", 0, -1);
        });
    }

    private static void bytes() {
        Clauses.terms("Every other byte is an invalid token", () -> {
            for (int value = 0; value < 256; value++) {
                String sign = String.valueOf((char) value);
                boolean isBlank = value == 32 || value == 10;
                boolean isSemicolon = value == ';';
                boolean isDigit = value >= '0' && value <= '9';
                // Behind a whole table a blank alone is allowed, at the end of a value a digit too.
                Parsed.table("table 1;5;" + sign, isBlank ? 0 : 1, isBlank ? -1 : isDigit || value == '-' ? 11 : 10);
                Parsed.table("table 1;5" + sign + ";", isBlank || isDigit ? 0 : 1,
                        isBlank || isDigit ? -1 : isSemicolon ? 10 : 9);
                Parsed.row("1 2 3" + sign, isBlank || isDigit ? 0 : 1, isBlank || isDigit ? -1 : 5);
                Parsed.script("sort 0;" + sign, isBlank ? 0 : 1, isBlank ? -1 : 7);
            }
        });
    }

    private static void grammarOfTables() {
        Clauses.terms("The grammar of a table", () -> {
            Parsed.goodTable("table 1;", "table 1;");
            Parsed.goodTable("table 1;5;", "table 1;5;");
            Parsed.goodTable(SIXTY, SIXTY);
            Parsed.goodTable("table 1;-5;", "table 1;-5;");
            Parsed.table("table 1", 1, 7);
            Parsed.table("table", 1, 5);
            Parsed.table("table;", 1, 5);
            Parsed.table("1;5;", 1, 0);
            Parsed.table("table 1;5", 1, 9);
            Parsed.table("table 1;;", 1, 8);
            Parsed.table("table 1;5;table 1;", 1, 10);
            Parsed.table("\"table\" 1;", 1, 0);
        });
        Clauses.terms("The number of columns is 1 to 6", () -> {
            for (int columns = 1; columns <= 6; columns++) {
                Parsed.goodTable("table " + columns + ";", "table " + columns + ";");
            }
            Parsed.table("table 0;", 2, 6);
            Parsed.table("table 7;", 2, 6);
            Parsed.table("table 00;", 2, 6);
            Parsed.table("table 61;", 2, 6);
            Parsed.table("table -1;", 1, 6);
        });
        Clauses.terms("A row has exactly as many integers as there are columns", () -> {
            for (int columns = 1; columns <= 6; columns++) {
                String head = "table " + columns + ";";
                String row = Check.repeat("1 ", columns - 1);
                Parsed.goodTable(head + row + "2;", head + row + "2;");
                Parsed.table(head + row + ";", 1, 8 + row.length());
                Parsed.table(head + row + "1 3;", 1, 10 + row.length());
                Parsed.table(head + row + "1;" + row + ";", 1, 10 + 2 * row.length());
            }
            Parsed.row("1 2 3", 0, -1);
            Parsed.row("1 2", 1, 3);
            Parsed.row("1 2 3 4", 1, 6);
            Parsed.script("row 1 2 3;", 0, -1);
            Parsed.script("row 1 2;", 1, 7);
            Parsed.script("row 1 2 3 4;", 1, 10);
            Parsed.script("row;", 1, 3);
        });
        Clauses.terms("A value is -9999 to 9999", () -> {
            Parsed.goodTable("table 2;-9999 9999;", "table 2;-9999 9999;");
            Parsed.goodTable("table 2;-0 0;", "table 2;0 0;");
            Parsed.table("table 1;10000;", 2, 8);
            Parsed.table("table 1;-10000;", 2, 9);
            Parsed.row("-9999 0 9999", 0, -1);
            Parsed.row("1 2 10000", 2, 4);
            Parsed.row("1 -10000 2", 2, 3);
            for (String word : new String[] {"less", "equal", "greater"}) {
                Parsed.script(word + " 0 9999;" + word + " 0 -9999;", 0, -1);
                Parsed.script(word + " 0 10000;", 2, word.length() + 3);
                Parsed.script(word + " 0 -10000;", 2, word.length() + 4);
            }
            Parsed.script("set 0 0 9999;set 0 0 -9999;row 9999 -9999 0;", 0, -1);
            Parsed.script("set 0 0 10000;", 2, 8);
            Parsed.script("set 0 0 -10000;", 2, 9);
            Parsed.script("row 10000 0 0;", 2, 4);
            Parsed.script("row 0 0 -10000;", 2, 9);
        });
    }

    private static void grammarOfScripts() {
        Clauses.terms("The grammar of a script", () -> {
            Parsed.script("", 0, -1);
            Parsed.script("sort 0;", 0, -1);
            Parsed.script("sort 0 down;", 0, -1);
            Parsed.script(TWENTY, 0, -1);
            String[] commands = {"row 1 2 3", "set 0 0 1", "sort 0", "less 0 1", "equal 0 1", "greater 0 1", "drop 0", "delete",
                "compact 0"};
            for (String command : commands) {
                Parsed.script(command + ";", 0, -1);
                Parsed.script(command, 1, command.length());
                Parsed.script(command + ";;", 1, command.length() + 1);
                Parsed.script(command + "-;", 1, command.length());
                Parsed.script(";" + command + ";", 1, 0);
                int last = command.lastIndexOf(' ');
                if (last > 0) {
                    Parsed.script(command.substring(0, last) + ";", 1, last);
                }
            }
            Parsed.script("down;", 1, 0);
            Parsed.script("table 1;", 1, 0);
            Parsed.script("sort 0 down down;", 1, 12);
            Parsed.script("compact 0 down;", 1, 10);
            Parsed.script("less 0 1 2;", 1, 9);
            Parsed.script("drop 0 1;", 1, 7);
            Parsed.script("delete 0;", 1, 7);
        });
        Clauses.terms("A column of a script is 0 to the number of columns minus 1", () -> {
            for (int columns = 1; columns <= 6; columns++) {
                columnOf(columns, "set ", " 0 5;");
                columnOf(columns, "sort ", ";");
                columnOf(columns, "less ", " 5;");
                columnOf(columns, "equal ", " 5;");
                columnOf(columns, "greater ", " 5;");
                columnOf(columns, "compact ", ";");
            }
            Parsed.script("sort -0;", 1, 5);
            Parsed.script("compact 10;", 2, 8);
        });
        Clauses.terms("The number of set is a row, 0 to 59, and the number of drop is a condition, 0 to 7", () -> {
            Parsed.script("set 0 0 1;", 0, -1);
            Parsed.script("set 0 59 1;", 0, -1);
            Parsed.script("set 0 60 1;", 2, 6);
            Parsed.script("set 0 -1 1;", 1, 6);
            Parsed.script("drop 0;", 0, -1);
            Parsed.script("drop 7;", 0, -1);
            Parsed.script("drop 8;", 2, 5);
            Parsed.script("drop -1;", 1, 5);
        });
        Clauses.terms("A script has at most 20 commands", () -> {
            PackedTable table = new PackedTable();
            Check.same("twenty", Check.script(table, Check.repeat("compact 0;", 20)), 20);
            Check.same("twenty-one", Check.script(table, Check.repeat("compact 0;", 21)), -1);
            Check.same("one change", table.undoableCount(), 1);
            Parsed.script(Check.repeat("compact 0;", 21), 3, 200);
        });
        Clauses.terms("It is parsed completely before its first command is executed", () -> {
            Parsed.script("row 1 2 3;set 0 0 77;less 0 5;delete;compact 0;x;", 1, 47);
            Parsed.script("delete;" + Check.repeat("drop 0;", 20), 3, 140);
            Parsed.script("delete;set 0 0 10000;", 2, 15);
            Parsed.script("delete;delete", 1, 13);
        });
    }

    private static void columnOf(int columns, String before, String behind) {
        PackedTable table = Prepared.wide(columns);
        Check.same("first column", Check.script(table, before + "0" + behind), 1);
        Check.same("last column", Check.script(table, before + (columns - 1) + behind), 1);
        Check.same("column behind", Check.script(table, before + columns + behind), -1);
        Check.same("its code", table.errorCode(), 2);
        Check.same("its offset", table.errorOffset(), before.length());
    }

    private static void errors() {
        Clauses.terms("Parsing stops at the first token that causes an error", () -> {
            Parsed.table("table 7;x", 2, 6);
            Parsed.table("table 1;x;10000;", 1, 8);
            Parsed.table("table 1;10000;x;", 2, 8);
            Parsed.row("10000 x", 2, 0);
            Parsed.row("x 10000", 1, 0);
            Parsed.script("sort 3;x", 2, 5);
            Parsed.script("x;sort 3;", 1, 0);
            Parsed.script("set 3 60 10000;", 2, 4);
            Parsed.script("set 0 60 10000;", 2, 6);
            Parsed.table("table 1;10000;" + Check.repeat("1;", 61), 2, 8);
        });
        Clauses.terms("The error offset is the offset of the first byte of this token, or the length of the text", () -> {
            Parsed.table("  word 1;", 1, 2);
            Parsed.table("table \n 77777;", 2, 8);
            Parsed.table("table 1;5\n \n word;", 1, 13);
            Parsed.table("table 1;- 10000;", 2, 10);
            Parsed.table("table 1;5", 1, 9);
            Parsed.table("table 1;5 \n ", 1, 12);
            Parsed.table("table", 1, 5);
            Parsed.row("1 2 ", 1, 4);
            Parsed.script("sort", 1, 4);
            Parsed.script("sort 0 ", 1, 7);
            PackedTable table = new PackedTable();
            Check.feed(table, "table 1;123;4;");
            Check.same("text cut short", table.loadTable(10), -1);
            Check.same("its offset", table.errorOffset(), 10);
            Check.feed(table, "table 1;5" + Check.repeat(" ", 691));
            Check.same("700 bytes", table.loadTable(700), -1);
            Check.same("offset 700", table.errorOffset(), 700);
        });
        Clauses.terms("If several errors apply to the same token, the one with the smallest code is reported", () -> {
            Parsed.table("table 1;5 10000;", 1, 10);
            Parsed.table("10000", 1, 0);
            Parsed.script("drop 7 99999;", 1, 7);
            Parsed.script("10000;", 1, 0);
            Parsed.table(SIXTY + "10000;", 2, 128);
            Parsed.table(SIXTY + "99999999999999999999;", 2, 128);
            Parsed.table(SIXTY + "word;", 1, 128);
            Parsed.table(SIXTY + ";", 1, 128);
            Parsed.table(SIXTY + "?", 1, 128);
            Parsed.script(TWENTY + "word;", 1, 140);
            Parsed.script(TWENTY + "down;", 1, 140);
            Parsed.script(TWENTY + "10000;", 1, 140);
            Parsed.script(TWENTY + ";", 1, 140);
            Parsed.script(TWENTY + "-", 1, 140);
            Parsed.script(TWENTY + "?", 1, 140);
        });
    }

    private static void codes() {
        Clauses.terms("Code 1: the token is not allowed at this place, it is invalid, or the text ends too early", () -> {
            Parsed.table("row 1;", 1, 0);
            Parsed.table("table table;", 1, 6);
            Parsed.table("table 1 ?", 1, 8);
            Parsed.table("table 1;" + (char) 255, 1, 8);
            Parsed.table("table 1;-", 1, 9);
            Parsed.row("?", 1, 0);
            Parsed.row("1 2 -", 1, 5);
            Parsed.row("1 2 3;", 1, 5);
            Parsed.script("less 0 -", 1, 8);
            Parsed.script("set 0", 1, 5);
            Parsed.script("delete" + (char) 128, 1, 6);
        });
        Clauses.terms("This includes an integer behind the last column of a row", () -> {
            Parsed.table("table 1;5 6;", 1, 10);
            Parsed.table("table 1;5 -6;", 1, 10);
            Parsed.table("table 6;1 2 3 4 5 6 7;", 1, 20);
            Parsed.row("1 2 3 4", 1, 6);
            Parsed.row("1 2 3-4", 1, 5);
            Parsed.script("row 1 2 3 4;", 1, 10);
            Parsed.script("row 1 2 3 -4;", 1, 10);
        });
        Clauses.terms("Code 2: a number is out of range", () -> {
            Parsed.table("table 0;", 2, 6);
            Parsed.table("table 7;", 2, 6);
            Parsed.table("table 1;10000;", 2, 8);
            Parsed.row("10000 1 1", 2, 0);
            Parsed.script("sort 3;", 2, 5);
            Parsed.script("set 0 60 1;", 2, 6);
            Parsed.script("drop 8;", 2, 5);
        });
        Clauses.terms("Code 3: the first token of the 61st row of a table, or the first word of the 21st command", () -> {
            Parsed.goodTable(SIXTY + " \n", SIXTY);
            Parsed.table(SIXTY + "1;", 3, 128);
            Parsed.table(SIXTY + " 0", 3, 129);
            Parsed.table(SIXTY + "9999;", 3, 128);
            Parsed.table(SIXTY + "-1;", 3, 128);
            Parsed.table(SIXTY + "-10000;", 3, 128);
            Parsed.table(SIXTY + "-", 3, 128);
            Parsed.script(TWENTY + "\n", 0, -1);
            String[] words = {"row", "set", "sort", "less", "equal", "greater", "drop", "delete", "compact"};
            for (String word : words) {
                Parsed.script(TWENTY + word, 3, 140);
                Parsed.script(TWENTY + " " + word + " 9 9 99999;", 3, 141);
            }
        });
    }
}
