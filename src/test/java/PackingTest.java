/** Promises 16 to 23: packing and runs. */
final class PackingTest {
    private static final int[] NO_COLUMNS = {-1, 3, 5, 6, Integer.MIN_VALUE, Integer.MAX_VALUE};

    public static void main(String[] args) {
        promise16();
        promise17();
        promise18();
        promise18ByTheDocument();
        promise19();
        promise20();
        promise21();
        promise22();
        promise23();
        noSuchColumn();
        Check.finish();
    }

    private static void promise16() {
        int[] sizes = {0, 1, 2, 3, 4, 5, 8, 9, 16, 17, 32, 33, 60};
        int[] widths = {0, 0, 1, 2, 2, 3, 3, 4, 4, 5, 5, 6, 6};
        for (int place = 0; place < sizes.length; place++) {
            Check.same("16 size " + sizes[place], Prepared.counting(sizes[place]).bitWidth(0), widths[place]);
        }
        PackedTable table = Prepared.counting(2);
        table.setValue(0, 0, 5);
        Check.same("16 with stale values", table.bitWidth(0), 2);
        table.deleteSelected();
        Check.same("16 without rows", table.bitWidth(0), 2);
        PackedTable grown = Prepared.counting(60);
        for (int value = 60; value < 64; value++) {
            grown.setValue(0, 0, value);
        }
        Check.same("16 64 values", grown.bitWidth(0), 6);
        grown.setValue(0, 0, 64);
        Check.same("16 65 values", grown.bitWidth(0), 7);
    }

    private static void promise17() {
        Check.same("17 no rows", Prepared.counting(0).wordCount(0), 0);
        Check.same("17 no bits", Prepared.counting(1).wordCount(0), 0);
        Check.same("17 2 bits", Prepared.counting(2).wordCount(0), 1);
        Check.same("17 64 bits", Prepared.counting(16).wordCount(0), 1);
        PackedTable counted = Prepared.counting(17);
        Check.same("17 85 bits", counted.wordCount(0), 2);
        for (int rows = 16; rows > 12; rows--) {
            counted.removeRow(rows);
        }
        Check.same("17 65 bits", counted.wordCount(0), 2);
        counted.removeRow(0);
        Check.same("17 60 bits", counted.wordCount(0), 1);
        Check.same("17 360 bits", Prepared.counting(60).wordCount(0), 6);
        PackedTable table = Check.loaded("table 1;" + Check.repeat("4;", 32) + "0;1;2;3;");
        Check.same("17 108 bits", table.wordCount(0), 2);
        table.deleteSelected();
        Check.same("17 no rows, but bits", table.wordCount(0), 0);
    }

    private static void promise18() {
        PackedTable table = new PackedTable();
        Check.same("18 column 0", table.packedWord(0, 0), 0b01_00_10_01_00_01L);
        Check.same("18 column 1", table.packedWord(1, 0), 0b01_10_00_01_00_00L);
        Check.same("18 column 2", table.packedWord(2, 0), 0b101011L);
        Check.outside("18 word -1", () -> table.packedWord(0, -1));
        Check.outside("18 word 1", () -> table.packedWord(0, 1));
        Check.outside("18 greatest word", () -> table.packedWord(0, Integer.MAX_VALUE));
        PackedTable narrow = Prepared.counting(1);
        Check.outside("18 no words", () -> narrow.packedWord(0, 0));
        PackedTable top = Check.loaded("table 1;" + Check.repeat("0;", 15) + "15;1;2;3;4;5;6;7;8;");
        top.setValue(0, 0, 9);
        Check.same("18 width", top.bitWidth(0), 4);
        top.setValue(0, 15, 15);
        Check.same("18 highest bits", top.packedWord(0, 0), 0xa000000000000009L);
        Check.same("18 next word", top.packedWord(0, 1), 0x87654321L);
        PackedTable split = Prepared.counting(17);
        Check.same("18 five bits", split.packedWord(0, 0), 0xc5a928398a418820L);
        Check.same("18 code over two words", split.packedWord(0, 1), 0x107b9aL);
    }

    /** Every bit of every word by the formula of the document. */
    private static void promise18ByTheDocument() {
        for (int rows = 0; rows <= 60; rows++) {
            PackedTable table = Prepared.counting(rows);
            for (int extra = 0; extra < rows; extra++) {
                table.setValue(0, extra, 9000 - 37 * extra);
            }
            int width = table.bitWidth(0);
            for (int word = 0; word < table.wordCount(0); word++) {
                long due = 0;
                for (int bit = 0; bit < 64; bit++) {
                    int number = 64 * word + bit;
                    boolean isUsed = number < rows * width;
                    if (isUsed && (table.code(0, number / width) >> number % width & 1) == 1) {
                        due |= 1L << bit;
                    }
                }
                Check.same("18 word " + word + " of " + rows + " rows", table.packedWord(0, word), due);
            }
        }
    }

    private static void promise19() {
        PackedTable table = new PackedTable();
        Check.same("19 bits", table.packedBits(), 30);
        table.setValue(2, 0, 4);
        Check.same("19 one column wider", table.packedBits(), 36);
        table.removeRow(0);
        Check.same("19 one row less", table.packedBits(), 30);
        table.deleteSelected();
        Check.same("19 no rows", table.packedBits(), 0);
        Check.same("19 no width", Prepared.counting(1).packedBits(), 0);
    }

    private static void promise20() {
        PackedTable table = new PackedTable();
        Check.same("20 ratio", table.compressionRatio(), 288.0 / (30.0 + 16.0 * 8));
        table.setValue(0, 0, 6);
        Check.same("20 with an inserted value", table.compressionRatio(), 288.0 / (30.0 + 16.0 * 9));
        table.deleteSelected();
        Check.same("20 no rows", table.compressionRatio(), 0.0);
        Check.same("20 one value", Prepared.counting(1).compressionRatio(), 1.0);
        Check.same("20 equal values", Check.loaded("table 1;" + Check.repeat("1;", 60)).compressionRatio(), 60.0);
    }

    private static void promise21() {
        PackedTable table = new PackedTable();
        Check.same("21 column 0", table.runCount(0), 6);
        Check.same("21 column 1", table.runCount(1), 5);
        Check.same("21 column 2", table.runCount(2), 5);
        table.runsIfSorted(0);
        Check.same("21 after runsIfSorted", table.runCount(0), 6);
        table.deleteSelected();
        Check.same("21 no rows", table.runCount(0), 0);
        Check.same("21 one row", Prepared.counting(1).runCount(0), 1);
        Check.same("21 one run", Check.loaded("table 1;" + Check.repeat("1;", 60)).runCount(0), 1);
        Check.same("21 sixty runs", Prepared.counting(60).runCount(0), 60);
    }

    private static void promise22() {
        PackedTable table = new PackedTable();
        Check.same("22 column 0", table.longestRun(0), 1);
        Check.same("22 column 1", table.longestRun(1), 2);
        Check.same("22 at the end", Check.loaded("table 1;1;2;2;3;3;3;").longestRun(0), 3);
        Check.same("22 at the start", Check.loaded("table 1;3;3;3;2;3;3;").longestRun(0), 3);
        Check.same("22 in the middle", Check.loaded("table 1;1;0;0;0;1;1;").longestRun(0), 3);
        Check.same("22 zeros", Check.loaded("table 1;0;0;").longestRun(0), 2);
        table.deleteSelected();
        Check.same("22 no rows", table.longestRun(0), 0);
    }

    private static void promise23() {
        PackedTable table = new PackedTable();
        Check.same("23 column 0", table.isSorted(0), false);
        table.sort(0, true);
        Check.same("23 sorted", table.isSorted(0), true);
        Check.same("23 other column", table.isSorted(1), false);
        table.sort(0, false);
        Check.same("23 descending", table.isSorted(0), false);
        Check.same("23 equal", Check.loaded("table 1;4;4;4;").isSorted(0), true);
        Check.same("23 last is smaller", Check.loaded("table 1;4;5;4;").isSorted(0), false);
        Check.same("23 first is greater", Check.loaded("table 1;-4;-5;").isSorted(0), false);
        Check.same("23 one row", Prepared.counting(1).isSorted(0), true);
        Check.same("23 no rows", Prepared.counting(0).isSorted(0), true);
    }

    private static void noSuchColumn() {
        PackedTable table = new PackedTable();
        for (int column : NO_COLUMNS) {
            Check.outside("16 column " + column, () -> table.bitWidth(column));
            Check.outside("17 column " + column, () -> table.wordCount(column));
            Check.outside("18 column " + column, () -> table.packedWord(column, 0));
            Check.outside("21 column " + column, () -> table.runCount(column));
            Check.outside("22 column " + column, () -> table.longestRun(column));
            Check.outside("23 column " + column, () -> table.isSorted(column));
        }
    }
}
