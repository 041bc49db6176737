/** All that can be seen of an object. Looking changes it, so that each object can be looked at once only. */
final class Fingerprint {
    private static final int BLANKS = 0x20202020;

    private Fingerprint() {
    }

    static String of(PackedTable table) {
        StringBuilder text = new StringBuilder(Check.state(table));
        text.append("\nerror ").append(table.errorCode()).append(" at ").append(table.errorOffset());
        text.append("\noutput ").append(output(table));
        text.append("\nbefore").append(earlierStates(table));
        text.append("\nsnapshot ").append(snapshot(table));
        return text.append("\nbuffer ").append(buffer(table)).toString();
    }

    private static String output(PackedTable table) {
        StringBuilder text = new StringBuilder();
        for (int index = 0; index < 100; index++) {
            try {
                text.append((char) table.outputByte(index));
            } catch (IndexOutOfBoundsException e) {
                return text.toString();
            }
        }
        return text.toString();
    }

    private static String earlierStates(PackedTable table) {
        StringBuilder text = new StringBuilder();
        for (int count = table.undoableCount(); count > 0; count--) {
            text.append("\n  ").append(count).append(' ').append(table.undo()).append(' ').append(Check.state(table));
        }
        return text.toString();
    }

    private static String snapshot(PackedTable table) {
        try {
            return table.restoreSnapshot() + " " + Check.state(table);
        } catch (IllegalStateException e) {
            return "none";
        }
    }

    private static String buffer(PackedTable table) {
        int size = table.appendText(BLANKS, BLANKS, BLANKS, BLANKS, BLANKS);
        int rows = table.loadTable(size < 0 ? 700 : size);
        return size + " " + rows + " " + table.errorCode() + " " + table.errorOffset() + " " + Check.state(table);
    }
}
