import java.math.BigInteger;
import java.nio.charset.StandardCharsets;
import java.util.ArrayList;
import java.util.Collections;
import java.util.Comparator;
import java.util.List;
import java.util.TreeSet;

/** The calls of the document once more, written with the Java library and without a thought for cost. */
final class Reference {
    /** What can be undone; a condition is a column, a value and a direction. */
    private static final class State {
        private final int width;
        private final List<int[]> rows = new ArrayList<>();
        private final List<TreeSet<Integer>> dictionaries = new ArrayList<>();
        private final List<int[]> conditions = new ArrayList<>();

        State(int width) {
            this.width = width;
            for (int column = 0; column < width; column++) {
                dictionaries.add(new TreeSet<>());
            }
        }

        State(State other) {
            width = other.width;
            for (int[] row : other.rows) {
                rows.add(row.clone());
            }
            for (TreeSet<Integer> dictionary : other.dictionaries) {
                dictionaries.add(new TreeSet<>(dictionary));
            }
            conditions.addAll(other.conditions);
        }

        void add(int[] row) {
            rows.add(row.clone());
            for (int column = 0; column < width; column++) {
                dictionaries.get(column).add(row[column]);
            }
        }
    }

    private State state;
    private State snapshot;
    private final List<State> history = new ArrayList<>();
    private String buffer = "";
    private String output = "";
    private ReferenceParser.Failure failure;

    public Reference() {
        fill(ReferenceParser.table("table 3;5 -2 7;1 -2 7;5 0 3;9 -2 7;1 4 3;5 0 7;"));
    }

    private void fill(ReferenceParser.Table table) {
        state = new State(table.width);
        for (int[] row : table.rows) {
            state.add(row);
        }
    }

    public int appendText(int a, int b, int c, int d, int e) {
        if (buffer.length() > 680) {
            return -1;
        }
        StringBuilder text = new StringBuilder(buffer);
        for (int four : new int[] {a, b, c, d, e}) {
            text.append((char) (four >>> 24)).append((char) (four >>> 16 & 255));
            text.append((char) (four >>> 8 & 255)).append((char) (four & 255));
        }
        buffer = text.toString();
        return buffer.length();
    }

    private String textOf(int length) {
        if (length < 0 || length > buffer.length()) {
            throw new IllegalArgumentException();
        }
        return buffer.substring(0, length);
    }

    private void parsed(ReferenceParser.Failure found) {
        failure = found;
        buffer = "";
    }

    public int loadTable(int length) {
        ReferenceParser.Table table;
        String text = textOf(length);
        try {
            table = ReferenceParser.table(text);
        } catch (ReferenceParser.Failure found) {
            parsed(found);
            return -1;
        }
        parsed(null);
        fill(table);
        history.clear();
        snapshot = null;
        return state.rows.size();
    }

    public int errorCode() {
        return failure == null ? 0 : failure.code;
    }

    public int errorOffset() {
        return failure == null ? -1 : failure.offset;
    }

    private static void inside(int index, int size) {
        if (index < 0 || index >= size) {
            throw new IndexOutOfBoundsException();
        }
    }

    private static void inRange(int value) {
        if (value < -9999 || value > 9999) {
            throw new IllegalArgumentException();
        }
    }

    private List<Integer> dictionary(int column) {
        inside(column, state.width);
        return new ArrayList<>(state.dictionaries.get(column));
    }

    private List<Integer> values(int column) {
        inside(column, state.width);
        List<Integer> values = new ArrayList<>();
        for (int[] row : state.rows) {
            values.add(row[column]);
        }
        return values;
    }

    public int columnCount() {
        return state.width;
    }

    public int rowCount() {
        return state.rows.size();
    }

    public int value(int column, int row) {
        inside(column, state.width);
        inside(row, state.rows.size());
        return state.rows.get(row)[column];
    }

    public int code(int column, int row) {
        return dictionary(column).indexOf(value(column, row));
    }

    public int dictionarySize(int column) {
        return dictionary(column).size();
    }

    public int dictionaryValue(int column, int code) {
        inside(code, dictionary(column).size());
        return dictionary(column).get(code);
    }

    public int findCode(int column, int value) {
        return dictionary(column).indexOf(value);
    }

    public int staleCount(int column) {
        List<Integer> stale = dictionary(column);
        stale.removeAll(values(column));
        return stale.size();
    }

    public int frequency(int column, int code) {
        return Collections.frequency(values(column), dictionaryValue(column, code));
    }

    public int commonestCode(int column) {
        int best = -1;
        for (int code = 0; code < dictionarySize(column) && rowCount() > 0; code++) {
            if (best < 0 || frequency(column, code) > frequency(column, best)) {
                best = code;
            }
        }
        return best;
    }

    private static int width(int size) {
        return size < 2 ? 0 : 32 - Integer.numberOfLeadingZeros(size - 1);
    }

    public int bitWidth(int column) {
        return width(dictionarySize(column));
    }

    public int wordCount(int column) {
        return (int) Math.ceil(bitWidth(column) * rowCount() / 64.0);
    }

    public long packedWord(int column, int word) {
        inside(word, wordCount(column));
        BigInteger bits = BigInteger.ZERO;
        for (int row = rowCount() - 1; row >= 0; row--) {
            bits = bits.shiftLeft(bitWidth(column)).add(BigInteger.valueOf(code(column, row)));
        }
        return bits.shiftRight(64 * word).longValue();
    }

    public int packedBits() {
        int bits = 0;
        for (int column = 0; column < state.width; column++) {
            bits += bitWidth(column) * rowCount();
        }
        return bits;
    }

    public double compressionRatio() {
        double packed = packedBits();
        for (int column = 0; column < state.width; column++) {
            packed += 16 * dictionarySize(column);
        }
        return rowCount() == 0 ? 0 : 16 * state.width * rowCount() / packed;
    }

    private static List<Integer> runs(List<Integer> values) {
        List<Integer> lengths = new ArrayList<>();
        for (int place = 0; place < values.size(); place++) {
            if (place > 0 && values.get(place).equals(values.get(place - 1))) {
                lengths.add(lengths.remove(lengths.size() - 1) + 1);
            } else {
                lengths.add(1);
            }
        }
        return lengths;
    }

    public int runCount(int column) {
        return runs(values(column)).size();
    }

    public int longestRun(int column) {
        List<Integer> lengths = runs(values(column));
        return lengths.isEmpty() ? 0 : Collections.max(lengths);
    }

    public boolean isSorted(int column) {
        List<Integer> sorted = values(column);
        Collections.sort(sorted);
        return sorted.equals(values(column));
    }

    private int[] condition(int condition) {
        inside(condition, state.conditions.size());
        return state.conditions.get(condition);
    }

    private static boolean fulfills(int value, int[] condition) {
        return condition[2] < 0 ? value < condition[1] : condition[2] > 0 ? value > condition[1] : value == condition[1];
    }

    public int conditionCount() {
        return state.conditions.size();
    }

    public int conditionColumn(int condition) {
        return condition(condition)[0];
    }

    public int conditionValue(int condition) {
        return condition(condition)[1];
    }

    public int conditionDirection(int condition) {
        return condition(condition)[2];
    }

    private List<Integer> codeRange(int condition) {
        List<Integer> codes = new ArrayList<>();
        List<Integer> dictionary = dictionary(condition(condition)[0]);
        for (int code = 0; code < dictionary.size(); code++) {
            if (fulfills(dictionary.get(code), condition(condition))) {
                codes.add(code);
            }
        }
        return codes;
    }

    private int emptyEnd(int condition) {
        int[] parts = condition(condition);
        TreeSet<Integer> dictionary = state.dictionaries.get(parts[0]);
        return parts[2] > 0 ? dictionary.size() : dictionary.headSet(parts[1]).size();
    }

    public int lowerCode(int condition) {
        List<Integer> codes = codeRange(condition);
        return codes.isEmpty() ? emptyEnd(condition) : codes.get(0);
    }

    public int upperCode(int condition) {
        List<Integer> codes = codeRange(condition);
        return codes.isEmpty() ? emptyEnd(condition) : codes.get(codes.size() - 1) + 1;
    }

    public int matches(int condition) {
        int count = 0;
        for (int value : values(condition(condition)[0])) {
            count += fulfills(value, condition(condition)) ? 1 : 0;
        }
        return count;
    }

    public int strictestCondition() {
        int best = -1;
        for (int condition = conditionCount() - 1; condition >= 0; condition--) {
            best = best < 0 || matches(condition) <= matches(best) ? condition : best;
        }
        return best;
    }

    public boolean isSelected(int row) {
        return rejectedBy(row) == -1;
    }

    private List<Integer> selected() {
        List<Integer> rows = new ArrayList<>();
        for (int row = 0; row < rowCount(); row++) {
            if (isSelected(row)) {
                rows.add(row);
            }
        }
        return rows;
    }

    private List<Integer> selectedValues(int column) {
        List<Integer> values = new ArrayList<>();
        inside(column, state.width);
        for (int row : selected()) {
            values.add(value(column, row));
        }
        return values;
    }

    public int selectedCount() {
        return selected().size();
    }

    public int selectedRow(int place) {
        return place < 0 || place >= selectedCount() ? -1 : selected().get(place);
    }

    public int rejectedBy(int row) {
        inside(row, rowCount());
        for (int condition = 0; condition < conditionCount(); condition++) {
            if (!fulfills(value(condition(condition)[0], row), condition(condition))) {
                return condition;
            }
        }
        return -1;
    }

    public long sumSelected(int column) {
        return selectedValues(column).stream().mapToLong(value -> value).sum();
    }

    private List<Integer> someSelected(int column) {
        List<Integer> values = selectedValues(column);
        if (values.isEmpty()) {
            throw new IllegalStateException();
        }
        return values;
    }

    public int smallestSelected(int column) {
        return Collections.min(someSelected(column));
    }

    public int greatestSelected(int column) {
        return Collections.max(someSelected(column));
    }

    public int distinctSelected(int column) {
        return new TreeSet<>(selectedValues(column)).size();
    }

    public double meanSelected(int column) {
        List<Integer> values = selectedValues(column);
        return values.isEmpty() ? 0 : (double) sumSelected(column) / values.size();
    }

    public float selectivity() {
        return rowCount() == 0 ? 0 : (float) selectedCount() / rowCount();
    }

    public int bitWidthWith(int column, int value) {
        TreeSet<Integer> with = new TreeSet<>(dictionary(column));
        inRange(value);
        with.add(value);
        return width(with.size());
    }

    public int bitWidthCompacted(int column) {
        return width(new TreeSet<>(values(column)).size());
    }

    public int runsIfSorted(int column) {
        inside(column, state.width);
        State before = state;
        state = new State(before);
        order(column, true);
        int runs = 0;
        for (int other = 0; other < state.width; other++) {
            runs += runCount(other);
        }
        state = before;
        return runs;
    }

    public int bestSortColumn() {
        int best = 0;
        for (int column = 1; column < state.width; column++) {
            best = runsIfSorted(column) < runsIfSorted(best) ? column : best;
        }
        return best;
    }

    public int gap() {
        return 0;
    }

    private void changing() {
        history.add(new State(state));
        if (history.size() > 8) {
            history.remove(0);
        }
    }

    public int addRow(int length) {
        String text = textOf(length);
        if (rowCount() == 60) {
            throw new IllegalStateException();
        }
        int[] row;
        try {
            row = ReferenceParser.row(text, state.width);
        } catch (ReferenceParser.Failure found) {
            parsed(found);
            return -1;
        }
        parsed(null);
        changing();
        state.add(row);
        return rowCount() - 1;
    }

    public int removeRow(int row) {
        inside(row, rowCount());
        changing();
        state.rows.remove(row);
        return rowCount();
    }

    public int setValue(int column, int row, int value) {
        int before = value(column, row);
        inRange(value);
        changing();
        put(column, row, value);
        return before;
    }

    private void put(int column, int row, int value) {
        state.rows.get(row)[column] = value;
        state.dictionaries.get(column).add(value);
    }

    private void order(int column, boolean isAscending) {
        Comparator<int[]> ascending = Comparator.comparingInt(row -> row[column]);
        state.rows.sort(isAscending ? ascending : ascending.reversed());
    }

    public int sort(int column, boolean isAscending) {
        inside(column, state.width);
        changing();
        order(column, isAscending);
        return runCount(column);
    }

    public int addLess(int column, int value) {
        return restrict(column, value, -1);
    }

    public int addEqual(int column, int value) {
        return restrict(column, value, 0);
    }

    public int addGreater(int column, int value) {
        return restrict(column, value, 1);
    }

    private int restrict(int column, int value, int direction) {
        inside(column, state.width);
        inRange(value);
        if (conditionCount() == 8) {
            throw new IllegalStateException();
        }
        changing();
        state.conditions.add(new int[] {column, value, direction});
        return selectedCount();
    }

    public int removeCondition(int condition) {
        inside(condition, conditionCount());
        changing();
        state.conditions.remove(condition);
        return selectedCount();
    }

    public int deleteSelected() {
        changing();
        return dropSelected();
    }

    private int dropSelected() {
        List<Integer> rows = selected();
        Collections.reverse(rows);
        for (int row : rows) {
            state.rows.remove(row);
        }
        return rows.size();
    }

    public int compact(int column) {
        int stale = staleCount(column);
        changing();
        state.dictionaries.get(column).retainAll(values(column));
        return stale;
    }

    public int runScript(int length) {
        String text = textOf(length);
        List<ReferenceParser.Command> commands;
        try {
            commands = ReferenceParser.script(text, state.width);
        } catch (ReferenceParser.Failure found) {
            parsed(found);
            return -1;
        }
        parsed(null);
        List<State> before = new ArrayList<>(history);
        before.add(new State(state));
        int executed = 0;
        try {
            for (ReferenceParser.Command command : commands) {
                execute(command);
                executed++;
            }
        } catch (IndexOutOfBoundsException | IllegalStateException stop) {
            // The commands before the first that is impossible stay executed.
        }
        history.clear();
        history.addAll(before.subList(Math.max(0, before.size() - 8), before.size()));
        return executed;
    }

    private void execute(ReferenceParser.Command command) {
        switch (command.word) {
            case "row" -> {
                if (rowCount() == 60) {
                    throw new IllegalStateException();
                }
                state.add(command.row);
            }
            case "set" -> setValue(command.column, command.number, command.value);
            case "sort" -> sort(command.column, !command.isDown);
            case "less" -> addLess(command.column, command.value);
            case "equal" -> addEqual(command.column, command.value);
            case "greater" -> addGreater(command.column, command.value);
            case "drop" -> removeCondition(command.number);
            case "delete" -> deleteSelected();
            default -> compact(command.column);
        }
    }

    public int writeRow(int row) {
        inside(row, rowCount());
        StringBuilder text = new StringBuilder();
        for (int value : state.rows.get(row)) {
            text.append(text.length() == 0 ? "" : " ").append(value);
        }
        output = text.append(isSelected(row) ? "*" : "").toString();
        return output.length();
    }

    public int outputByte(int index) {
        inside(index, output.length());
        return output.getBytes(StandardCharsets.US_ASCII)[index];
    }

    public int undoableCount() {
        return history.size();
    }

    public int undo() {
        if (history.isEmpty()) {
            throw new IllegalStateException();
        }
        state = history.remove(history.size() - 1);
        return history.size();
    }

    public void saveSnapshot() {
        snapshot = new State(state);
    }

    public int restoreSnapshot() {
        if (snapshot == null) {
            throw new IllegalStateException();
        }
        state = new State(snapshot);
        history.clear();
        return rowCount();
    }
}
