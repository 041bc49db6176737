import java.util.Arrays;

/** A column store for small tables of integers. */
public final class PackedTable {
    private static final int MAX_COLUMNS = 6;
    private static final int MAX_ROWS = 60;
    private static final int MAX_VALUE = 9999;
    private static final int MAX_CONDITIONS = 8;
    private static final int MAX_COMMANDS = 20;
    private static final int MAX_CHANGES = 8;
    private static final int MAX_INPUT = 700;
    private static final int APPENDED_BYTES = 20;
    // Six values of at most five characters, a space between each two, and the asterisk.
    private static final int MAX_OUTPUT = 36;
    private static final int WORD_BITS = 64;
    private static final int PLAIN_BITS = 16;

    private static final int BELOW = -1;
    private static final int SAME = 0;
    private static final int ABOVE = 1;

    private static final int NOT_ALLOWED = 1;
    private static final int OUT_OF_RANGE = 2;
    private static final int TOO_MANY = 3;

    private static final int FIRST_COLUMNS = 3;
    private static final int FIRST_ROWS = 6;
    private static final int[] FIRST_CELLS = {
        5, -2, 7,
        1, -2, 7,
        5, 0, 3,
        9, -2, 7,
        1, 4, 3,
        5, 0, 7
    };

    private final Store store = new Store();
    private final Store snapshot = new Store();
    private boolean hasSnapshot;
    private final History history = new History();
    private final Input input = new Input();
    private final Parser parser = new Parser(input);
    private final byte[] output = new byte[MAX_OUTPUT];
    private int outputLength;
    // What follows is room to work in, made once; it holds nothing between two calls.
    private final RowOrder order = new RowOrder();
    private final Dictionary seen = new Dictionary();
    private final Packer packer = new Packer();

    public PackedTable() {
        store.replace(FIRST_COLUMNS, FIRST_ROWS, FIRST_CELLS);
    }

    // ---- input and parse errors

    public int appendText(int a, int b, int c, int d, int e) {
        if (input.size() + APPENDED_BYTES > MAX_INPUT) {
            return -1;
        }
        input.append(a);
        input.append(b);
        input.append(c);
        input.append(d);
        input.append(e);
        return input.size();
    }

    public int loadTable(int length) throws IllegalArgumentException {
        checkLength(length);
        boolean isGood = parser.readTable(length);
        input.clear();
        if (!isGood) {
            return -1;
        }
        store.replace(parser.columns(), parser.rows(), parser.cells());
        history.clear();
        hasSnapshot = false;
        return store.rows();
    }

    public int errorCode() {
        return parser.error();
    }

    public int errorOffset() {
        return parser.offset();
    }

    // ---- values and dictionaries

    public int columnCount() {
        return store.columns();
    }

    public int rowCount() {
        return store.rows();
    }

    public int value(int column, int row) throws IndexOutOfBoundsException {
        checkColumn(column);
        checkRow(row);
        return store.column(column).valueAt(row);
    }

    public int code(int column, int row) throws IndexOutOfBoundsException {
        checkColumn(column);
        checkRow(row);
        return store.column(column).codeAt(row);
    }

    public int dictionarySize(int column) throws IndexOutOfBoundsException {
        checkColumn(column);
        return store.dictionary(column).size();
    }

    public int dictionaryValue(int column, int code) throws IndexOutOfBoundsException {
        checkColumn(column);
        checkCode(column, code);
        return store.dictionary(column).entry(code);
    }

    public int findCode(int column, int value) throws IndexOutOfBoundsException {
        checkColumn(column);
        return store.dictionary(column).find(value);
    }

    public int staleCount(int column) throws IndexOutOfBoundsException {
        checkColumn(column);
        store.column(column).collectInto(seen);
        return store.dictionary(column).size() - seen.size();
    }

    public int frequency(int column, int code) throws IndexOutOfBoundsException {
        checkColumn(column);
        checkCode(column, code);
        return store.column(column).occurrences(store.dictionary(column).entry(code));
    }

    public int commonestCode(int column) throws IndexOutOfBoundsException {
        checkColumn(column);
        return store.column(column).commonest();
    }

    // ---- packing and runs

    public int bitWidth(int column) throws IndexOutOfBoundsException {
        checkColumn(column);
        return store.dictionary(column).width();
    }

    public int wordCount(int column) throws IndexOutOfBoundsException {
        checkColumn(column);
        return wordsOf(column);
    }

    public long packedWord(int column, int word) throws IndexOutOfBoundsException {
        checkColumn(column);
        if (word < 0 || word >= wordsOf(column)) {
            throw new IndexOutOfBoundsException("no such word");
        }
        packer.pack(store.column(column));
        return packer.word(word);
    }

    public int packedBits() {
        int widths = 0;
        for (int column = 0; column < store.columns(); column++) {
            widths += store.dictionary(column).width();
        }
        return widths * store.rows();
    }

    public double compressionRatio() {
        if (store.rows() == 0) {
            return 0.0;
        }
        int entries = 0;
        for (int column = 0; column < store.columns(); column++) {
            entries += store.dictionary(column).size();
        }
        int plain = PLAIN_BITS * store.columns() * store.rows();
        int packed = packedBits() + PLAIN_BITS * entries;
        return packed > 0 ? (double) plain / (double) packed : 0.0;
    }

    public int runCount(int column) throws IndexOutOfBoundsException {
        checkColumn(column);
        order.reset(store.rows());
        return store.column(column).runsIn(order);
    }

    public int longestRun(int column) throws IndexOutOfBoundsException {
        checkColumn(column);
        return store.column(column).greatestRun();
    }

    public boolean isSorted(int column) throws IndexOutOfBoundsException {
        checkColumn(column);
        return store.column(column).isAscending();
    }

    // ---- the filter

    public int conditionCount() {
        return store.filter().size();
    }

    public int conditionColumn(int condition) throws IndexOutOfBoundsException {
        checkCondition(condition);
        return store.filter().columnOf(condition);
    }

    public int conditionValue(int condition) throws IndexOutOfBoundsException {
        checkCondition(condition);
        return store.filter().valueOf(condition);
    }

    public int conditionDirection(int condition) throws IndexOutOfBoundsException {
        checkCondition(condition);
        return store.filter().directionOf(condition);
    }

    public int lowerCode(int condition) throws IndexOutOfBoundsException {
        checkCondition(condition);
        return store.lowerEnd(condition);
    }

    public int upperCode(int condition) throws IndexOutOfBoundsException {
        checkCondition(condition);
        return store.upperEnd(condition);
    }

    public int matches(int condition) throws IndexOutOfBoundsException {
        checkCondition(condition);
        return store.rowsFulfilling(condition);
    }

    public int strictestCondition() {
        int strictest = -1;
        int fewest = MAX_ROWS + 1;
        for (int condition = 0; condition < store.filter().size(); condition++) {
            int rows = store.rowsFulfilling(condition);
            if (rows < fewest) {
                strictest = condition;
                fewest = rows;
            }
        }
        return strictest;
    }

    public boolean isSelected(int row) throws IndexOutOfBoundsException {
        checkRow(row);
        return store.selects(row);
    }

    public int selectedCount() {
        return store.selectedRows();
    }

    public int selectedRow(int place) {
        int found = 0;
        for (int row = 0; row < store.rows(); row++) {
            if (store.selects(row)) {
                if (found == place) {
                    return row;
                }
                found++;
            }
        }
        return -1;
    }

    public int rejectedBy(int row) throws IndexOutOfBoundsException {
        checkRow(row);
        return store.firstRejecting(row);
    }

    public long sumSelected(int column) throws IndexOutOfBoundsException {
        checkColumn(column);
        return sumOfSelected(column);
    }

    public int smallestSelected(int column) throws IndexOutOfBoundsException, IllegalStateException {
        checkColumn(column);
        collectSelected(column);
        checkAnySeen();
        return seen.entry(0);
    }

    public int greatestSelected(int column) throws IndexOutOfBoundsException, IllegalStateException {
        checkColumn(column);
        collectSelected(column);
        checkAnySeen();
        return seen.entry(seen.size() - 1);
    }

    public int distinctSelected(int column) throws IndexOutOfBoundsException {
        checkColumn(column);
        collectSelected(column);
        return seen.size();
    }

    public double meanSelected(int column) throws IndexOutOfBoundsException {
        checkColumn(column);
        int count = store.selectedRows();
        return count > 0 ? (double) sumOfSelected(column) / (double) count : 0.0;
    }

    public float selectivity() {
        int rows = store.rows();
        return rows > 0 ? (float) store.selectedRows() / (float) rows : 0.0f;
    }

    // ---- what would be, and checks

    public int bitWidthWith(int column, int value) throws IndexOutOfBoundsException, IllegalArgumentException {
        checkColumn(column);
        checkValue(value);
        Dictionary dictionary = store.dictionary(column);
        return Dictionary.widthFor(dictionary.holds(value) ? dictionary.size() : dictionary.size() + 1);
    }

    public int bitWidthCompacted(int column) throws IndexOutOfBoundsException {
        checkColumn(column);
        store.column(column).collectInto(seen);
        return seen.width();
    }

    public int runsIfSorted(int column) throws IndexOutOfBoundsException {
        checkColumn(column);
        return runsAfterSorting(column);
    }

    public int bestSortColumn() {
        int best = 0;
        int fewest = runsAfterSorting(0);
        for (int column = 1; column < store.columns(); column++) {
            int runs = runsAfterSorting(column);
            if (runs < fewest) {
                best = column;
                fewest = runs;
            }
        }
        return best;
    }

    public int gap() {
        int differences = 0;
        for (int row = 0; row < store.rows(); row++) {
            if (store.selects(row) != store.selectsByCode(row)) {
                differences++;
            }
        }
        for (int column = 0; column < store.columns(); column++) {
            differences += packingDifferences(store.column(column));
        }
        return differences;
    }

    // ---- changes

    public int addRow(int length) throws IllegalArgumentException, IllegalStateException {
        checkLength(length);
        if (store.isFull()) {
            throw new IllegalStateException("60 rows");
        }
        boolean isGood = parser.readRow(length, store.columns());
        input.clear();
        if (!isGood) {
            return -1;
        }
        history.record(store);
        store.appendRow(parser.cells(), 0);
        return store.rows() - 1;
    }

    public int removeRow(int row) throws IndexOutOfBoundsException {
        checkRow(row);
        history.record(store);
        store.deleteRow(row);
        return store.rows();
    }

    public int setValue(int column, int row, int value) throws IndexOutOfBoundsException, IllegalArgumentException {
        checkColumn(column);
        checkRow(row);
        checkValue(value);
        int before = store.column(column).valueAt(row);
        history.record(store);
        store.column(column).put(row, value);
        return before;
    }

    public int sort(int column, boolean isAscending) throws IndexOutOfBoundsException {
        checkColumn(column);
        history.record(store);
        sortRows(column, isAscending);
        order.reset(store.rows());
        return store.column(column).runsIn(order);
    }

    public int addLess(int column, int value)
            throws IndexOutOfBoundsException, IllegalArgumentException, IllegalStateException {
        return addCondition(column, value, BELOW);
    }

    public int addEqual(int column, int value)
            throws IndexOutOfBoundsException, IllegalArgumentException, IllegalStateException {
        return addCondition(column, value, SAME);
    }

    public int addGreater(int column, int value)
            throws IndexOutOfBoundsException, IllegalArgumentException, IllegalStateException {
        return addCondition(column, value, ABOVE);
    }

    public int removeCondition(int condition) throws IndexOutOfBoundsException {
        checkCondition(condition);
        history.record(store);
        store.filter().remove(condition);
        return store.selectedRows();
    }

    public int deleteSelected() {
        history.record(store);
        return store.deleteSelectedRows();
    }

    public int compact(int column) throws IndexOutOfBoundsException {
        checkColumn(column);
        history.record(store);
        int before = store.dictionary(column).size();
        store.column(column).dropStale();
        return before - store.dictionary(column).size();
    }

    public int runScript(int length) throws IllegalArgumentException {
        checkLength(length);
        boolean isGood = parser.readScript(length, store.columns());
        input.clear();
        if (!isGood) {
            return -1;
        }
        history.record(store);
        int executed = 0;
        while (executed < parser.commandCount() && isPossible(parser.command(executed))) {
            execute(parser.command(executed));
            executed++;
        }
        return executed;
    }

    // ---- output and history

    public int writeRow(int row) throws IndexOutOfBoundsException {
        checkRow(row);
        outputLength = 0;
        for (int column = 0; column < store.columns(); column++) {
            if (column > 0) {
                putByte(' ');
            }
            putNumber(store.column(column).valueAt(row));
        }
        if (store.selects(row)) {
            putByte('*');
        }
        return outputLength;
    }

    public int outputByte(int index) throws IndexOutOfBoundsException {
        if (index < 0 || index >= outputLength) {
            throw new IndexOutOfBoundsException("no such byte");
        }
        return output[index];
    }

    public int undoableCount() {
        return history.size();
    }

    public int undo() throws IllegalStateException {
        if (history.size() == 0) {
            throw new IllegalStateException("nothing to undo");
        }
        history.takeBack(store);
        return history.size();
    }

    public void saveSnapshot() {
        snapshot.copyFrom(store);
        hasSnapshot = true;
    }

    public int restoreSnapshot() throws IllegalStateException {
        if (!hasSnapshot) {
            throw new IllegalStateException("no snapshot");
        }
        store.copyFrom(snapshot);
        history.clear();
        return store.rows();
    }

    // ---- checks of arguments

    private void checkLength(int length) {
        if (length < 0 || length > input.size()) {
            throw new IllegalArgumentException("no such length");
        }
    }

    private void checkColumn(int column) {
        if (column < 0 || column >= store.columns()) {
            throw new IndexOutOfBoundsException("no such column");
        }
    }

    private void checkRow(int row) {
        if (!store.hasRow(row)) {
            throw new IndexOutOfBoundsException("no such row");
        }
    }

    private void checkCode(int column, int code) {
        if (code < 0 || code >= store.dictionary(column).size()) {
            throw new IndexOutOfBoundsException("no such code");
        }
    }

    private void checkCondition(int condition) {
        if (!store.filter().has(condition)) {
            throw new IndexOutOfBoundsException("no such condition");
        }
    }

    private void checkValue(int value) {
        if (value < -MAX_VALUE || value > MAX_VALUE) {
            throw new IllegalArgumentException("value out of range");
        }
    }

    private void checkAnySeen() {
        if (seen.size() == 0) {
            throw new IllegalStateException("no row is selected");
        }
    }

    // ---- parts of the calls above

    private int wordsOf(int column) {
        return (store.rows() * store.dictionary(column).width() + WORD_BITS - 1) / WORD_BITS;
    }

    private long sumOfSelected(int column) {
        long sum = 0;
        for (int row = 0; row < store.rows(); row++) {
            if (store.selects(row)) {
                sum += store.column(column).valueAt(row);
            }
        }
        return sum;
    }

    private void collectSelected(int column) {
        seen.clear();
        for (int row = 0; row < store.rows(); row++) {
            if (store.selects(row)) {
                seen.insert(store.column(column).valueAt(row));
            }
        }
    }

    private int runsAfterSorting(int column) {
        order.sortBy(store.column(column), true);
        int runs = 0;
        for (int other = 0; other < store.columns(); other++) {
            runs += store.column(other).runsIn(order);
        }
        return runs;
    }

    private int packingDifferences(Column column) {
        packer.pack(column);
        int differences = 0;
        for (int row = 0; row < column.length(); row++) {
            int code = packer.unpack(row);
            if (code >= column.dictionary().size() || column.dictionary().entry(code) != column.valueAt(row)) {
                differences++;
            }
        }
        return differences;
    }

    private int addCondition(int column, int value, int direction) {
        checkColumn(column);
        checkValue(value);
        if (store.filter().isFull()) {
            throw new IllegalStateException("8 conditions");
        }
        history.record(store);
        store.filter().add(column, value, direction);
        return store.selectedRows();
    }

    private void sortRows(int column, boolean isAscending) {
        order.sortBy(store.column(column), isAscending);
        store.reorder(order);
    }

    /** Whether the call that the command stands for would not throw; the parser has checked the rest. */
    private boolean isPossible(Command command) {
        switch (command.kind) {
            case ROW:
                return !store.isFull();
            case SET:
                return store.hasRow(command.number);
            case LESS:
            case EQUAL:
            case GREATER:
                return !store.filter().isFull();
            case DROP:
                return store.filter().has(command.number);
            default:
                return true;
        }
    }

    private void execute(Command command) {
        switch (command.kind) {
            case ROW:
                store.appendRow(command.cells, 0);
                break;
            case SET:
                store.column(command.column).put(command.number, command.value);
                break;
            case SORT:
                sortRows(command.column, !command.isDown);
                break;
            case LESS:
                store.filter().add(command.column, command.value, BELOW);
                break;
            case EQUAL:
                store.filter().add(command.column, command.value, SAME);
                break;
            case GREATER:
                store.filter().add(command.column, command.value, ABOVE);
                break;
            case DROP:
                store.filter().remove(command.number);
                break;
            case DELETE:
                store.deleteSelectedRows();
                break;
            case COMPACT:
                store.column(command.column).dropStale();
                break;
            default:
                break;
        }
    }

    private void putNumber(int number) {
        int rest = number;
        if (rest < 0) {
            putByte('-');
            rest = -rest;
        }
        int unit = 1;
        while (unit <= rest / 10) {
            unit *= 10;
        }
        while (unit > 0) {
            putByte('0' + (rest / unit) % 10);
            unit /= 10;
        }
    }

    private void putByte(int sign) {
        if (outputLength < output.length) {
            output[outputLength] = (byte) sign;
            outputLength++;
        }
    }

    /** Different values in ascending order. */
    private static final class Dictionary {
        private static final int FIRST_CAPACITY = 16;

        private int[] entries = new int[FIRST_CAPACITY];
        private int size;

        static int widthFor(int size) {
            int width = 0;
            while (width < 31 && 1L << width < size) {
                width++;
            }
            return width;
        }

        int size() {
            return size;
        }

        int width() {
            return widthFor(size);
        }

        int entry(int code) {
            return entries[code];
        }

        /** The number of entries that are less than the value. */
        int countBelow(int value) {
            int low = 0;
            int high = size;
            while (low < high) {
                int middle = (low + high) / 2;
                if (entries[middle] < value) {
                    low = middle + 1;
                } else {
                    high = middle;
                }
            }
            return low;
        }

        boolean holds(int value) {
            return find(value) >= 0;
        }

        int find(int value) {
            int place = countBelow(value);
            return place < size && entries[place] == value ? place : -1;
        }

        void insert(int value) {
            int place = countBelow(value);
            if (place < size && entries[place] == value) {
                return;
            }
            if (size == entries.length) {
                entries = Arrays.copyOf(entries, 2 * size);
            }
            System.arraycopy(entries, place, entries, place + 1, size - place);
            entries[place] = value;
            size++;
        }

        void clear() {
            size = 0;
        }

        void copyFrom(Dictionary other) {
            if (entries.length < other.size) {
                entries = new int[other.entries.length];
            }
            System.arraycopy(other.entries, 0, entries, 0, other.size);
            size = other.size;
        }
    }

    /** The values of a column, whose length is the number of rows, and its dictionary. */
    private static final class Column {
        private final int[] values = new int[MAX_ROWS];
        private final Dictionary dictionary = new Dictionary();
        private int length;

        int length() {
            return length;
        }

        Dictionary dictionary() {
            return dictionary;
        }

        int valueAt(int row) {
            return values[row];
        }

        int codeAt(int row) {
            return dictionary.find(values[row]);
        }

        void clear() {
            length = 0;
            dictionary.clear();
        }

        void append(int value) {
            if (length < MAX_ROWS) {
                values[length] = value;
                length++;
                dictionary.insert(value);
            }
        }

        void put(int row, int value) {
            values[row] = value;
            dictionary.insert(value);
        }

        void move(int from, int to) {
            values[to] = values[from];
        }

        void shorten(int newLength) {
            length = newLength;
        }

        void reorder(RowOrder order) {
            order.applyTo(values);
        }

        void collectInto(Dictionary target) {
            target.clear();
            for (int row = 0; row < length; row++) {
                target.insert(values[row]);
            }
        }

        void dropStale() {
            collectInto(dictionary);
        }

        int occurrences(int value) {
            int count = 0;
            for (int row = 0; row < length; row++) {
                if (values[row] == value) {
                    count++;
                }
            }
            return count;
        }

        /** The code with the most rows, the smallest of several; -1 without rows. */
        int commonest() {
            int most = 0;
            int best = 0;
            for (int row = 0; row < length; row++) {
                int count = occurrences(values[row]);
                if (count > most || (count == most && values[row] < best)) {
                    most = count;
                    best = values[row];
                }
            }
            return most > 0 ? dictionary.find(best) : -1;
        }

        int runsIn(RowOrder order) {
            int runs = 0;
            for (int place = 0; place < length; place++) {
                if (place == 0 || values[order.source(place)] != values[order.source(place - 1)]) {
                    runs++;
                }
            }
            return runs;
        }

        int greatestRun() {
            int greatest = 0;
            int current = 0;
            for (int row = 0; row < length; row++) {
                boolean goesOn = row > 0 && values[row] == values[row - 1];
                current = goesOn ? current + 1 : 1;
                greatest = Math.max(greatest, current);
            }
            return greatest;
        }

        boolean isAscending() {
            for (int row = 1; row < length; row++) {
                if (values[row] < values[row - 1]) {
                    return false;
                }
            }
            return true;
        }

        void copyFrom(Column other) {
            System.arraycopy(other.values, 0, values, 0, other.length);
            length = other.length;
            dictionary.copyFrom(other.dictionary);
        }
    }

    /** An order of rows: which row comes from where. */
    private static final class RowOrder {
        private final int[] sources = new int[MAX_ROWS];
        private final int[] moved = new int[MAX_ROWS];
        private int length;

        void reset(int rows) {
            length = rows;
            for (int place = 0; place < length; place++) {
                sources[place] = place;
            }
        }

        /** Insertion keeps the order of equal values in both directions. */
        void sortBy(Column column, boolean isAscending) {
            reset(column.length());
            for (int place = 1; place < length; place++) {
                int source = sources[place];
                int value = column.valueAt(source);
                int hole = place;
                while (hole > 0 && isWrong(column.valueAt(sources[hole - 1]), value, isAscending)) {
                    sources[hole] = sources[hole - 1];
                    hole--;
                }
                sources[hole] = source;
            }
        }

        private static boolean isWrong(int first, int second, boolean isAscending) {
            return isAscending ? first > second : first < second;
        }

        int source(int place) {
            return sources[place];
        }

        void applyTo(int[] values) {
            for (int place = 0; place < length; place++) {
                moved[place] = values[sources[place]];
            }
            System.arraycopy(moved, 0, values, 0, length);
        }
    }

    /** A list of conditions. */
    private static final class Filter {
        private final int[] columns = new int[MAX_CONDITIONS];
        private final int[] values = new int[MAX_CONDITIONS];
        private final int[] directions = new int[MAX_CONDITIONS];
        private int size;

        int size() {
            return size;
        }

        boolean isFull() {
            return size == MAX_CONDITIONS;
        }

        boolean has(int condition) {
            return condition >= 0 && condition < size;
        }

        int columnOf(int condition) {
            return columns[condition];
        }

        int valueOf(int condition) {
            return values[condition];
        }

        int directionOf(int condition) {
            return directions[condition];
        }

        boolean allows(int condition, int value) {
            return Integer.signum(value - values[condition]) == directions[condition];
        }

        void add(int column, int value, int direction) {
            if (size < MAX_CONDITIONS) {
                columns[size] = column;
                values[size] = value;
                directions[size] = direction;
                size++;
            }
        }

        void remove(int condition) {
            for (int next = condition + 1; next < size; next++) {
                columns[next - 1] = columns[next];
                values[next - 1] = values[next];
                directions[next - 1] = directions[next];
            }
            size--;
        }

        void clear() {
            size = 0;
        }

        void copyFrom(Filter other) {
            size = other.size;
            System.arraycopy(other.columns, 0, columns, 0, size);
            System.arraycopy(other.values, 0, values, 0, size);
            System.arraycopy(other.directions, 0, directions, 0, size);
        }
    }

    /** What a change changes: the table with its dictionaries, and the filter. */
    private static final class Store {
        private final Column[] table = new Column[MAX_COLUMNS];
        private int columns = 1;
        private final Filter filter = new Filter();

        Store() {
            for (int column = 0; column < MAX_COLUMNS; column++) {
                table[column] = new Column();
            }
        }

        int columns() {
            return columns;
        }

        int rows() {
            return table[0].length();
        }

        Column column(int column) {
            return table[column];
        }

        Dictionary dictionary(int column) {
            return table[column].dictionary();
        }

        Filter filter() {
            return filter;
        }

        boolean isFull() {
            return rows() >= MAX_ROWS;
        }

        boolean hasRow(int row) {
            return row >= 0 && row < rows();
        }

        /** The cells stand row by row. */
        void replace(int newColumns, int newRows, int[] cells) {
            columns = newColumns;
            filter.clear();
            for (int column = 0; column < columns; column++) {
                table[column].clear();
            }
            for (int row = 0; row < newRows; row++) {
                appendRow(cells, row * columns);
            }
        }

        void appendRow(int[] cells, int first) {
            for (int column = 0; column < columns; column++) {
                table[column].append(cells[first + column]);
            }
        }

        void deleteRow(int row) {
            for (int next = row + 1; next < rows(); next++) {
                moveRow(next, next - 1);
            }
            shorten(rows() - 1);
        }

        int deleteSelectedRows() {
            int kept = 0;
            for (int row = 0; row < rows(); row++) {
                if (!selects(row)) {
                    moveRow(row, kept);
                    kept++;
                }
            }
            int removed = rows() - kept;
            shorten(kept);
            return removed;
        }

        private void moveRow(int from, int to) {
            for (int column = 0; column < columns; column++) {
                table[column].move(from, to);
            }
        }

        private void shorten(int newRows) {
            for (int column = 0; column < columns; column++) {
                table[column].shorten(newRows);
            }
        }

        void reorder(RowOrder order) {
            for (int column = 0; column < columns; column++) {
                table[column].reorder(order);
            }
        }

        private boolean fulfills(int row, int condition) {
            return filter.allows(condition, table[filter.columnOf(condition)].valueAt(row));
        }

        int rowsFulfilling(int condition) {
            int count = 0;
            for (int row = 0; row < rows(); row++) {
                if (fulfills(row, condition)) {
                    count++;
                }
            }
            return count;
        }

        /** The first condition that the row does not fulfill; -1 if there is none. */
        int firstRejecting(int row) {
            for (int condition = 0; condition < filter.size(); condition++) {
                if (!fulfills(row, condition)) {
                    return condition;
                }
            }
            return -1;
        }

        boolean selects(int row) {
            return firstRejecting(row) < 0;
        }

        int selectedRows() {
            int count = 0;
            for (int row = 0; row < rows(); row++) {
                if (selects(row)) {
                    count++;
                }
            }
            return count;
        }

        int lowerEnd(int condition) {
            Dictionary dictionary = dictionary(filter.columnOf(condition));
            int value = filter.valueOf(condition);
            switch (filter.directionOf(condition)) {
                case BELOW:
                    return 0;
                case ABOVE:
                    return dictionary.countBelow(value + 1);
                default:
                    return dictionary.countBelow(value);
            }
        }

        int upperEnd(int condition) {
            Dictionary dictionary = dictionary(filter.columnOf(condition));
            int value = filter.valueOf(condition);
            switch (filter.directionOf(condition)) {
                case BELOW:
                    return dictionary.countBelow(value);
                case ABOVE:
                    return dictionary.size();
                default:
                    return dictionary.countBelow(value + 1);
            }
        }

        /** The same as selects, but told from the codes and the code ranges alone. */
        boolean selectsByCode(int row) {
            for (int condition = 0; condition < filter.size(); condition++) {
                int code = table[filter.columnOf(condition)].codeAt(row);
                if (code < lowerEnd(condition) || code >= upperEnd(condition)) {
                    return false;
                }
            }
            return true;
        }

        void copyFrom(Store other) {
            columns = other.columns;
            for (int column = 0; column < columns; column++) {
                table[column].copyFrom(other.table[column]);
            }
            filter.copyFrom(other.filter);
        }
    }

    /** The stores before the latest changes, in a ring whose places are used again. */
    private static final class History {
        private final Store[] ring = new Store[MAX_CHANGES];
        private int next;
        private int size;

        History() {
            for (int place = 0; place < MAX_CHANGES; place++) {
                ring[place] = new Store();
            }
        }

        int size() {
            return size;
        }

        void clear() {
            size = 0;
        }

        void record(Store store) {
            ring[next].copyFrom(store);
            next = (next + 1) % MAX_CHANGES;
            size = Math.min(size + 1, MAX_CHANGES);
        }

        void takeBack(Store store) {
            next = (next + MAX_CHANGES - 1) % MAX_CHANGES;
            size--;
            store.copyFrom(ring[next]);
        }
    }

    /** The words of one packed column. */
    private static final class Packer {
        // A dictionary has at most 19999 values, so that a code has at most 15 bits: 900 bits in 60 rows.
        private static final int MAX_WORDS = 15;

        private final long[] words = new long[MAX_WORDS];
        private int width;

        void pack(Column column) {
            Arrays.fill(words, 0);
            width = column.dictionary().width();
            for (int row = 0; row < column.length(); row++) {
                packCode(row, column.codeAt(row));
            }
        }

        private void packCode(int row, long code) {
            int bit = row * width;
            int word = bit / WORD_BITS;
            int shift = bit % WORD_BITS;
            if (word < MAX_WORDS) {
                words[word] |= code << shift;
            }
            if (shift + width > WORD_BITS && word + 1 < MAX_WORDS) {
                words[word + 1] |= code >>> (WORD_BITS - shift);
            }
        }

        int unpack(int row) {
            int code = 0;
            for (int place = 0; place < width; place++) {
                int bit = row * width + place;
                int word = bit / WORD_BITS;
                if (word < MAX_WORDS && ((words[word] >>> (bit % WORD_BITS)) & 1) == 1) {
                    code |= 1 << place;
                }
            }
            return code;
        }

        long word(int index) {
            return words[index];
        }
    }

    /** The input buffer, and the token that the parser looks at. */
    private static final class Input {
        private static final int END = 0;
        private static final int BLANK = 1;
        private static final int WORD = 2;
        private static final int NUMBER = 3;
        private static final int SEMICOLON = 4;
        private static final int MINUS = 5;
        private static final int INVALID = 6;
        // A number from here on is out of every range, however many digits follow.
        private static final int HUGE = 100000;

        private final byte[] bytes = new byte[MAX_INPUT];
        private int size;
        private int textLength;
        private int kind;
        private int start;
        private int end;
        private int number;

        int size() {
            return size;
        }

        void append(int four) {
            for (int shift = 24; shift >= 0 && size < MAX_INPUT; shift -= 8) {
                bytes[size] = (byte) (four >> shift);
                size++;
            }
        }

        void clear() {
            size = 0;
        }

        void startText(int length) {
            textLength = Math.min(length, size);
            end = 0;
            next();
        }

        void next() {
            while (end < textLength && kindAt(end) == BLANK) {
                end++;
            }
            start = end;
            kind = kindAt(start);
            number = 0;
            boolean isRun = kind == WORD || kind == NUMBER;
            int furthest = isRun ? textLength : Math.min(start + 1, textLength);
            while (end < furthest && kindAt(end) == kind) {
                if (kind == NUMBER && number < HUGE) {
                    number = 10 * number + bytes[end] - '0';
                }
                end++;
            }
        }

        private int kindAt(int place) {
            if (place >= textLength) {
                return END;
            }
            int sign = bytes[place];
            if (sign >= 'a' && sign <= 'z') {
                return WORD;
            }
            if (sign >= '0' && sign <= '9') {
                return NUMBER;
            }
            switch (sign) {
                case ' ':
                case '\n':
                    return BLANK;
                case ';':
                    return SEMICOLON;
                case '-':
                    return MINUS;
                default:
                    return INVALID;
            }
        }

        int offset() {
            return start;
        }

        boolean isAtEnd() {
            return kind == END;
        }

        boolean isNumber() {
            return kind == NUMBER;
        }

        int number() {
            return number;
        }

        boolean isSemicolon() {
            return kind == SEMICOLON;
        }

        boolean isMinus() {
            return kind == MINUS;
        }

        boolean isWord(String word) {
            if (kind != WORD || end - start != word.length()) {
                return false;
            }
            for (int place = 0; place < word.length(); place++) {
                if (bytes[start + place] != word.charAt(place)) {
                    return false;
                }
            }
            return true;
        }
    }

    /** What a command of a script begins with. */
    private enum Kind {
        ROW("row"),
        SET("set"),
        SORT("sort"),
        LESS("less"),
        EQUAL("equal"),
        GREATER("greater"),
        DROP("drop"),
        DELETE("delete"),
        COMPACT("compact");

        private final String word;

        Kind(String word) {
            this.word = word;
        }
    }

    /** A command of a script; only the fields that its kind needs are set. */
    private static final class Command {
        private Kind kind = Kind.ROW;
        private int column;
        private int number;
        private int value;
        private boolean isDown;
        private final int[] cells = new int[MAX_COLUMNS];
    }

    /** Reads tables, rows and scripts; each take passes what it reads or notes the error. */
    private static final class Parser {
        private static final Kind[] KINDS = Kind.values();

        private final Input input;
        private int error;
        private int offset = -1;
        private int number;
        private int columns;
        private int rows;
        private final int[] cells = new int[MAX_COLUMNS * MAX_ROWS];
        private final Command[] commands = new Command[MAX_COMMANDS];
        private int commandCount;

        Parser(Input input) {
            this.input = input;
            for (int place = 0; place < MAX_COMMANDS; place++) {
                commands[place] = new Command();
            }
        }

        int error() {
            return error;
        }

        int offset() {
            return offset;
        }

        int columns() {
            return columns;
        }

        int rows() {
            return rows;
        }

        int[] cells() {
            return cells;
        }

        int commandCount() {
            return commandCount;
        }

        Command command(int place) {
            return commands[place];
        }

        boolean readTable(int length) {
            start(length);
            if (!takeHead()) {
                return false;
            }
            for (int row = 0; row <= MAX_ROWS && !input.isAtEnd(); row++) {
                if (!takeTableRow()) {
                    return false;
                }
            }
            return true;
        }

        boolean readRow(int length, int columnsDue) {
            start(length);
            columns = columnsDue;
            return takeRow(cells, 0) && takeEnd();
        }

        boolean readScript(int length, int columnsDue) {
            start(length);
            columns = columnsDue;
            for (int place = 0; place <= MAX_COMMANDS && !input.isAtEnd(); place++) {
                if (!takeKind() || !takeArguments(commands[commandCount]) || !takeSemicolon()) {
                    return false;
                }
                commandCount++;
            }
            return true;
        }

        private void start(int length) {
            error = 0;
            offset = -1;
            rows = 0;
            commandCount = 0;
            input.startText(length);
        }

        private boolean fail(int code) {
            error = code;
            offset = input.offset();
            return false;
        }

        private boolean takeHead() {
            if (!takeWord("table") || !takeNumber(1, MAX_COLUMNS)) {
                return false;
            }
            columns = number;
            return takeSemicolon();
        }

        private boolean takeTableRow() {
            if (rows == MAX_ROWS) {
                return failAtExtraRow();
            }
            if (!takeRow(cells, rows * columns) || !takeSemicolon()) {
                return false;
            }
            rows++;
            return true;
        }

        /** Of several errors at one token the smallest counts, so a row too many comes last. */
        private boolean failAtExtraRow() {
            if (input.isMinus()) {
                return fail(TOO_MANY);
            }
            if (!input.isNumber()) {
                return fail(NOT_ALLOWED);
            }
            return fail(input.number() > MAX_VALUE ? OUT_OF_RANGE : TOO_MANY);
        }

        private boolean takeRow(int[] target, int first) {
            for (int column = 0; column < columns; column++) {
                if (!takeInteger()) {
                    return false;
                }
                target[first + column] = number;
            }
            return true;
        }

        /** Takes the first word of a command, and refuses it if there is no room for another command. */
        private boolean takeKind() {
            Kind kind = kindOfWord();
            if (kind == null) {
                return fail(NOT_ALLOWED);
            }
            if (commandCount >= MAX_COMMANDS) {
                return fail(TOO_MANY);
            }
            commands[commandCount].kind = kind;
            input.next();
            return true;
        }

        private Kind kindOfWord() {
            for (int place = 0; place < KINDS.length; place++) {
                if (input.isWord(KINDS[place].word)) {
                    return KINDS[place];
                }
            }
            return null;
        }

        private boolean takeArguments(Command command) {
            switch (command.kind) {
                case ROW:
                    return takeRow(command.cells, 0);
                case SET:
                    return takeColumn(command) && takePlace(command, MAX_ROWS) && takeValue(command);
                case SORT:
                    return takeColumn(command) && takeDirection(command);
                case LESS:
                case EQUAL:
                case GREATER:
                    return takeColumn(command) && takeValue(command);
                case DROP:
                    return takePlace(command, MAX_CONDITIONS);
                case COMPACT:
                    return takeColumn(command);
                default:
                    return true;
            }
        }

        private boolean takeColumn(Command command) {
            boolean isGood = takeNumber(0, columns - 1);
            command.column = number;
            return isGood;
        }

        private boolean takePlace(Command command, int places) {
            boolean isGood = takeNumber(0, places - 1);
            command.number = number;
            return isGood;
        }

        private boolean takeValue(Command command) {
            boolean isGood = takeInteger();
            command.value = number;
            return isGood;
        }

        private boolean takeDirection(Command command) {
            command.isDown = input.isWord("down");
            if (command.isDown) {
                input.next();
            }
            return true;
        }

        private boolean takeInteger() {
            boolean isNegative = input.isMinus();
            if (isNegative) {
                input.next();
            }
            boolean isGood = takeNumber(0, MAX_VALUE);
            number = isNegative ? -number : number;
            return isGood;
        }

        private boolean takeNumber(int least, int most) {
            if (!input.isNumber()) {
                return fail(NOT_ALLOWED);
            }
            if (input.number() < least || input.number() > most) {
                return fail(OUT_OF_RANGE);
            }
            number = input.number();
            input.next();
            return true;
        }

        private boolean takeWord(String word) {
            if (!input.isWord(word)) {
                return fail(NOT_ALLOWED);
            }
            input.next();
            return true;
        }

        private boolean takeSemicolon() {
            if (!input.isSemicolon()) {
                return fail(NOT_ALLOWED);
            }
            input.next();
            return true;
        }

        private boolean takeEnd() {
            return input.isAtEnd() || fail(NOT_ALLOWED);
        }
    }
}
