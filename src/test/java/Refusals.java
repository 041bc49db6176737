import java.util.function.Consumer;
import java.util.function.Supplier;

/** Tests of calls that are refused: what they throw, that they change nothing, and that their neighbours are not refused. */
final class Refusals {
    private static final String NO_COLUMN = "Throws `IndexOutOfBoundsException` if there is no such column";
    private static final String NO_ROW = "Throws `IndexOutOfBoundsException` if there is no such row";
    private static final String NO_CONDITION = "Throws `IndexOutOfBoundsException` if there is no such condition";
    private static final String OUT_OF_RANGE = "Throws `IllegalArgumentException` if value is out of range";
    private static final String NO_LENGTH =
            "Throws `IllegalArgumentException` if length is negative or greater than the number of bytes in the buffer";

    /** A call with the argument in question. */
    interface Call {
        void on(PackedTable table, int argument);
    }

    private Refusals() {
    }

    static void outside(String what, Supplier<PackedTable> made, Consumer<PackedTable> call) {
        refused(what, IndexOutOfBoundsException.class, made, call);
    }

    static void illegal(String what, Supplier<PackedTable> made, Consumer<PackedTable> call) {
        refused(what, IllegalArgumentException.class, made, call);
    }

    static void notNow(String what, Supplier<PackedTable> made, Consumer<PackedTable> call) {
        refused(what, IllegalStateException.class, made, call);
    }

    /** The call throws exactly this, and all that can be seen stays as it is without the call. */
    private static void refused(String what, Class<? extends RuntimeException> due, Supplier<PackedTable> made,
            Consumer<PackedTable> call) {
        PackedTable table = made.get();
        Check.fails(what, due, () -> call.accept(table));
        Check.same(what + " leaves", Fingerprint.of(table), Fingerprint.of(made.get()));
    }

    static void noSuchColumn(int promise, Call call) {
        Clauses.promise(promise, NO_COLUMN, () -> columns(call));
    }

    static void noSuchColumnOrRow(int promise, Call ofColumn, Call ofRow) {
        Clauses.promise(promise, NO_COLUMN + " or row", () -> {
            columns(ofColumn);
            rows(ofRow);
        });
    }

    static void columns(Call call) {
        for (int columns = 1; columns <= 6; columns++) {
            int count = columns;
            call.on(Prepared.wide(count), 0);
            call.on(Prepared.wide(count), count - 1);
            outsideAll("column", () -> Prepared.wide(count), call, -1, count, count + 1, Integer.MIN_VALUE, Integer.MAX_VALUE);
        }
        outsideAll("column", Prepared::rich, call, -1, 3, 5, 6, Integer.MIN_VALUE, Integer.MAX_VALUE);
        outsideAll("column", Prepared::full, call, -1, 1);
        outsideAll("column", Prepared::bare, call, -1, 1);
    }

    static void noSuchRow(int promise, Call call) {
        Clauses.promise(promise, NO_ROW, () -> rows(call));
    }

    private static void rows(Call call) {
        call.on(Prepared.rich(), 0);
        call.on(Prepared.rich(), 5);
        call.on(Prepared.full(), 59);
        outsideAll("row", Prepared::rich, call, -1, 6, 59, 60, Integer.MIN_VALUE, Integer.MAX_VALUE);
        outsideAll("row", Prepared::full, call, -1, 60, 61);
        outsideAll("row", Prepared::bare, call, -1, 0, 1, Integer.MAX_VALUE);
        Supplier<PackedTable> shortened = () -> {
            PackedTable table = Prepared.rich();
            table.removeRow(0);
            return table;
        };
        outsideAll("row", shortened, call, 5);
    }

    static void noSuchCondition(int promise, Call call) {
        Clauses.promise(promise, NO_CONDITION, () -> {
            call.on(Prepared.rich(), 0);
            call.on(Prepared.rich(), 2);
            call.on(Prepared.full(), 7);
            outsideAll("condition", Prepared::rich, call, -1, 3, 7, 8, Integer.MIN_VALUE, Integer.MAX_VALUE);
            outsideAll("condition", Prepared::full, call, -1, 8, 9);
            outsideAll("condition", Prepared::bare, call, -1, 0, Integer.MAX_VALUE);
            Supplier<PackedTable> shortened = () -> {
                PackedTable table = Prepared.rich();
                table.removeCondition(0);
                return table;
            };
            outsideAll("condition", shortened, call, 2);
        });
    }

    private static void outsideAll(String what, Supplier<PackedTable> made, Call call, int... arguments) {
        for (int argument : arguments) {
            outside(what + " " + argument, made, table -> call.on(table, argument));
        }
    }

    static void valueOutOfRange(int promise, Call call) {
        Clauses.promise(promise, OUT_OF_RANGE, () -> {
            call.on(Prepared.rich(), -9999);
            call.on(Prepared.rich(), 9999);
            for (int value : new int[] {-10000, 10000, 1 << 16, -(1 << 16), Integer.MIN_VALUE, Integer.MAX_VALUE}) {
                illegal("value " + value, Prepared::rich, table -> call.on(table, value));
            }
        });
    }

    /** The clause of the lengths, and the one behind it, that the buffer is not emptied. */
    static void noSuchLength(int promise, Call call) {
        Clauses.promise(promise, NO_LENGTH, () -> {
            call.on(Prepared.rich(), 0);
            call.on(Prepared.rich(), 20);
            call.on(Prepared.bare(), 0);
            for (int length : new int[] {-1, 21, 700, Integer.MIN_VALUE, Integer.MAX_VALUE}) {
                illegal("length " + length, Prepared::rich, table -> call.on(table, length));
            }
            illegal("length -1", Prepared::bare, table -> call.on(table, -1));
            illegal("length 1", Prepared::bare, table -> call.on(table, 1));
            illegal("length 701", Prepared::full, table -> call.on(table, 701));
        });
        Clauses.promise(promise, "the buffer is not emptied then", () -> {
            PackedTable table = Prepared.rich();
            Check.illegal("too short", () -> call.on(table, -1));
            Check.same("20 bytes more", table.appendText(0, 0, 0, 0, 0), 40);
            Check.illegal("too long", () -> call.on(table, 41));
            Check.same("16 bytes", table.loadTable(16), 2);
            Check.same("their table", Check.text(table), "table 2;7 8;9 9;");
        });
    }

    static void eightConditions(int promise, Call call) {
        Clauses.promise(promise, "Throws `IllegalStateException` if there are 8 conditions", () -> {
            PackedTable seven = Prepared.eightConditions();
            seven.removeCondition(7);
            call.on(seven, 5);
            Check.same("the eighth", seven.conditionCount(), 8);
            Check.notNow("the ninth", () -> call.on(seven, 5));
            notNow("eight conditions", Prepared::eightConditions, table -> call.on(table, 5));
            notNow("eight conditions of sixty rows", Prepared::full, table -> call.on(table, 5));
        });
    }
}
