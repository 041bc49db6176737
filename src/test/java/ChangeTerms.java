import java.lang.reflect.InvocationTargetException;
import java.lang.reflect.Method;
import java.lang.reflect.Modifier;
import java.util.Arrays;
import java.util.List;
import java.util.function.Supplier;

/** The boundary cases of the terms of changes, sentence by sentence. */
final class ChangeTerms {
    private static final int[] ODD = {Integer.MIN_VALUE, -10000, -1, 0, 2, 5, 8, 59, 60, 9999, 10000, Integer.MAX_VALUE};
    private static final List<String> CHANGES = List.of("addRow", "removeRow", "setValue", "sort", "addLess", "addEqual",
            "addGreater", "removeCondition", "deleteSelected", "compact", "runScript");
    // Changes that can leave everything as it is.
    private static final List<String> IDLE = List.of("setValue", "sort", "deleteSelected", "compact", "runScript");
    // These change something else than the store, or are no changes though they do.
    private static final List<String> OTHERS = List.of("appendText", "loadTable", "undo", "saveSnapshot", "restoreSnapshot",
            "writeRow");

    private ChangeTerms() {
    }

    static void test() {
        whatIsAChange();
        whatIsNone();
        undoing();
        exceptions();
    }

    private static void whatIsAChange() {
        Clauses.terms("Each call of one of them that returns normally is a change, even if nothing is different", () -> {
            for (String name : CHANGES) {
                PackedTable table = withOneCondition();
                change(table, name);
                Check.same(name + " is a change", table.undoableCount(), 2);
                boolean isSame = Check.state(table).equals(Check.state(withOneCondition()));
                Check.same(name + " changes nothing", isSame, IDLE.contains(name));
                table.undo();
                Check.same(name + " undone", Check.state(table), Check.state(withOneCondition()));
                Check.same(name + " undone alone", table.undoableCount(), 1);
            }
        });
        Clauses.terms("A script is one change, even if none of its commands is executed", () -> {
            PackedTable table = new PackedTable();
            Check.same("twenty commands", Check.script(table, Check.repeat("set 0 0 7;", 20)), 20);
            Check.same("is one", table.undoableCount(), 1);
            Check.same("none executed", Check.script(table, "drop 0;compact 0;"), 0);
            Check.same("is one too", table.undoableCount(), 2);
            Check.same("no commands", Check.script(table, ""), 0);
            Check.same("is one as well", table.undoableCount(), 3);
            table.undo();
            table.undo();
            Check.same("the first is left", table.value(0, 0), 7);
            Check.same("undone at once", table.undo(), 0);
            Check.same("as before", Check.state(table), Check.state(new PackedTable()));
        });
    }

    private static PackedTable withOneCondition() {
        PackedTable table = Check.loaded("table 1;5;5;");
        table.addEqual(0, 6);
        return table;
    }

    /** Changes the table of one condition, but leaves it as it is if such a change can. */
    private static void change(PackedTable table, String name) {
        switch (name) {
            case "addRow" -> Check.row(table, "5");
            case "removeRow" -> table.removeRow(1);
            case "setValue" -> table.setValue(0, 0, 5);
            case "sort" -> table.sort(0, true);
            case "addLess" -> table.addLess(0, 6);
            case "addEqual" -> table.addEqual(0, 6);
            case "addGreater" -> table.addGreater(0, 5);
            case "removeCondition" -> table.removeCondition(0);
            case "deleteSelected" -> table.deleteSelected();
            case "compact" -> table.compact(0);
            default -> Check.script(table, "");
        }
    }

    private static void whatIsNone() {
        Clauses.terms("A call of addRow or runScript that reports a parse error is not a change", () -> {
            PackedTable table = Prepared.rich();
            Check.same("changes before", table.undoableCount(), 6);
            Check.load(table, "");
            Check.same("row", Check.row(table, "1 2"), -1);
            Check.same("changes after a row", table.undoableCount(), 6);
            Check.same("script", Check.script(table, "delete;x;"), -1);
            Check.same("changes after a script", table.undoableCount(), 6);
            table.undo();
            Check.same("the sort is undone", Check.text(table), "table 3;5 -2 7;1 -2 7;5 0 3;2 -2 7;1 -5 3;5 0 7;");
        });
        Clauses.terms("these methods change nothing", () -> changesNothing("bitWidthWith", "bitWidthCompacted", "runsIfSorted",
                "bestSortColumn", "gap"));
        Clauses.terms("The methods addRow, removeRow, setValue, sort,", () -> {
            for (Method method : PackedTable.class.getDeclaredMethods()) {
                String name = method.getName();
                if (Modifier.isPublic(method.getModifiers()) && !CHANGES.contains(name) && !OTHERS.contains(name)) {
                    changesNothing(name);
                }
            }
            PackedTable table = Prepared.rich();
            table.writeRow(0);
            table.saveSnapshot();
            table.appendText(0, 0, 0, 0, 0);
            Check.same("others are no changes", table.undoableCount(), 6);
            table.undo();
            Check.same("undo is no change", table.undoableCount(), 5);
            table.restoreSnapshot();
            Check.same("restoreSnapshot is no change", table.undoableCount(), 0);
            Check.load(table, "table 1;");
            Check.same("loadTable is no change", table.undoableCount(), 0);
        });
    }

    /** Each of the calls leaves all that can be seen as it is, whether it answers or throws. */
    private static void changesNothing(String... names) {
        for (String name : names) {
            List<Supplier<PackedTable>> prepared = List.of(Prepared::rich, Prepared::full, Prepared::bare);
            for (Supplier<PackedTable> made : prepared) {
                String due = Fingerprint.of(made.get());
                Method method = methodOf(name);
                for (int choice = 0; choice < choices(method); choice++) {
                    PackedTable table = made.get();
                    answer(table, method, choice);
                    Check.same(name + " leaves", Fingerprint.of(table), due);
                }
            }
        }
    }

    private static Method methodOf(String name) {
        for (Method method : PackedTable.class.getDeclaredMethods()) {
            if (method.getName().equals(name)) {
                return method;
            }
        }
        throw new IllegalArgumentException(name);
    }

    private static int choices(Method method) {
        int choices = 1;
        for (int count = Math.min(3, method.getParameterCount()); count > 0; count--) {
            choices *= ODD.length;
        }
        return choices;
    }

    /** Empty if the call returns. */
    private static String answer(PackedTable table, Method method, int choice) {
        Class<?>[] types = method.getParameterTypes();
        Object[] arguments = new Object[types.length];
        int rest = choice;
        for (int place = 0; place < types.length; place++) {
            int number = ODD[rest % ODD.length];
            arguments[place] = types[place] == boolean.class ? (Object) (number > 0) : (Object) number;
            rest /= ODD.length;
        }
        try {
            method.invoke(table, arguments);
            return "";
        } catch (InvocationTargetException e) {
            return e.getCause().getClass().getSimpleName() + " " + Arrays.toString(arguments);
        } catch (IllegalAccessException e) {
            return e.toString();
        }
    }

    private static void undoing() {
        Clauses.terms("The latest 8 changes can be undone, the latest one first", () -> {
            for (int changes = 0; changes <= 20; changes++) {
                PackedTable table = new PackedTable();
                for (int change = 1; change <= changes; change++) {
                    table.setValue(0, 0, 100 + change);
                }
                int undoable = Math.min(changes, 8);
                Check.same("of " + changes, table.undoableCount(), undoable);
                for (int left = undoable - 1; left >= 0; left--) {
                    Check.same("left of " + changes, table.undo(), left);
                    int latest = changes - undoable + left;
                    Check.same("value after " + latest, table.value(0, 0), latest == 0 ? 5 : 100 + latest);
                    Check.same("values after " + latest, table.dictionarySize(0), 3 + latest);
                }
            }
        });
        Clauses.terms("An older change cannot be undone any more", () -> {
            PackedTable table = new PackedTable();
            for (int change = 1; change <= 9; change++) {
                table.addLess(0, change % 2);
                table.removeCondition(0);
                table.setValue(0, 0, change);
            }
            for (int count = 0; count < 8; count++) {
                table.undo();
            }
            Check.notNow("the ninth", () -> table.undo());
            Check.same("value", table.value(0, 0), 6);
            table.setValue(0, 0, 50);
            Check.same("a change behind", table.undo(), 0);
            Check.notNow("an older one still", () -> table.undo());
            Check.same("value still", table.value(0, 0), 6);
        });
    }

    private static void exceptions() {
        Clauses.terms("A method that throws an exception changes nothing", () -> {
            List<Supplier<PackedTable>> prepared = List.of(Prepared::rich, Prepared::full, Prepared::bare);
            for (Supplier<PackedTable> made : prepared) {
                String due = Fingerprint.of(made.get());
                for (Method method : PackedTable.class.getDeclaredMethods()) {
                    if (Modifier.isPublic(method.getModifiers())) {
                        refusedCallsLeave(due, made, method);
                    }
                }
            }
        });
        Clauses.terms("If several exceptions apply, the one listed first", () -> {
            Supplier<PackedTable> full = Prepared::full;
            Refusals.illegal("length before rows", full, table -> table.addRow(-1));
            Refusals.illegal("length before rows", full, table -> table.addRow(701));
            Refusals.outside("column before value", full, table -> table.setValue(1, 0, 10000));
            Refusals.outside("row before value", full, table -> table.setValue(0, 60, 10000));
            Refusals.outside("column before value", full, table -> table.bitWidthWith(1, -10000));
            Refusals.outside("column before value", full, table -> table.addLess(1, 10000));
            Refusals.outside("column before value", full, table -> table.addEqual(1, 10000));
            Refusals.outside("column before value", full, table -> table.addGreater(1, 10000));
            Refusals.outside("column before conditions", full, table -> table.addLess(-1, 0));
            Refusals.outside("column before conditions", full, table -> table.addEqual(-1, 0));
            Refusals.outside("column before conditions", full, table -> table.addGreater(-1, 0));
            Refusals.illegal("value before conditions", full, table -> table.addLess(0, -10000));
            Refusals.illegal("value before conditions", full, table -> table.addEqual(0, -10000));
            Refusals.illegal("value before conditions", full, table -> table.addGreater(0, -10000));
            Refusals.outside("column before selected rows", Prepared::bare, table -> table.smallestSelected(1));
            Refusals.outside("column before selected rows", Prepared::bare, table -> table.greatestSelected(1));
        });
    }

    private static void refusedCallsLeave(String due, Supplier<PackedTable> made, Method method) {
        for (int choice = 0; choice < choices(method); choice++) {
            PackedTable table = made.get();
            String thrown = answer(table, method, choice);
            if (!thrown.isEmpty()) {
                Check.same(method.getName() + " that throws " + thrown + " leaves", Fingerprint.of(table), due);
            }
        }
    }
}
