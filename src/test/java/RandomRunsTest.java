import java.lang.reflect.InvocationTargetException;
import java.lang.reflect.Method;
import java.lang.reflect.Modifier;
import java.util.ArrayList;
import java.util.Arrays;
import java.util.Comparator;
import java.util.List;
import java.util.Map;
import java.util.Random;
import java.util.TreeMap;

/** Promises 1 to 63: runs of 512 calls, each answered by the class and by the reference alike. */
final class RandomRunsTest {
    private static final int CALLS = 512;
    private static final int MIXED_CALLS = 260;
    private static final List<String> QUERIES = new ArrayList<>();
    private static final List<String> CHANGES = List.of("removeRow", "setValue", "sort", "addLess", "addEqual",
            "addGreater", "removeCondition", "compact", "undo", "saveSnapshot", "writeRow");
    private static final List<String> HARSH_CHANGES = List.of("deleteSelected", "restoreSnapshot");
    private static final List<String> PARSES = List.of("loadTable", "addRow", "runScript");
    private static final Map<String, Method> TESTED = new TreeMap<>();
    private static final Map<String, Method> REFERENCE = new TreeMap<>();
    // How often each call answered and how often it threw, so that a run of dull calls is noticed.
    private static final Map<String, Integer> SEEN = new TreeMap<>();

    private final Random random;
    private final long seed;
    private final PackedTable tested = new PackedTable();
    private final Reference reference = new Reference();
    private final RandomTexts texts;
    private int calls;
    private boolean isWrong;

    private RandomRunsTest(long seed) {
        this.seed = seed;
        random = new Random(seed);
        texts = new RandomTexts(random);
    }

    public static void main(String[] args) throws Exception {
        findMethods();
        int runs = args.length > 0 ? Integer.parseInt(args[0]) : 500;
        for (int seed = 0; seed < runs; seed++) {
            RandomRunsTest run = new RandomRunsTest(seed);
            run.go();
            Check.same("run " + seed + " is wrong", run.isWrong, false);
        }
        for (Map.Entry<String, Method> entry : TESTED.entrySet()) {
            Check.same(entry.getKey() + " answers", SEEN.getOrDefault(entry.getKey(), 0) > runs / 10, true);
            if (entry.getValue().getExceptionTypes().length > 0) {
                Check.same(entry.getKey() + " throws", SEEN.getOrDefault(entry.getKey() + " throws", 0) > runs / 10, true);
            }
        }
        Check.finish();
    }

    private static void findMethods() throws Exception {
        Method[] methods = PackedTable.class.getDeclaredMethods();
        Arrays.sort(methods, Comparator.comparing(Method::getName));
        for (Method method : methods) {
            String name = method.getName();
            if (Modifier.isPublic(method.getModifiers())) {
                TESTED.put(name, method);
                REFERENCE.put(name, Reference.class.getMethod(name, method.getParameterTypes()));
                if (!CHANGES.contains(name) && !HARSH_CHANGES.contains(name) && !PARSES.contains(name)
                        && !name.equals("appendText")) {
                    QUERIES.add(name);
                }
            }
        }
    }

    private void go() throws Exception {
        if (random.nextInt(4) > 0) {
            parse("loadTable", texts.table());
        }
        while (calls < MIXED_CALLS && !isWrong) {
            step();
        }
        while (calls < CALLS && !isWrong) {
            callAny(QUERIES);
        }
    }

    private void step() throws Exception {
        int kind = random.nextInt(100);
        if (kind < 40) {
            callAny(QUERIES);
        } else if (kind < 80) {
            callAny(CHANGES);
        } else if (kind < 83) {
            callAny(HARSH_CHANGES);
        } else if (kind < 85) {
            parse("loadTable", texts.table());
        } else if (kind < 90) {
            parse("addRow", texts.oneRow(reference.columnCount()));
        } else if (kind < 96) {
            parse("runScript", texts.script(reference.columnCount()));
        } else if (kind < 98) {
            callAny(PARSES);
        } else {
            same("appendText", four(" 1;2"), four("3 -4"), four("\n5 6"), random.nextInt(), four("    "));
        }
    }

    private static int four(String text) {
        return text.charAt(0) << 24 | text.charAt(1) << 16 | text.charAt(2) << 8 | text.charAt(3);
    }

    private void parse(String name, String text) throws Exception {
        // A parse error that empties the buffer and is no change.
        same("loadTable", 0);
        StringBuilder filled = new StringBuilder(text);
        while (filled.length() % 20 > 0) {
            filled.append((char) random.nextInt(256));
        }
        for (int start = 0; start < filled.length() && !isWrong; start += 20) {
            same("appendText", four(filled.substring(start)), four(filled.substring(start + 4)),
                    four(filled.substring(start + 8)), four(filled.substring(start + 12)), four(filled.substring(start + 16)));
        }
        if (!isWrong) {
            same(name, random.nextInt(10) > 0 ? text.length() : filled.length() + random.nextInt(2));
            same("errorCode");
            same("errorOffset");
        }
    }

    private void callAny(List<String> names) throws Exception {
        String name = names.get(random.nextInt(names.size()));
        Class<?>[] types = TESTED.get(name).getParameterTypes();
        Object[] arguments = new Object[types.length];
        boolean isPlain = random.nextInt(12) > 0;
        for (int place = 0; place < types.length; place++) {
            if (types[place] == boolean.class) {
                arguments[place] = random.nextBoolean();
            } else {
                arguments[place] = isPlain ? plain(name, place, types.length) : odd();
            }
        }
        same(name, arguments);
    }

    /** A number that is likely to be in range, told from the place among the parameters. */
    private int plain(String name, int place, int count) {
        if (name.startsWith("condition") || name.equals("lowerCode") || name.equals("upperCode")
                || name.equals("matches") || name.equals("removeCondition")) {
            return below(reference.conditionCount());
        }
        if (List.of("isSelected", "rejectedBy", "selectedRow", "removeRow", "writeRow", "outputByte").contains(name)) {
            return below(reference.rowCount());
        }
        if (place == 0) {
            return below(reference.columnCount());
        }
        if (place == 1 && (name.equals("value") || name.equals("code") || name.equals("setValue"))) {
            return below(reference.rowCount());
        }
        if (name.equals("packedWord")) {
            return random.nextInt(3);
        }
        if (place == count - 1 && (name.equals("frequency") || name.equals("dictionaryValue"))) {
            return below(reference.dictionarySize(0));
        }
        return value();
    }

    private int below(int size) {
        return random.nextInt(size + (random.nextInt(20) == 0 ? 2 : 0) + (size == 0 ? 1 : 0));
    }

    private int value() {
        switch (random.nextInt(3)) {
            case 0:
                return random.nextInt(21) - 10;
            case 1:
                return random.nextInt(20005) - 10002;
            default:
                int column = random.nextInt(reference.columnCount());
                int size = reference.dictionarySize(column);
                return size == 0 ? 0 : reference.dictionaryValue(column, random.nextInt(size)) + random.nextInt(3) - 1;
        }
    }

    private int odd() {
        int[] odd = {-1, -2, 5, 6, 7, 8, 59, 60, 61, 255, 9999, -9999, 10000, -10000, 1 << 16, -(1 << 16),
            Integer.MIN_VALUE, Integer.MAX_VALUE, random.nextInt()};
        return odd[random.nextInt(odd.length)];
    }

    private void same(String name, Object... arguments) throws Exception {
        String due = answer(REFERENCE.get(name), reference, arguments);
        String got = answer(TESTED.get(name), tested, arguments);
        SEEN.merge(due.startsWith("throws") ? name + " throws" : name, 1, Integer::sum);
        if (!got.equals(due)) {
            isWrong = true;
            System.out.println("run " + seed + ", call " + calls + ": " + name + Arrays.toString(arguments) + " answered "
                    + got + ", due is " + due);
        }
        calls++;
    }

    private static String answer(Method method, Object target, Object[] arguments) throws Exception {
        try {
            return String.valueOf(method.invoke(target, arguments));
        } catch (InvocationTargetException e) {
            return "throws " + e.getCause().getClass().getName();
        }
    }
}
