import java.lang.reflect.InvocationTargetException;
import java.lang.reflect.Method;
import java.lang.reflect.Modifier;
import java.math.BigInteger;
import java.util.Arrays;
import java.util.List;
import java.util.TreeSet;

/** Promises 10 to 19, 42, 43, 46, 56, 61 and 63 with dictionaries far greater than tables; odd numbers in all calls. */
final class LimitsTest {
    private static final int[] ODD = {Integer.MIN_VALUE, Integer.MIN_VALUE + 1, -10000, -9999, -1, 0, 1, 2, 3, 5, 6, 7, 8,
        59, 60, 61, 64, 700, 9999, 10000, Integer.MAX_VALUE - 1, Integer.MAX_VALUE};

    public static void main(String[] args) throws Exception {
        growingDictionary();
        undoneGrowth();
        wideWords();
        oddNumbers(new PackedTable());
        oddNumbers(Check.loaded("table 1;"));
        oddNumbers(Check.loaded("table 6;" + Check.repeat("1 2 3 4 5 6;", 50)));
        oddNumbers(Check.loaded("table 1;" + Check.repeat("-9999;9999;", 30)));
        Check.finish();
    }

    /** Twenty values by each script: the most that 512 calls can bring into a dictionary. */
    private static void growingDictionary() {
        PackedTable table = Check.loaded("table 2;0 0;0 1;");
        TreeSet<Integer> due = new TreeSet<>(List.of(0));
        for (int round = 0; round < 35; round++) {
            StringBuilder script = new StringBuilder();
            for (int place = 0; place < 20; place++) {
                int value = (round * 20 + place) * 7919 % 9999 + 1;
                due.add(round % 2 == 0 ? value : -value);
                script.append("set 0 0").append(round % 2 == 0 ? " " : " -").append(value).append(';');
            }
            Check.same("57 round " + round, Check.script(table, script.toString()), 20);
            Check.same("10 round " + round, table.dictionarySize(0), due.size());
            Check.same("16 round " + round, table.bitWidth(0), BigInteger.valueOf(due.size() - 1).bitLength());
            Check.same("13 round " + round, table.staleCount(0), due.size() - 2);
            Check.same("46 round " + round, table.gap(), 0);
        }
        Check.same("11 seven hundred", Check.dictionary(table, 0), due.toString().replaceAll("[\\[\\],]", ""));
        table.saveSnapshot();
        Check.same("56 seven hundred", table.compact(0), 699);
        Check.same("43 compacted", table.bitWidth(0), 1);
        Check.same("63 seven hundred", table.restoreSnapshot(), 2);
        Check.same("63 dictionary", Check.dictionary(table, 0), due.toString().replaceAll("[\\[\\],]", ""));
    }

    private static void undoneGrowth() {
        PackedTable table = Check.loaded("table 1;0;");
        for (int value = 1; value <= 300; value++) {
            table.setValue(0, 0, -value);
        }
        for (int left = 7; left >= 0; left--) {
            table.undo();
            Check.same("61 size", table.dictionarySize(0), 293 + left);
            Check.same("61 value", table.value(0, 0), -292 - left);
            Check.same("61 code", table.code(0, 0), 0);
        }
        Check.same("42 width with another", table.bitWidthWith(0, 1), 9);
        Check.same("43 width compacted", table.bitWidthCompacted(0), 0);
    }

    /** Sixty rows of nine bits: codes that lie across the ends of words. */
    private static void wideWords() {
        PackedTable table = Check.loaded("table 1;" + Check.repeat("0;", 60));
        for (int value = 1; value < 300; value++) {
            table.setValue(0, value % 60, value);
        }
        BigInteger bits = BigInteger.ZERO;
        for (int row = 59; row >= 0; row--) {
            bits = bits.shiftLeft(9).add(BigInteger.valueOf(240 + row));
        }
        Check.same("17 nine bits", table.wordCount(0), 9);
        Check.same("19 nine bits", table.packedBits(), 540);
        for (int word = 0; word < 9; word++) {
            Check.same("18 word " + word, table.packedWord(0, word), bits.shiftRight(64 * word).longValue());
        }
        Check.outside("18 word 9", () -> table.packedWord(0, 9));
        Check.same("20 nine bits", table.compressionRatio(), 960.0 / (540 + 4800));
        Check.same("46 nine bits", table.gap(), 0);
    }

    /** No call may answer an odd number with an exception that the document does not name. */
    private static void oddNumbers(PackedTable table) throws Exception {
        for (Method method : PackedTable.class.getDeclaredMethods()) {
            if (Modifier.isPublic(method.getModifiers())) {
                int choices = (int) Math.pow(ODD.length, Math.min(3, method.getParameterCount()));
                String wrong = "";
                for (int choice = 0; choice < choices; choice++) {
                    wrong += wrongAnswer(table, method, choice);
                }
                Check.same("odd numbers for " + method.getName(), wrong, "");
                Check.same("46 after odd numbers for " + method.getName(), table.gap(), 0);
            }
        }
    }

    private static String wrongAnswer(PackedTable table, Method method, int choice) throws Exception {
        Class<?>[] types = method.getParameterTypes();
        Object[] arguments = new Object[types.length];
        int rest = choice;
        for (int place = 0; place < types.length; place++) {
            int number = ODD[rest % ODD.length];
            arguments[place] = types[place] == boolean.class ? (Object) (number > 0) : (Object) number;
            rest /= ODD.length;
        }
        try {
            method.invoke(table, arguments);
            return "";
        } catch (InvocationTargetException e) {
            boolean isNamed = Arrays.asList(method.getExceptionTypes()).contains(e.getCause().getClass());
            return isNamed ? "" : Arrays.toString(arguments) + " " + e.getCause() + "; ";
        }
    }
}
