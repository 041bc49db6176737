import java.io.IOException;
import java.nio.file.Files;
import java.nio.file.Path;
import java.util.ArrayList;
import java.util.LinkedHashMap;
import java.util.List;
import java.util.Map;
import java.util.regex.Pattern;

/**
 * The sentences of the document, cut at their semicolons, and which of them a test has quoted yet. Each test quotes the
 * beginning of the clause that it is for, so that no clause that names a boundary case is left without a test.
 */
final class Clauses {
    private static final Path DOCUMENT = Path.of("../shared/DOC.md");
    private static final Pattern CUT = Pattern.compile("(?<=\\.) (?=[A-Z])|(?<=[\\w)]); ");
    private static final Pattern NAMES_A_BOUNDARY = Pattern.compile("\\b(Throws|[Ii]f|no|not|none|[Nn]othing|without|empty|"
            + "emptied|at most|at least|most|fewer|several|all|[Aa]ny|exactly|maximal|ends|latest|[Oo]lder|[Ee]arlier|smallest|"
            + "greatest|first|behind|completely|cleared|discarded|kept|replaced|whatever|always|rounded|except|[Ee]very|Each|"
            + "still|separate|range|stale|different|greater|only|as many|digits|letters|tokens|both|afterwards|before|left|"
            + "places?|commands|compacting|\\d+)\\b");
    private static final List<String> SILENT_SECTIONS = List.of("PackedTable", "The public face", "Not promised");
    private static final Map<String, List<String>> UNQUOTED = new LinkedHashMap<>();

    private Clauses() {
    }

    static void read() throws IOException {
        String section = "";
        boolean isGrammar = false;
        for (String line : Files.readAllLines(DOCUMENT)) {
            if (line.startsWith("```")) {
                isGrammar = !isGrammar;
            } else if (line.startsWith("#")) {
                section = line.replaceAll("^#+ |:.*", "");
            } else if (!isParameter(line) && !SILENT_SECTIONS.contains(section) && (!isGrammar || line.contains("  Code"))) {
                readLine(section, line.trim());
            }
        }
    }

    private static boolean isParameter(String line) {
        return line.startsWith("- `");
    }

    private static void readLine(String section, String line) {
        for (String clause : CUT.split(line.replaceAll("^`[^`]*`: ", ""))) {
            if (!clause.isEmpty()) {
                UNQUOTED.computeIfAbsent(section, key -> new ArrayList<>()).add(clause);
            }
        }
    }

    static void terms(String beginning, Runnable test) {
        test("Terms", beginning, test);
    }

    static void promise(int number, String beginning, Runnable test) {
        test("Promise " + number, beginning, test);
    }

    /** Runs the test of the first clause of the section that begins so and has no test yet. */
    static void test(String section, String beginning, Runnable test) {
        Check.within("");
        boolean isFound = false;
        List<String> clauses = UNQUOTED.getOrDefault(section, new ArrayList<>());
        for (int place = 0; place < clauses.size() && !isFound; place++) {
            if (clauses.get(place).startsWith(beginning)) {
                clauses.remove(place);
                isFound = true;
            }
        }
        Check.same(section + " has \"" + beginning + "\"", isFound, true);
        int before = Check.count();
        Check.within(section + ", \"" + beginning + "\": ");
        try {
            test.run();
        } catch (RuntimeException e) {
            // A broken promise must not keep the tests behind it from running.
            Check.same("the test", e.toString(), "no exception");
        }
        Check.same("checks", Check.count() > before, true);
        Check.within("");
    }

    /** Every clause that names a boundary has been quoted. */
    static void finish() {
        for (Map.Entry<String, List<String>> section : UNQUOTED.entrySet()) {
            for (String clause : section.getValue()) {
                boolean isDue = NAMES_A_BOUNDARY.matcher(clause).find();
                Check.same(section.getKey() + ", \"" + clause + "\" without a test", isDue, false);
            }
        }
    }
}
