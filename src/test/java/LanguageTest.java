import com.sun.source.tree.CompilationUnitTree;
import com.sun.source.util.JavacTask;
import com.sun.source.util.Trees;
import java.nio.charset.StandardCharsets;
import java.nio.file.Files;
import java.nio.file.Path;
import java.util.List;
import javax.tools.JavaCompiler;
import javax.tools.StandardJavaFileManager;
import javax.tools.ToolProvider;

/**
 * What of ../shared/LANGUAGE.md can be told from the tree of the program. What cannot (that no index is wrong, that every loop
 * ends, how much a run makes) is left to the reader and to the other tests.
 */
final class LanguageTest {
    private static final String PROGRAM = "src/main/java/PackedTable.java";
    private static final int DEEPEST = 8;

    public static void main(String[] args) throws Exception {
        String file = args.length > 0 ? args[0] : PROGRAM;
        checkSigns(Files.readAllBytes(Path.of(file)));
        JavaCompiler compiler = ToolProvider.getSystemJavaCompiler();
        try (StandardJavaFileManager files = compiler.getStandardFileManager(null, null, StandardCharsets.UTF_8)) {
            JavacTask task = (JavacTask) compiler.getTask(null, files, null, List.of("-proc:none"), null,
                    files.getJavaFileObjects(file));
            CompilationUnitTree unit = task.parse().iterator().next();
            task.analyze();
            LanguageRules rules = new LanguageRules(unit, Trees.instance(task));
            rules.scan(unit, null);
            rules.finish();
            CallGraph calls = new CallGraph(Trees.instance(task));
            calls.scan(unit, null);
            Check.same("rule 8 recursion", calls.recursion(), "none");
            Check.same("rule 11 deepest calls " + calls.deepest(), calls.deepest().size() <= DEEPEST, true);
        }
        Check.finish();
    }

    private static void checkSigns(byte[] program) {
        int strange = 0;
        for (byte sign : program) {
            strange += sign < ' ' && sign != '\n' ? 1 : 0;
        }
        Check.same("rule 3 signs outside 32 to 127", strange, 0);
    }
}
