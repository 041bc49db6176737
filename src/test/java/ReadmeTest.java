import java.io.ByteArrayOutputStream;
import java.io.IOException;
import java.io.PrintStream;
import java.lang.reflect.Method;
import java.net.URL;
import java.net.URLClassLoader;
import java.nio.file.Files;
import java.nio.file.Path;
import java.util.ArrayList;
import java.util.List;
import java.util.regex.Matcher;
import java.util.regex.Pattern;
import javax.tools.ToolProvider;

/** What README.md says is so: its example prints what its comments say, and it names every call of the document. */
final class ReadmeTest {
    private static final Path DIRECTORY = Path.of("build/example");
    private static final Path EXAMPLE = DIRECTORY.resolve("Example.java");
    private static final String CLASS = "src/main/java/PackedTable.java";
    private static final Pattern PRINTED = Pattern.compile("System\\.out\\.println\\(.*\\); +// (.*)");
    private static final Pattern CALL = Pattern.compile(" (\\w+)\\([^)]*\\)( throws .*)?;");

    public static void main(String[] args) throws Exception {
        List<String> readme = Files.readAllLines(Path.of("README.md"));
        checkExample(exampleIn(readme));
        checkCalls(String.join("\n", readme));
        Check.finish();
    }

    private static List<String> exampleIn(List<String> readme) {
        int start = readme.indexOf("```java") + 1;
        return readme.subList(start, start + readme.subList(start, readme.size()).indexOf("```"));
    }

    private static void checkExample(List<String> example) throws Exception {
        Files.createDirectories(DIRECTORY);
        Files.write(EXAMPLE, example);
        int result = ToolProvider.getSystemJavaCompiler()
                .run(null, null, null, "-d", DIRECTORY.toString(), CLASS, EXAMPLE.toString());
        Check.same("compiling the example", result, 0);
        Check.same("the example prints", printed(), String.join("\n", due(example)) + "\n");
    }

    private static List<String> due(List<String> example) {
        List<String> lines = new ArrayList<>();
        for (String line : example) {
            Matcher matcher = PRINTED.matcher(line.trim());
            if (matcher.matches()) {
                lines.add(matcher.group(1));
            } else {
                Check.same(line + " prints something", line.contains("println"), false);
            }
        }
        return lines;
    }

    private static String printed() throws Exception {
        PrintStream before = System.out;
        ByteArrayOutputStream bytes = new ByteArrayOutputStream();
        // No parent but Java's own, so that the class is the one that the line in README.md has compiled.
        try (URLClassLoader loader = new URLClassLoader(new URL[] {DIRECTORY.toUri().toURL()},
                ClassLoader.getPlatformClassLoader())) {
            Method main = loader.loadClass("Example").getMethod("main", String[].class);
            main.setAccessible(true);
            System.setOut(new PrintStream(bytes, true));
            main.invoke(null, (Object) new String[0]);
        } finally {
            System.setOut(before);
        }
        return bytes.toString().replace("\r", "");
    }

    private static void checkCalls(String readme) throws IOException {
        Matcher matcher = CALL.matcher(face(Files.readString(Path.of("../shared/DOC.md"))));
        while (matcher.find()) {
            String name = matcher.group(1);
            if (!name.equals("PackedTable")) {
                Check.same("README.md names " + name, readme.contains("`" + name + "`"), true);
            }
        }
    }

    private static String face(String document) {
        int start = document.indexOf("public final class");
        return document.substring(start, document.indexOf("```", start));
    }
}
