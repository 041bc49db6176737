import java.lang.reflect.Constructor;
import java.lang.reflect.Field;
import java.lang.reflect.Method;
import java.lang.reflect.Modifier;
import java.nio.file.Files;
import java.nio.file.Path;
import java.util.ArrayList;
import java.util.HashSet;
import java.util.List;
import java.util.Set;

/** The face of the class is that of the document, line by line, and nothing else can be seen of it. */
final class FaceTest {
    public static void main(String[] args) throws Exception {
        Set<String> due = declaredInDocument();
        Set<String> got = new HashSet<>();
        Set<String> hidden = new HashSet<>();
        for (Method method : PackedTable.class.getDeclaredMethods()) {
            if (Modifier.isPublic(method.getModifiers())) {
                got.add(signature(method));
            } else if (!method.isSynthetic()) {
                Check.same(method + " is private", Modifier.isPrivate(method.getModifiers()), true);
                hidden.add(method.getName());
            }
        }
        for (String line : due) {
            Check.same("the class has " + line, got.contains(line), true);
        }
        for (String line : got) {
            Check.same("the document has " + line, due.contains(line), true);
            Check.same("no private " + line, hidden.contains(line.split("[ (]")[1]), false);
        }
        for (Field field : PackedTable.class.getDeclaredFields()) {
            Check.same(field + " is private", Modifier.isPrivate(field.getModifiers()), true);
        }
        for (Constructor<?> constructor : PackedTable.class.getDeclaredConstructors()) {
            Check.same("constructor", constructor.toString(), "public PackedTable()");
        }
        for (Class<?> inside : PackedTable.class.getDeclaredClasses()) {
            Check.same(inside + " is static", Modifier.isStatic(inside.getModifiers()), true);
            Check.same(inside + " is public", Modifier.isPublic(inside.getModifiers()), false);
        }
        Check.same("public and final", Modifier.toString(PackedTable.class.getModifiers()), "public final");
        Check.finish();
    }

    /** The lines of the face, without the names of the parameters. */
    private static Set<String> declaredInDocument() throws Exception {
        Set<String> lines = new HashSet<>();
        boolean isInside = false;
        for (String line : Files.readAllLines(Path.of("../shared/DOC.md"))) {
            isInside = line.startsWith("public final class") || (isInside && !line.equals("}"));
            if (isInside && line.endsWith(";") && !line.contains("PackedTable()")) {
                lines.add(line.trim().replace("public ", "").replace(";", "").replaceAll("(int|boolean) \\w+([,)])", "$1$2"));
            }
        }
        return lines;
    }

    private static String signature(Method method) {
        List<String> types = new ArrayList<>();
        for (Class<?> type : method.getParameterTypes()) {
            types.add(type.getSimpleName());
        }
        List<String> thrown = new ArrayList<>();
        for (Class<?> type : method.getExceptionTypes()) {
            thrown.add(type.getSimpleName());
        }
        return method.getReturnType().getSimpleName() + " " + method.getName() + "(" + String.join(", ", types) + ")"
                + (thrown.isEmpty() ? "" : " throws " + String.join(", ", thrown));
    }
}
