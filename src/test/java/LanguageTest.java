import java.io.IOException;
import java.lang.reflect.Field;
import java.lang.reflect.Method;
import java.lang.reflect.Modifier;
import java.nio.file.Files;
import java.nio.file.Path;
import java.util.List;

/** Those rules of ../shared/LANGUAGE.md that can be seen from the file and its classes without reading them as a whole. */
public final class LanguageTest {
    private static final String FILE = "src/main/java/VaultDevices.java";
    private static final List<String> LIBRARY = List.of("import java.util.Arrays;", "import java.util.ArrayList;",
            "import java.util.List;", "import java.util.Iterator;", "import java.util.NoSuchElementException;");
    private static final String[] FORBIDDEN = {"->", "::", "synchronized", "assert ", "finally", "try (", "static {",
        "System.out", "System.nano", "System.current", "Random", "Thread", "hashCode", "getMessage", "Exact("};

    private final Checks checks = new Checks();

    public static void main(String[] args) throws IOException {
        LanguageTest test = new LanguageTest();
        test.words(Files.readAllLines(Path.of(FILE)));
        test.methodsAreShort(Files.readAllLines(Path.of(FILE)));
        test.classes();
        test.checks.end();
    }

    private void words(List<String> lines) {
        checks.about("LANGUAGE.md, rules 2, 4, 6 and 13");
        for (String line : lines) {
            if (line.startsWith("import ") && !LIBRARY.contains(line)) {
                checks.tell("a library that is not listed: " + line);
            }
            checks.due("a package line", line.startsWith("package "), false);
            String code = line.strip();
            boolean comment = code.startsWith("/*") || code.startsWith("*") || code.startsWith("//");
            boolean ofSwitch = code.startsWith("case ") || code.startsWith("default ");
            for (String word : FORBIDDEN) {
                if (!comment && code.contains(word) && !(ofSwitch && word.equals("->"))) {
                    checks.tell("'" + word + "' in: " + code);
                }
            }
        }
    }

    /** A method begins and ends on lines of its own, with the same indent. */
    private void methodsAreShort(List<String> lines) {
        checks.about("LANGUAGE.md, rule 11: some sixty lines");
        for (int indent = 4; indent <= 8; indent += 4) {
            String margin = " ".repeat(indent);
            int from = -1;
            for (int i = 0; i < lines.size(); i++) {
                String line = lines.get(i);
                boolean own = line.startsWith(margin) && !line.startsWith(margin + " ");
                if (own && line.endsWith(") {")) {
                    from = i;
                }
                if (own && line.equals(margin + "}") && from >= 0) {
                    checks.due("the method at line " + (from + 1) + " is short", i - from < 70, true);
                    from = -1;
                }
            }
        }
    }

    private void classes() {
        checks.about("LANGUAGE.md, rules 1, 2, 5 and 11");
        Class<?>[] inside = VaultDevices.class.getDeclaredClasses();
        checks.due("at most twelve classes inside", inside.length <= 12, true);
        fields(VaultDevices.class);
        for (Class<?> one : inside) {
            checks.due(one + " is static and hidden", Modifier.isStatic(one.getModifiers())
                    && !Modifier.isPublic(one.getModifiers()) && !Modifier.isProtected(one.getModifiers()), true);
            fields(one);
            for (Method method : one.getDeclaredMethods()) {
                checks.due(method + " has at most seven parameters", method.getParameterCount() <= 7, true);
            }
        }
    }

    private void fields(Class<?> one) {
        int own = 0;
        for (Field field : one.getDeclaredFields()) {
            boolean isStatic = Modifier.isStatic(field.getModifiers());
            own += isStatic ? 0 : 1;
            checks.due(field + " is final if it is static", !isStatic || Modifier.isFinal(field.getModifiers()), true);
        }
        checks.due(one + " has at most twenty fields", own <= 20, true);
    }
}
