import java.lang.reflect.Field;
import java.lang.reflect.Method;
import java.lang.reflect.Modifier;
import java.nio.file.Files;
import java.nio.file.Path;
import java.util.ArrayList;
import java.util.List;
import java.util.Set;
import java.util.TreeSet;
import java.util.regex.Matcher;
import java.util.regex.Pattern;
import javax.tools.ToolProvider;

/**
 * What README.md shows as calls with their answers is so, and it leaves out no method and no
 * constant. Its Java blocks are compiled as they stand, so that a reader can copy them.
 */
public final class ReadmeTest {
    private static final Path README = Path.of("README.md");

    private static final Pattern SHOWN_CALL = Pattern.compile(
            "(\\w+\\.(\\w+)\\([^()]*\\));\\s*// (-?\\d+|true|false|BAD_ARG|FULL|NONE)(?![\\w.-]).*");

    // A call at the left margin is one that a reader expects an answer beside; one inside a loop isn't.
    private static final Pattern CALL_AT_MARGIN = Pattern.compile("\\w+\\.\\w+\\(.*");

    private static final String BEFORE_CALLS = """
            public final class ReadmeCalls {
                private static final int BAD_ARG = ForestPacker.BAD_ARG;
                private static final int FULL = ForestPacker.FULL;
                private static final int NONE = ForestPacker.NONE;

                private static int wrong = 0;

                private static void due(String call, Object got, Object want) {
                    if (!got.equals(want)) {
                        wrong++;
                        System.out.println("README.md: " + call + " answered " + got + ", shown is " + want);
                    }
                }

                public static int countWrong() {
            """;

    private static final String AFTER_CALLS = """
                    return wrong;
                }
            }
            """;

    private static final Set<String> methodsShown = new TreeSet<>();
    private static int callsShown = 0;
    private static int wrong = 0;

    private static void fault(String what) {
        wrong++;
        System.out.println("README.md: " + what);
    }

    /** The lines of the Java blocks, each block in braces so that its names are its own. */
    private static List<String> javaLines(List<String> readme) {
        List<String> lines = new ArrayList<>();
        boolean inside = false;
        for (String line : readme) {
            if (!inside && line.equals("```java")) {
                inside = true;
                lines.add("{");
            } else if (inside && line.equals("```")) {
                inside = false;
                lines.add("}");
            } else if (inside) {
                lines.add(line);
            }
        }
        return lines;
    }

    private static String asCheck(String line) {
        Matcher shown = SHOWN_CALL.matcher(line);
        if (shown.matches()) {
            callsShown++;
            methodsShown.add(shown.group(2));
            String call = shown.group(1);
            return "due(\"" + call + "\", " + call + ", " + shown.group(3) + ");";
        }
        if (CALL_AT_MARGIN.matcher(line).matches()) {
            fault("no answer is shown beside " + line);
        }
        return line;
    }

    private static String checksOf(List<String> readme) {
        StringBuilder source = new StringBuilder(BEFORE_CALLS);
        for (String line : javaLines(readme)) {
            source.append(asCheck(line)).append('\n');
        }
        return source.append(AFTER_CALLS).toString();
    }

    /** Beside this class, where the class loader finds it and the one who made the folder removes it. */
    private static Path classFolder() throws Exception {
        return Path.of(ReadmeTest.class.getProtectionDomain().getCodeSource().getLocation().toURI());
    }

    private static void runCalls(String checks) throws Exception {
        Path folder = classFolder();
        Path source = folder.resolve("ReadmeCalls.java");
        Files.writeString(source, checks);
        int failed = ToolProvider.getSystemJavaCompiler().run(null, null, null,
                "--release", "17", "-encoding", "UTF-8",
                "-cp", folder.toString(), "-d", folder.toString(), source.toString());
        if (failed != 0) {
            fault("its Java does not compile");
            return;
        }
        Method countWrong = Class.forName("ReadmeCalls").getMethod("countWrong");
        wrong += (Integer) countWrong.invoke(null);
    }

    private static void checkNothingLeftOut(String text) throws Exception {
        for (Method m : ForestPacker.class.getDeclaredMethods()) {
            if (!Modifier.isPublic(m.getModifiers())) {
                continue;
            }
            if (!text.contains("\n| `" + m.getName() + "(")) {
                fault("its table lacks " + m.getName());
            }
            if (!methodsShown.contains(m.getName())) {
                fault("no call of " + m.getName() + " is shown with its answer");
            }
        }
        for (Field f : ForestPacker.class.getFields()) {
            String constant = "`" + f.getName() + " = " + f.getInt(null) + "`";
            if (!text.contains(constant)) {
                fault("it lacks " + constant);
            }
        }
        if (!text.contains("`new ForestPacker(vertices)`")) {
            fault("it does not say how an object is made");
        }
        if (!text.contains("\n    .ci/run\n")) {
            fault("it does not say how to run the tests");
        }
    }

    public static void main(String[] args) throws Exception {
        List<String> readme = Files.readAllLines(README);
        runCalls(checksOf(readme));
        checkNothingLeftOut(String.join("\n", readme));
        System.out.println(callsShown + " calls shown: "
                + (wrong == 0 ? "all is as shown" : wrong + " faults"));
        if (wrong != 0) {
            System.exit(1);
        }
    }
}
