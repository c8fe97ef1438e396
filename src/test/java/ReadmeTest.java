import java.io.IOException;
import java.lang.reflect.Method;
import java.lang.reflect.Modifier;
import java.nio.charset.StandardCharsets;
import java.nio.file.DirectoryStream;
import java.nio.file.Files;
import java.nio.file.Path;
import java.util.ArrayList;
import java.util.Arrays;
import java.util.List;
import java.util.Set;
import java.util.TreeSet;
import java.util.regex.Matcher;
import java.util.regex.Pattern;

/** The example in README.md, read from the page itself and run call by call; each answer must be the one told there. */
public final class ReadmeTest {
    private static final Pattern EXAMPLE = Pattern.compile("(?ms)^```java\n(.*?)^```$");
    private static final Pattern CALL = Pattern.compile("x\\.(\\w+)\\(([^()]*)\\);\\s+// (-?\\w+): (\\S.*)");
    private static final Pattern BYTES = Pattern.compile("the bytes \"([^\"]*)\"");
    private static final String MAKES = "ClaimTrees x = new ClaimTrees();";
    private static int wrong = 0;

    private static void hold(boolean is, String what) {
        if (!is) {
            wrong++;
            System.out.println("ReadmeTest: " + what);
        }
    }

    private static List<String> example(String page) {
        List<String> found = new ArrayList<>();
        Matcher matcher = EXAMPLE.matcher(page);
        while (matcher.find()) {
            found.add(matcher.group(1));
        }
        hold(found.size() == 1, found.size() + " examples in Java; one is due");
        return found.isEmpty() ? List.of() : Arrays.asList(found.get(0).split("\n"));
    }

    /** As javac reads a number; a name is a constant of the class. */
    private static long number(String told) throws ReflectiveOperationException {
        if (told.matches("[A-Z]+")) {
            return ClaimTrees.class.getField(told).getInt(null);
        }
        if (told.startsWith("0b")) {
            return Integer.parseInt(told.substring(2), 2);
        }
        return told.endsWith("L") ? Long.decode(told.substring(0, told.length() - 1)) : Integer.decode(told);
    }

    private static Object argument(String told, Class<?> type) throws ReflectiveOperationException {
        if (type == boolean.class) {
            hold(told.matches("true|false"), told + " is neither true nor false");
            return told.equals("true");
        }
        if (type == long.class) {
            return number(told);
        }
        hold(!told.endsWith("L"), told + " is no int");
        return (int) number(told);
    }

    private static Method methodNamed(String name) {
        for (Method method : ClaimTrees.class.getDeclaredMethods()) {
            if (Modifier.isPublic(method.getModifiers()) && method.getName().equals(name)) {
                return method;
            }
        }
        return null;
    }

    private static void call(ClaimTrees x, String line, Matcher parts) throws ReflectiveOperationException {
        Method method = methodNamed(parts.group(1));
        String[] told = parts.group(2).isEmpty() ? new String[0] : parts.group(2).split(", ");
        if (method == null || method.getParameterCount() != told.length) {
            hold(false, "no such call: " + line);
            return;
        }
        Object[] arguments = new Object[told.length];
        for (int i = 0; i < told.length; i++) {
            arguments[i] = argument(told[i], method.getParameterTypes()[i]);
        }
        int answer = (Integer) method.invoke(x, arguments);
        hold(answer == number(parts.group(3)), "answered " + answer + ": " + line);
        Matcher bytes = BYTES.matcher(parts.group(4));
        hold(!method.getName().equals("feed") || bytes.matches() && spells(arguments, bytes.group(1)), "other bytes: " + line);
    }

    private static boolean spells(Object[] arguments, String text) {
        long bytes = 0;
        for (byte each : text.getBytes(StandardCharsets.US_ASCII)) {
            bytes = bytes << 8 | each;
        }
        return text.length() == (Integer) arguments[0] && bytes == (Long) arguments[1];
    }

    /** A line is empty, a heading, or one call with its answer; so none goes by unrun. */
    private static int run(List<String> lines) throws ReflectiveOperationException {
        hold(!lines.isEmpty() && lines.get(0).equals(MAKES), "the example begins with " + MAKES);
        ClaimTrees x = new ClaimTrees();
        Set<String> seen = new TreeSet<>();
        int calls = 0;
        for (String line : lines.subList(Math.min(1, lines.size()), lines.size())) {
            Matcher parts = CALL.matcher(line);
            if (parts.matches()) {
                call(x, line, parts);
                seen.add(parts.group(1));
                calls++;
            } else {
                hold(line.isEmpty() || line.startsWith("// "), "neither a call with its answer nor a heading: " + line);
            }
        }
        for (Method method : ClaimTrees.class.getDeclaredMethods()) {
            hold(!Modifier.isPublic(method.getModifiers()) || seen.contains(method.getName()), "the example has no " + method.getName());
        }
        return calls;
    }

    private static void namesTests(String page) throws IOException {
        hold(page.contains("One command runs all tests:\n\n```sh\n.ci/run\n```\n"), "the page does not name the command");
        hold(Files.isExecutable(Path.of(".ci/run")), ".ci/run cannot be run");
        try (DirectoryStream<Path> tests = Files.newDirectoryStream(Path.of("src/test/java"), "*.java")) {
            for (Path test : tests) {
                String name = test.getFileName().toString().replace(".java", "");
                hold(page.contains("- `" + name + "`: "), "the page does not name " + name);
            }
        }
    }

    public static void main(String[] args) throws Exception {
        String page = Files.readString(Path.of("README.md"));
        int calls = run(example(page));
        namesTests(page);
        System.out.println("ReadmeTest: " + calls + " calls, " + wrong + " faults");
        if (wrong != 0 || calls == 0) {
            System.exit(1);
        }
    }
}
