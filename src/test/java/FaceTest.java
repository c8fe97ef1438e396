import java.lang.reflect.Constructor;
import java.lang.reflect.Field;
import java.lang.reflect.Method;
import java.lang.reflect.Modifier;
import java.nio.file.Files;
import java.nio.file.Path;
import java.util.ArrayList;
import java.util.List;
import java.util.Map;
import java.util.Set;
import java.util.TreeMap;
import java.util.TreeSet;
import java.util.regex.Matcher;
import java.util.regex.Pattern;

/** The public face is the document's, and the source keeps to what LANGUAGE.md rules and a scan can see. */
public final class FaceTest {
    private static final String FACE = "kind(int,int) with(int) near(int,int,boolean) paper(int,int,int) filing(int,int,int) "
        + "elder(int,int,int) count(int) feed(int,long) claims(int) rules(int) fault() rule(int,int) first(int) claim(int,int) "
        + "version(int,int) day(int,int,int) does(int,int,int) by(int,int,int) stands(int,int) wider(int,int) narrow(int,int) "
        + "toNarrow(int,int) pay(int,int,int) force(int,int,int) product(int,int,int) falls(int,int,int,int) around(int,int,int) "
        + "since(int,int,int)";
    private static final int MOST_CLASSES = 12, MOST_FIELDS = 20, MOST_PARAMETERS = 7, MOST_LINES = 60, MOST_DEPTH = 8;
    private static final Pattern HEADER = Pattern.compile(" {4}(?: {4})?((?:public |private |static )*)(?:int|boolean|void) (\\w+)\\(.*\\) \\{");
    private static int wrong = 0;

    private static void hold(boolean is, String what) {
        if (!is) {
            wrong++;
            System.out.println("FaceTest: " + what);
        }
    }

    private static String signature(Method method) {
        List<String> types = new ArrayList<>();
        for (Class<?> type : method.getParameterTypes()) {
            types.add(type.getSimpleName());
        }
        return method.getName() + "(" + String.join(",", types) + ")";
    }

    private static Set<String> publicMethods() {
        Set<String> names = new TreeSet<>();
        Set<String> signatures = new TreeSet<>();
        for (Method method : ClaimTrees.class.getDeclaredMethods()) {
            if (Modifier.isPublic(method.getModifiers())) {
                names.add(method.getName());
                signatures.add(signature(method));
                hold(method.getReturnType() == int.class && !Modifier.isStatic(method.getModifiers()), signature(method));
            } else {
                hold(Modifier.isPrivate(method.getModifiers()), method + " is neither public nor private");
            }
        }
        hold(signatures.equals(new TreeSet<>(List.of(FACE.split(" ")))), "the face is " + signatures);
        return names;
    }

    private static void publicFields() {
        Set<String> names = new TreeSet<>();
        for (Field field : ClaimTrees.class.getDeclaredFields()) {
            if (Modifier.isPublic(field.getModifiers())) {
                names.add(field.getName());
            } else {
                hold(Modifier.isPrivate(field.getModifiers()), field + " is neither public nor private");
            }
        }
        hold(names.equals(Set.of("NONE", "UNKNOWN", "OUTSIDE", "NOT", "FULL")), "the constants are " + names);
        Constructor<?>[] constructors = ClaimTrees.class.getDeclaredConstructors();
        hold(constructors.length == 1 && Modifier.isPublic(constructors[0].getModifiers())
            && constructors[0].getParameterCount() == 0, "one public constructor without arguments");
        int modifiers = ClaimTrees.class.getModifiers();
        hold(Modifier.isPublic(modifiers) && Modifier.isFinal(modifiers), "public and final");
    }

    private static void classRules(Class<?> type, Set<String> face) {
        int fields = 0;
        for (Field field : type.getDeclaredFields()) {
            boolean isStatic = Modifier.isStatic(field.getModifiers());
            hold(!isStatic || Modifier.isFinal(field.getModifiers()), field + " is static and not final");
            fields += isStatic ? 0 : 1;
        }
        hold(fields <= MOST_FIELDS, type + " has " + fields + " fields");
        for (Method method : type.getDeclaredMethods()) {
            hold(method.getParameterCount() <= MOST_PARAMETERS, method + " has too many parameters");
            hold(type == ClaimTrees.class || !face.contains(method.getName()), method + " bears a public one's name");
            hold(type != ClaimTrees.class || Modifier.isPublic(method.getModifiers()) || !face.contains(method.getName()),
                method + " bears a public one's name");
        }
    }

    private static String bare(String source) {
        return source.replaceAll("(?s)/\\*.*?\\*/", "").replaceAll("//[^\n]*", "")
            .replaceAll("\"[^\"\n]*\"", "\"\"").replaceAll("'[^'\n]'", "' '");
    }

    private static void sourceRules(String source) {
        hold(source.chars().allMatch(sign -> sign < 127), "a sign above 126 in the source");
        String code = bare(source);
        for (String word : List.of("throw", "throws", "try", "catch", "synchronized", "assert", "package", "import", "native",
            "volatile", "protected", "instanceof", "toString", "hashCode", "System", "Object", "Random", "Thread")) {
            hold(!Pattern.compile("\\b" + word + "\\b").matcher(code).find(), "the word " + word);
        }
        for (String sign : List.of("->", "::", "@", "while (true)", "for (;;)", "%")) {
            hold(!code.contains(sign), "the sign " + sign);
        }
        Matcher divided = Pattern.compile("/\\s*(\\S+)").matcher(code);
        while (divided.find()) {
            hold(divided.group(1).matches("[1-9][0-9]*;"), "a divisor that is no plain number: " + divided.group());
        }
        Matcher made = Pattern.compile("new \\w+\\[([^\\]]*)\\]").matcher(code);
        while (made.find()) {
            hold(made.group(1).matches("[A-Z_* ]+"), "a length that is no constant: " + made.group());
        }
        methodLengths(code);
        callRules(code);
    }

    /** A method opens at an indent of four or eight blanks with a bracket and closes at the same. */
    private static int closingLine(String[] lines, int at) {
        String close = lines[at].replaceAll("\\S.*", "") + "}";
        int end = at;
        while (end < lines.length - 1 && !lines[end].equals(close)) {
            end++;
        }
        return end;
    }

    private static void methodLengths(String code) {
        String[] lines = code.split("\n");
        for (int at = 0; at < lines.length; at++) {
            if (lines[at].matches(" {4}( {4})?\\S.*\\) \\{")) {
                hold(closingLine(lines, at) - at < MOST_LINES, "too many lines: " + lines[at].trim());
            }
        }
    }

    /** Methods of one name in several classes count as one, so the depth found is never too low. */
    private static void callRules(String code) {
        String[] lines = code.split("\n");
        Map<String, Set<String>> calls = new TreeMap<>();
        for (int at = 0; at < lines.length; at++) {
            Matcher header = HEADER.matcher(lines[at]);
            if (header.matches()) {
                String body = String.join("\n", List.of(lines).subList(at + 1, closingLine(lines, at)));
                Set<String> called = calls.computeIfAbsent(header.group(2), name -> new TreeSet<>());
                Matcher call = Pattern.compile("\\b(\\w+)\\(").matcher(body);
                while (call.find()) {
                    called.add(call.group(1));
                }
                boolean callsItself = Pattern.compile("(?<!\\.)\\b" + header.group(2) + "\\(").matcher(body).find();
                hold(!callsItself || header.group(1).equals("private static "), header.group(2) + " calls itself and is not private static");
            }
        }
        hold(calls.keySet().containsAll(Set.of("kind", "since", "cover", "versionAt")), "the scan does not see all methods");
        for (String name : calls.keySet()) {
            descend(name, calls, new ArrayList<>());
        }
    }

    private static void descend(String name, Map<String, Set<String>> calls, List<String> open) {
        hold(!open.contains(name), name + " comes round: " + open);
        hold(open.size() < MOST_DEPTH, "calls too deep: " + open + " " + name);
        if (open.contains(name) || open.size() >= MOST_DEPTH) {
            return;
        }
        open.add(name);
        for (String called : calls.get(name)) {
            if (calls.containsKey(called) && !called.equals(name)) {
                descend(called, calls, open);
            }
        }
        open.remove(open.size() - 1);
    }

    public static void main(String[] args) throws Exception {
        Set<String> face = publicMethods();
        publicFields();
        classRules(ClaimTrees.class, face);
        Class<?>[] inside = ClaimTrees.class.getDeclaredClasses();
        hold(inside.length + 1 <= MOST_CLASSES, inside.length + " classes inside");
        for (Class<?> type : inside) {
            hold(Modifier.isStatic(type.getModifiers()) && !Modifier.isPublic(type.getModifiers()), type + " is not static or public");
            classRules(type, face);
        }
        String path = System.getProperty("claimtrees.source", "src/main/java/ClaimTrees.java");
        sourceRules(Files.readString(Path.of(path)));
        System.out.println("FaceTest: " + wrong + " rules broken");
        if (wrong != 0) {
            System.exit(1);
        }
    }
}
