import java.lang.reflect.Field;
import java.lang.reflect.Method;
import java.lang.reflect.Modifier;
import java.nio.file.Files;
import java.nio.file.Path;
import java.util.ArrayList;
import java.util.HashSet;
import java.util.List;
import java.util.Set;
import java.util.regex.Matcher;
import java.util.regex.Pattern;

/**
 * The rules of LANGUAGE.md that can be seen in the words of the source or in the
 * members of the class. That no call throws is for the other tests to find.
 */
public final class LanguageTest {
    private static final Set<Class<?>> TYPES = Set.of(
        int.class, long.class, short.class, byte.class, char.class, boolean.class);
    private static final Set<Class<?>> ARRAYS = Set.of(
        int[].class, long[].class, short[].class, byte[].class, char[].class, boolean[].class);
    private static final Set<String> FORBIDDEN = Set.of(
        "package", "import", "interface", "enum", "record", "float", "double", "null", "throw", "throws", "try",
        "catch", "finally", "synchronized", "assert", "instanceof", "protected", "super", "var", "native");
    private static final Pattern WORD = Pattern.compile("[A-Za-z_$][\\w$]*");
    private static final Pattern METHOD = Pattern.compile("    (?:public|private) .*?(\\w+)\\(.*\\) \\{");
    private static final Pattern CALL = Pattern.compile("\\b([a-z]\\w*)\\(");
    private static final Set<String> NOT_CALLS = Set.of("if", "for", "while", "switch", "return");
    private static final int DEEPEST_CALLS = 6;
    private static final Check check = new Check();

    public static void main(String[] args) throws Exception {
        String source = Files.readString(Path.of("src/main/java/FactorGraph.java"));
        String code = source.replaceAll("//[^\n]*", "").replaceAll("(?s)/\\*.*?\\*/", "");
        rule1OneClass(code);
        rule2Types();
        rule3NoLibrary(code);
        rule4Arrays(code);
        rule5StaticFields(code);
        rule6Words(code);
        rules8And10Calls(code);
        rule10Sizes(code);
        check.end();
    }

    private static void rule1OneClass(String code) {
        check.about("rule 1");
        check.due("classes", count(code, "\\bclass\\b"), 1);
        check.due("nested classes", FactorGraph.class.getDeclaredClasses().length, 0);
        Set<String> names = new HashSet<>();
        for (Method method : FactorGraph.class.getDeclaredMethods()) {
            check.due("a second method " + method.getName(), names.add(method.getName()), true);
        }
    }

    private static void rule2Types() {
        check.about("rule 2");
        for (Field field : FactorGraph.class.getDeclaredFields()) {
            Class<?> type = field.getType();
            check.due("type of " + field, TYPES.contains(type) || ARRAYS.contains(type), true);
        }
        for (Method method : FactorGraph.class.getDeclaredMethods()) {
            Class<?> answer = method.getReturnType();
            check.due("type of " + method, answer == void.class || TYPES.contains(answer), true);
            for (Class<?> type : method.getParameterTypes()) {
                check.due("parameters of " + method, TYPES.contains(type) || ARRAYS.contains(type), true);
            }
        }
    }

    /** A name of the library begins with a capital and goes on in small letters, or is reached by a dot. */
    private static void rule3NoLibrary(String code) {
        check.about("rule 3");
        Matcher word = WORD.matcher(code);
        while (word.find()) {
            boolean constant = word.group().equals(word.group().toUpperCase());
            boolean small = Character.isLowerCase(word.group().charAt(0));
            check.due(word.group(), constant || small || word.group().equals("FactorGraph"), true);
        }
        check.due("dots", count(code, "(?<!\\bthis)\\.(?!length\\b)"), 0);
        check.due("texts", count(code, "\""), 0);
    }

    private static void rule4Arrays(String code) {
        check.about("rule 4");
        int made = count(code, "\\bnew\\b");
        int madeInFields = count(code, "(?m)^    private final (\\w+)\\[\\] \\w+ = new \\1\\[[A-Z0-9_]+\\];$");
        check.due("objects made elsewhere than in array fields", made - madeInFields, 0);
        check.due("arrays made by a list", count(code, "[=,{\\]]\\s*\\{"), 0);
    }

    private static void rule5StaticFields(String code) {
        check.about("rule 5");
        check.due("static initialisers", count(code, "\\bstatic\\s*\\{"), 0);
        for (Field field : FactorGraph.class.getDeclaredFields()) {
            if (Modifier.isStatic(field.getModifiers())) {
                boolean number = field.getType() == int.class || field.getType() == long.class;
                check.due(field.toString(), number && Modifier.isFinal(field.getModifiers()), true);
            }
        }
    }

    private static void rule6Words(String code) {
        check.about("rules 1, 2, 4 and 6");
        Matcher word = WORD.matcher(code);
        while (word.find()) {
            check.due(word.group(), FORBIDDEN.contains(word.group()), false);
        }
        check.due("lambdas and method references", count(code, "->|::"), 0);
    }

    /** A call deeper than the deepest allowed is also what recursion would come to. */
    private static void rules8And10Calls(String code) {
        List<String> names = new ArrayList<>();
        List<Set<String>> calls = new ArrayList<>();
        for (String line : code.split("\n")) {
            Matcher method = METHOD.matcher(line);
            if (method.matches()) {
                names.add(method.group(1));
                calls.add(new HashSet<>());
            } else if (!names.isEmpty()) {
                addCalls(line, calls.get(calls.size() - 1));
            }
        }
        check.about("rules 8 and 10");
        check.due("methods and the constructor", names.size(), FactorGraph.class.getDeclaredMethods().length + 1);
        Set<String> reached = new HashSet<>(names);
        int depth = 0;
        while (!reached.isEmpty() && depth <= DEEPEST_CALLS) {
            depth++;
            Set<String> next = new HashSet<>();
            for (String name : reached) {
                check.due(name + " is a method", names.contains(name), true);
                next.addAll(names.contains(name) ? calls.get(names.indexOf(name)) : Set.of());
            }
            reached = next;
        }
        check.due("calls go at most six deep", depth <= DEEPEST_CALLS, true);
    }

    private static void addCalls(String line, Set<String> calls) {
        Matcher call = CALL.matcher(line);
        while (call.find()) {
            if (!NOT_CALLS.contains(call.group(1))) {
                calls.add(call.group(1));
                check.about("rule 10");
                check.due("a call in the arguments: " + line, hasCallInArguments(line, call.end()), false);
            }
        }
    }

    /** Looks from the first argument on to the parenthesis that closes the call. */
    private static boolean hasCallInArguments(String line, int start) {
        int open = 1;
        int end = start;
        while (open > 0 && end < line.length()) {
            open += line.charAt(end) == '(' ? 1 : line.charAt(end) == ')' ? -1 : 0;
            end++;
        }
        return open > 0 || CALL.matcher(line.substring(start, end)).find();
    }

    private static void rule10Sizes(String code) {
        check.about("rule 10");
        int fields = 0;
        for (Field field : FactorGraph.class.getDeclaredFields()) {
            fields += Modifier.isStatic(field.getModifiers()) ? 0 : 1;
        }
        check.due("at most forty fields", fields <= 40, true);
        for (Method method : FactorGraph.class.getDeclaredMethods()) {
            check.due("at most seven parameters of " + method, method.getParameterCount() <= 7, true);
        }
        int lines = 0;
        for (String line : code.split("\n")) {
            lines = METHOD.matcher(line).matches() ? 0 : lines + 1;
            if (line.equals("    }")) {
                check.due("a method of " + lines + " lines is short", lines <= 60, true);
            }
        }
    }

    private static int count(String code, String pattern) {
        Matcher matcher = Pattern.compile(pattern).matcher(code);
        int found = 0;
        while (matcher.find()) {
            found++;
        }
        return found;
    }
}
