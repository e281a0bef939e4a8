import java.lang.reflect.Method;
import java.nio.file.Files;
import java.nio.file.Path;
import java.util.regex.Matcher;
import java.util.regex.Pattern;

/** Each call of README.md's example answers what stands behind it. */
public final class ReadmeTest {
    private static final Pattern CALL = Pattern.compile("g\\.(\\w+)\\((.*)\\); *// (-?\\d+|true|false)\\b.*");

    public static void main(String[] args) throws Exception {
        Check check = new Check();
        FactorGraph g = new FactorGraph();
        int calls = 0;
        for (String line : Files.readAllLines(Path.of("README.md"))) {
            Matcher call = CALL.matcher(line);
            if (call.matches()) {
                Object answer = made(g, call.group(1), call.group(2));
                check.due(line, number(answer.toString()), number(call.group(3)));
                calls++;
            } else {
                check.due(line + " (has no answer)", line.startsWith("g."), false);
            }
        }
        check.due("the example has calls", calls > 0, true);
        check.end();
    }

    private static long number(String answer) {
        return switch (answer) {
            case "true" -> 1;
            case "false" -> 0;
            default -> Long.parseLong(answer);
        };
    }

    private static Object made(FactorGraph g, String name, String list) throws Exception {
        String[] words = list.isEmpty() ? new String[0] : list.split(", *");
        Object[] numbers = new Object[words.length];
        Class<?>[] types = new Class<?>[words.length];
        for (int i = 0; i < words.length; i++) {
            numbers[i] = Integer.valueOf(words[i]);
            types[i] = int.class;
        }
        Method method = FactorGraph.class.getMethod(name, types);
        return method.invoke(g, numbers);
    }
}
