import java.io.IOException;
import java.lang.reflect.Method;
import java.lang.reflect.Modifier;
import java.nio.charset.StandardCharsets;
import java.nio.file.Files;
import java.nio.file.Path;
import java.util.List;
import java.util.Set;
import java.util.TreeSet;
import java.util.regex.Matcher;
import java.util.regex.Pattern;

/** README.md: the calls of its example answer what stands beside them, and no call is left out. */
public final class ReadmeTest {
    private static final Due DUE = new Due("README.md");
    private static final Pattern CALL = Pattern.compile("x\\.(\\w+)\\(([^)]*)\\); +// (NONE|true|false|\\d+)\\b.*");
    private static final Pattern ROW = Pattern.compile("\\| `(\\w+)\\(([^)]*)\\)` \\|.*");

    private static List<String> lines() throws IOException {
        return Files.readAllLines(Path.of("README.md"), StandardCharsets.UTF_8);
    }

    /** The lines between ```java and ```, without the one that makes the object. */
    private static List<String> example() throws IOException {
        List<String> all = lines();
        int from = all.indexOf("```java") + 1;
        DUE.holds("its first line makes the object", all.get(from).equals("BetweenCounts x = new BetweenCounts();"));
        List<String> rest = all.subList(from + 1, all.size());
        return rest.subList(0, rest.indexOf("```"));
    }

    /** Each call by its name and how many arguments it has. */
    private static Set<String> face() {
        Set<String> calls = new TreeSet<>();
        for (Method m : BetweenCounts.class.getDeclaredMethods()) {
            if (Modifier.isPublic(m.getModifiers())) {
                calls.add(m.getName() + " " + m.getParameterCount());
            }
        }
        return calls;
    }

    private static String[] split(String arguments) {
        return arguments.isEmpty() ? new String[0] : arguments.split(", ");
    }

    private static long answer(BetweenCounts x, String name, String[] arguments) throws ReflectiveOperationException {
        Class<?>[] types = new Class<?>[arguments.length];
        Object[] values = new Object[arguments.length];
        for (int i = 0; i < arguments.length; i++) {
            types[i] = int.class;
            values[i] = Integer.valueOf(arguments[i]);
        }
        Object answer = BetweenCounts.class.getMethod(name, types).invoke(x, values);
        return answer instanceof Boolean ? due(answer.toString()) : ((Number) answer).longValue();
    }

    private static long due(String text) {
        switch (text) {
            case "NONE":
                return BetweenCounts.NONE;
            case "true":
                return 1;
            case "false":
                return 0;
            default:
                return Long.parseLong(text);
        }
    }

    /** Every line of the example is a call, and its answer the first word of the comment. */
    static void theExampleAnswersWhatItSays() throws Exception {
        BetweenCounts x = new BetweenCounts();
        Set<String> called = new TreeSet<>();
        for (String line : example()) {
            Matcher call = CALL.matcher(line);
            boolean isCall = call.matches();
            DUE.holds("a call with an answer: " + line, isCall);
            if (isCall) {
                String[] arguments = split(call.group(2));
                called.add(call.group(1) + " " + arguments.length);
                DUE.is(line, answer(x, call.group(1), arguments), due(call.group(3)));
            }
        }
        DUE.holds("every call is in it: " + called, called.equals(face()));
    }

    /** The table has a row for each call, with as many arguments as the call has. */
    static void theTableHasEveryCall() throws Exception {
        Set<String> told = new TreeSet<>();
        for (String line : lines()) {
            Matcher row = ROW.matcher(line);
            if (row.matches()) {
                told.add(row.group(1) + " " + split(row.group(2)).length);
            }
        }
        DUE.holds("every call has a row: " + told, told.equals(face()));
    }

    public static void main(String[] args) throws Exception {
        DUE.runAll(ReadmeTest.class);
    }
}
