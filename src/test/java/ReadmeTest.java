import java.io.IOException;
import java.lang.reflect.Method;
import java.nio.file.Files;
import java.nio.file.Path;
import java.util.Arrays;
import java.util.Map;
import java.util.Set;
import java.util.TreeSet;
import java.util.regex.Matcher;
import java.util.regex.Pattern;

/** What README.md tells of the calls is so: its examples are run, one behind the other, on one object. */
public final class ReadmeTest {
    private static final Path README = Path.of("README.md");
    private static final Pattern BLOCK = Pattern.compile("(?s)```java\n(.*?)```");
    private static final Pattern CALL = Pattern.compile("x\\.(\\w+)\\((.*)\\); +// (\\S+)");
    private static final Pattern TEXT = Pattern.compile("text\\(x, \"(.*)\"\\); +// (\\S+)");
    private static final Pattern IN_A_TABLE = Pattern.compile("(?m)^\\| `(\\w+)\\(|; `(\\w+)\\(.*?\\)`:");
    private static final Map<String, Long> NAMED = Map.of("NONE", -1L, "BAD", -2L, "STATE", -3L, "FULL", -4L,
        "NO", -4611686018427387904L);

    private ReadmeTest() { }

    public static void main(String[] arguments) throws IOException, ReflectiveOperationException {
        Check.watch();
        String readme = Files.readString(README);
        Set<String> shown = new TreeSet<>();
        TwoOnOneDay x = new TwoOnOneDay();
        Matcher blocks = BLOCK.matcher(readme);
        while (blocks.find()) {
            String block = blocks.group(1);
            // the first block makes the object, and one tells what text() of the examples is
            if (!block.startsWith("static ") && !block.startsWith("TwoOnOneDay x = new ")) {
                for (String line : block.split("\n")) {
                    run(x, line, shown);
                }
            }
        }
        Set<String> face = new TreeSet<>();
        for (Method method : TwoOnOneDay.class.getMethods()) {
            if (method.getDeclaringClass() == TwoOnOneDay.class) {
                face.add(method.getName());
            }
        }
        Check.same("calls that examples show", shown.toString(), face.toString());
        Check.same("calls that tables tell", told(readme).toString(), face.toString());
        Check.end();
    }

    private static void run(TwoOnOneDay x, String line, Set<String> shown) throws ReflectiveOperationException {
        Matcher text = TEXT.matcher(line);
        Matcher call = CALL.matcher(line);
        if (text.matches()) {
            Check.due(line, Check.text(x, text.group(1)), number(text.group(2)));
        } else if (call.matches()) {
            shown.add(call.group(1));
            Check.due(line, answer(x, call.group(1), call.group(2)), number(call.group(3)));
        } else {
            Check.isTrue("is an example: " + line, false);
        }
    }

    private static long answer(TwoOnOneDay x, String name, String told) throws ReflectiveOperationException {
        Object[] numbers = told.isEmpty() ? new Object[0]
            : Arrays.stream(told.split(", ")).map(ReadmeTest::argument).toArray();
        Class<?>[] types = new Class<?>[numbers.length];
        Arrays.fill(types, int.class);
        return ((Number) TwoOnOneDay.class.getMethod(name, types).invoke(x, numbers)).longValue();
    }

    private static int argument(String told) {
        return told.startsWith("'") ? told.charAt(1) : Integer.parseInt(told);
    }

    private static long number(String told) {
        return NAMED.containsKey(told) ? NAMED.get(told) : Long.parseLong(told);
    }

    private static Set<String> told(String readme) {
        Set<String> names = new TreeSet<>();
        Matcher tables = IN_A_TABLE.matcher(readme);
        while (tables.find()) {
            names.add(tables.group(1) != null ? tables.group(1) : tables.group(2));
        }
        return names;
    }
}
