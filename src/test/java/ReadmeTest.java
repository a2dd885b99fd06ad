import java.io.IOException;
import java.lang.reflect.Method;
import java.nio.file.Files;
import java.nio.file.Path;
import java.util.Arrays;
import java.util.Set;
import java.util.TreeSet;
import java.util.regex.Matcher;
import java.util.regex.Pattern;

// What README.md says of answers, read from README.md itself, so that the two can't part. It is run
// from the project's folder, as .ci/run does.
public final class ReadmeTest {
    private static final Path README = Path.of("README.md");
    private static final Pattern EXAMPLE = Pattern.compile("(?s)```java\\n(.*?)```");
    private static final Pattern ROW = Pattern.compile("(?m)^\\| `(\\w+)\\(([^)]*)\\)` \\| .+ \\|$");
    private static final Pattern CALL = Pattern.compile(
            "x\\.(\\w+)\\(([-\\d, ]*)\\);\\s+// (-?\\d+|true|false)(: .+)?");
    private static final String MADE = "TightDomains x = new TightDomains();";

    private static int wrong = 0;

    private static void due(String what, Object got, Object want) {
        if (!got.equals(want)) {
            wrong++;
            System.out.println("README.md: " + what + " is " + got + ", due is " + want);
        }
    }

    // A call by its name and how many arguments it has, as each name is there once.
    private static String shape(String name, String arguments) {
        return name + "/" + (arguments.isBlank() ? 0 : arguments.split(",").length);
    }

    private static Set<String> callsOfTheClass() {
        Set<String> shapes = new TreeSet<>();
        for (Method m : TightDomains.class.getMethods()) {
            if (m.getDeclaringClass() == TightDomains.class) {
                shapes.add(m.getName() + "/" + m.getParameterCount());
            }
        }
        return shapes;
    }

    private static void lookAtTable(String text) {
        Set<String> told = new TreeSet<>();
        Matcher row = ROW.matcher(text);
        while (row.find()) {
            told.add(shape(row.group(1), row.group(2)));
        }
        due("the table of calls", told, callsOfTheClass());
    }

    private static Object answer(TightDomains x, String name, String arguments) throws ReflectiveOperationException {
        String[] numbers = arguments.isBlank() ? new String[0] : arguments.split(", ");
        Class<?>[] types = new Class<?>[numbers.length];
        Arrays.fill(types, int.class);
        Object[] values = Arrays.stream(numbers).map(Integer::valueOf).toArray();
        return TightDomains.class.getMethod(name, types).invoke(x, values);
    }

    private static void lookAtExample(String[] lines) throws ReflectiveOperationException {
        due("the first line of the example", lines[0], MADE);
        TightDomains x = new TightDomains();
        Set<String> shown = new TreeSet<>();
        for (int at = 1; at < lines.length; at++) {
            Matcher call = CALL.matcher(lines[at]);
            if (call.matches()) {
                Object got = answer(x, call.group(1), call.group(2));
                due(lines[at], call.group(3), got.toString());
                shown.add(shape(call.group(1), call.group(2)));
            } else {
                due("a call with its answer in: " + lines[at], false, true);
            }
        }
        due("what the example calls", shown, callsOfTheClass());
    }

    private static void lookAtConstants(String text) {
        due("BAD_ARG told", text.contains("`BAD_ARG` (" + TightDomains.BAD_ARG + ")"), true);
        due("NONE told", text.contains("`NONE` is " + TightDomains.NONE + "."), true);
    }

    private static void lookAtTests(String text) throws IOException {
        try (var files = Files.list(Path.of("src/test/java"))) {
            for (Path file : files.toList()) {
                String name = file.getFileName().toString().replace(".java", "");
                due(name + " told", text.contains("- `" + name + "`: "), true);
            }
        }
    }

    public static void main(String[] args) throws IOException, ReflectiveOperationException {
        String text = Files.readString(README);
        Matcher example = EXAMPLE.matcher(text);
        due("an example found", example.find(), true);
        if (wrong == 0) {
            lookAtExample(example.group(1).split("\n"));
        }
        due("a second example", example.find(), false);
        lookAtTable(text);
        lookAtConstants(text);
        lookAtTests(text);
        System.out.println(wrong == 0 ? "README.md holds" : wrong + " things in README.md do not hold");
        if (wrong != 0) {
            System.exit(1);
        }
    }
}
