import java.lang.reflect.Method;
import java.lang.reflect.Modifier;
import java.nio.charset.StandardCharsets;
import java.nio.file.Files;
import java.nio.file.Path;
import java.util.Arrays;
import java.util.List;
import java.util.regex.Matcher;
import java.util.regex.Pattern;

/** README.md tells the truth: its examples are run, and its table and its list of tests are whole. */
public final class ReadmeTest {
    private static final Check CHECK = new Check();
    private static final Pattern CALL = Pattern.compile("x\\.(\\w+)\\((.*)\\); +// ([-\\w]+)(: .*)?");
    private static final String NEW_OBJECT = "LectureTurns x = new LectureTurns();";

    private static LectureTurns x;
    private static int calls;

    public static void main(String[] args) throws Exception {
        String text = Files.readString(Path.of("README.md"), StandardCharsets.UTF_8);
        examplesAnswerAsTold(text);
        tableHasEveryCall(text);
        listHasEveryTest(text);
        CHECK.end();
    }

    private static void examplesAnswerAsTold(String text) throws Exception {
        boolean inside = false;
        for (String line : text.split("\n")) {
            if (line.startsWith("```")) {
                inside = line.equals("```java");
            } else if (inside) {
                runLine(line);
            }
        }
        CHECK.holds("the examples have calls", calls > 0);
    }

    private static void runLine(String line) throws Exception {
        if (line.equals(NEW_OBJECT)) {
            x = new LectureTurns();
            return;
        }
        Matcher matcher = CALL.matcher(line);
        CHECK.holds("a call and its answer: " + line, matcher.matches());
        if (matcher.matches()) {
            calls++;
            CHECK.due("README: " + line, answerOf(matcher.group(3)), run(matcher.group(1), matcher.group(2)));
        }
    }

    private static int run(String name, String list) throws Exception {
        Object[] values = Arrays.stream(list.split(", ")).filter(value -> !value.isEmpty())
                .map(ReadmeTest::argumentOf).toArray();
        Class<?>[] types = new Class<?>[values.length];
        Arrays.fill(types, int.class);
        return (Integer) LectureTurns.class.getMethod(name, types).invoke(x, values);
    }

    private static Integer argumentOf(String value) {
        return value.startsWith("'") ? Integer.valueOf(value.charAt(1)) : Integer.valueOf(value);
    }

    private static int answerOf(String told) throws Exception {
        return Character.isLetter(told.charAt(0)) ? LectureTurns.class.getField(told).getInt(null)
                : Integer.parseInt(told);
    }

    private static void tableHasEveryCall(String text) {
        for (Method method : LectureTurns.class.getDeclaredMethods()) {
            if (Modifier.isPublic(method.getModifiers())) {
                Matcher row = Pattern.compile("\n\\| `" + method.getName() + "\\((.*)\\)` \\|").matcher(text);
                boolean found = row.find();
                CHECK.holds("a row for " + method.getName(), found);
                int told = !found || row.group(1).isEmpty() ? 0 : row.group(1).split(", ").length;
                CHECK.due("arguments of " + method.getName(), method.getParameterCount(), told);
            }
        }
    }

    private static void listHasEveryTest(String text) throws Exception {
        try (var files = Files.list(Path.of("src/test/java"))) {
            List<String> names = files.map(file -> file.getFileName().toString())
                    .filter(name -> name.endsWith("Test.java")).toList();
            for (String name : names) {
                String test = name.substring(0, name.length() - ".java".length());
                CHECK.holds("README tells of " + test, text.contains("`" + test + "`"));
            }
        }
    }
}
