import java.io.IOException;
import java.lang.reflect.Method;
import java.lang.reflect.Modifier;
import java.nio.file.Files;
import java.nio.file.Path;
import java.util.regex.Matcher;
import java.util.regex.Pattern;

/** README.md tells the truth: its calls are made, and each answers what stands behind it. */
public final class ReadmeTest {
    private static final Calls T = new Calls("ReadmeTest");
    private static final Pattern CALL = Pattern.compile("^state\\.(\\w+)\\(([^)]*)\\); *// (-?\\d+): .*$");

    public static void main(String[] args) throws Exception {
        String readme = Files.readString(Path.of("README.md"));
        example(readme);
        texts(readme);
        face(readme);
        tests(readme);
        T.end();
    }

    private static void example(String readme) throws ReflectiveOperationException {
        T.says("the example");
        String block = readme.substring(readme.indexOf("```java") + 8);
        OneCoin state = null;
        int calls = 0;
        for (String line : block.substring(0, block.indexOf("```")).split("\n")) {
            Matcher m = CALL.matcher(line);
            if (line.equals("OneCoin state = new OneCoin();")) {
                state = new OneCoin();
            } else if (m.matches() && state != null) {
                calls++;
                T.due(line, answer(state, m.group(1), m.group(2)), Integer.parseInt(m.group(3)));
            } else {
                T.due("a line of the example that is no call: " + line, 1, 0);
            }
        }
        T.due("calls in the example", calls > 0, true);
    }

    private static long answer(OneCoin state, String name, String list) throws ReflectiveOperationException {
        Object[] ints = list.isEmpty() ? new Object[0] : Pattern.compile(", ").splitAsStream(list).map(Integer::decode).toArray();
        for (Method method : OneCoin.class.getDeclaredMethods()) {
            if (method.getName().equals(name)) {
                Object answer = method.invoke(state, ints);
                return answer instanceof Boolean ? ((Boolean) answer ? 1 : 0) : (Integer) answer;
            }
        }
        throw new NoSuchMethodException(name);
    }

    private static String textOf(String readme, String name) {
        Matcher m = Pattern.compile("^\\| " + name + " \\| `([^`]+)` \\|", Pattern.MULTILINE).matcher(readme);
        return m.find() ? m.group(1) : "";
    }

    private static void texts(String readme) {
        T.says("the three texts");
        OneCoin x = Calls.people(4);
        T.due("DEBTS", Calls.debts(x, textOf(readme, "DEBTS")), 3);
        T.due("a owes b two coins", x.owes(0, 1), 2);
        T.due("b owes c one", x.owes(1, 2), 1);
        T.due("THE LAW", Calls.law(x, textOf(readme, "THE LAW")), 4);
        T.due("who is near is liked if more than one coin is owed", x.likes(0, 1), 8);
        T.due("not for one coin", x.likes(0, 3), 0);
        x.debt(1, 2, 2);
        T.due("nobody pays c", x.likes(1, 2), 0);
        T.due("a coin of interest a DAY, of each DEBT", x.tried(1, 4), 2);
        T.due("rain on three of ten", x.dry(1, 0), 7);
        x.hours(120);
        T.due("of the first five DAYS", x.dry(1, 0), 1);
        Calls.debts(x, "a>b;b>a2;a>c;a>b");
        x.coin(0);
        T.due("a ROUTE", Calls.walk(x, textOf(readme, "a ROUTE")), 5);
        int chalked = x.count(8);
        int[] row = {1, 0, 1, 0, 2};
        for (int k = 0; k < row.length; k++) {
            T.due("paid in this order", x.chalk(chalked - row.length + k), row[k]);
        }
    }

    private static void face(String readme) {
        T.says("no call is left out");
        for (Method method : OneCoin.class.getDeclaredMethods()) {
            if (Modifier.isPublic(method.getModifiers())) {
                T.due(method.getName(), readme.contains("`" + method.getName() + "`"), true);
            }
        }
    }

    private static void tests(String readme) throws IOException {
        T.says("each test is named");
        try (var files = Files.list(Path.of("src/test/java"))) {
            for (Path file : files.filter(f -> f.toString().endsWith("Test.java")).toList()) {
                String name = file.getFileName().toString().replace(".java", "");
                T.due(name, readme.contains("`" + name + "`"), true);
            }
        }
    }
}
