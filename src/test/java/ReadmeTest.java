import java.lang.reflect.Method;
import java.lang.reflect.Modifier;
import java.nio.file.Files;
import java.nio.file.Path;
import java.util.Arrays;
import java.util.List;
import java.util.TreeSet;
import java.util.regex.Matcher;
import java.util.regex.Pattern;

/** What README.md says of the class holds: its examples, its rows of calls, of refusals and of tests. */
public final class ReadmeTest {
    private static final Due due = new Due("ReadmeTest");
    private static final Pattern CALL = Pattern.compile("x\\.(\\w+)\\(([^)]*)\\);\\s+// -> (-?\\d+)(:.*)?");
    private static final Pattern FED = Pattern.compile("for \\(char c : \"([^\"]*)\"\\.toCharArray\\(\\)\\) x\\.feed\\(c\\);");
    private static final Pattern ROW = Pattern.compile("\\| `(\\w+)\\(([^)]*)\\)` \\|.*");

    public static void main(String[] args) throws Exception {
        List<String> page = Files.readAllLines(Path.of("README.md"));
        examples(page);
        calls(page);
        refusals(page);
        tests(page);
        due.end();
    }

    private static void examples(List<String> page) throws Exception {
        NeverSeen x = null;
        int told = 0;
        boolean inside = false;
        for (String line : page) {
            if (line.startsWith("```")) {
                inside = line.equals("```java");
            } else if (inside) {
                Matcher call = CALL.matcher(line);
                Matcher fed = FED.matcher(line);
                if (line.equals("NeverSeen x = new NeverSeen();")) {
                    x = new NeverSeen();
                } else if (fed.matches()) {
                    Due.feed(x, fed.group(1));
                } else if (call.matches()) {
                    due.is(line, answer(x, call.group(1), call.group(2)), Long.parseLong(call.group(3)));
                    told++;
                } else {
                    due.is("an example that isn't understood: " + line, 1, 0);
                }
            }
        }
        due.is("examples", told >= 20 ? 1 : 0, 1);
    }

    private static Method method(String name) {
        for (Method m : NeverSeen.class.getDeclaredMethods()) {
            if (m.getName().equals(name) && Modifier.isPublic(m.getModifiers())) {
                return m;
            }
        }
        return null;
    }

    private static long answer(NeverSeen x, String name, String inside) throws Exception {
        Object[] values = Arrays.stream(inside.split(",")).map(String::trim).filter(w -> !w.isEmpty()).map(Integer::valueOf).toArray();
        return ((Number) method(name).invoke(x, values)).longValue();
    }

    /** Each call of the face has its row, with as many parameters. */
    private static void calls(List<String> page) {
        TreeSet<String> named = new TreeSet<>();
        for (String line : page) {
            Matcher row = ROW.matcher(line);
            if (row.matches()) {
                Method m = method(row.group(1));
                int parameters = row.group(2).isEmpty() ? 0 : row.group(2).split(",").length;
                due.is("row of " + row.group(1), m == null ? -1 : m.getParameterCount(), parameters);
                named.add(row.group(1));
            }
        }
        for (Method m : NeverSeen.class.getDeclaredMethods()) {
            if (Modifier.isPublic(m.getModifiers())) {
                due.is(m.getName() + " has a row", named.contains(m.getName()) ? 1 : 0, 1);
            }
        }
    }

    private static void refusals(List<String> page) {
        String[] starts = {
            "| " + NeverSeen.BAD + " | `BAD` |", "| " + NeverSeen.STATE + " | `STATE` |", "| " + NeverSeen.FULL + " | `FULL` |",
            "| -11 |", "| -12 |", "| -13 |", "| -14 |", "| " + NeverSeen.NO + " | `NO` |",
        };
        for (String start : starts) {
            due.is("a row that begins " + start, page.stream().filter(line -> line.startsWith(start)).count(), 1);
        }
    }

    /** Each test that .ci/run runs has its row, and no other. */
    private static void tests(List<String> page) {
        TreeSet<String> rows = new TreeSet<>();
        for (String line : page) {
            if (line.matches("\\| \\w+Test \\|.*")) {
                rows.add(line.substring(2, line.indexOf(' ', 2)));
            }
        }
        TreeSet<String> files = new TreeSet<>();
        for (String file : Path.of("src/test/java").toFile().list()) {
            if (file.endsWith("Test.java")) {
                files.add(file.substring(0, file.length() - 5));
            }
        }
        due.is("tests with a row: " + rows + ", tests: " + files, rows.equals(files) ? 1 : 0, 1);
    }
}
