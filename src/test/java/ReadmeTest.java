import java.io.IOException;
import java.lang.reflect.Method;
import java.lang.reflect.Modifier;
import java.nio.file.Files;
import java.nio.file.Path;
import java.util.ArrayList;
import java.util.HashMap;
import java.util.List;
import java.util.Map;
import java.util.Set;
import java.util.TreeMap;
import java.util.TreeSet;
import java.util.regex.Matcher;
import java.util.regex.Pattern;

/** What README.md says of the class is what the class does. */
public final class ReadmeTest {
    private static final Due due = new Due("ReadmeTest");

    private static final Pattern CALL = Pattern.compile("(?:int (\\w+) = )?x\\.(\\w+)\\(([^)]*)\\);\\s+// (-?\\d+)\\b.*");
    private static final Pattern ROW = Pattern.compile("\\| `(\\w+) (\\w+)\\(([^)]*)\\)` \\|([^|]+)\\|([^|]*)\\|");
    private static final String[] REFUSALS = {"UNKNOWN", "OUTSIDE", "STATE", "ROOM"};
    /** Numbers that are in place somewhere, just beside it, and far off; none makes a place with a refusal's number. */
    private static final int[] ARGUMENTS = {-1, 0, 1, 2, 3, 4, 10, 2000};

    private static Map<String, Method> calls() {
        Map<String, Method> found = new TreeMap<>();
        for (Method m : CreaseFlat.class.getDeclaredMethods()) {
            if (Modifier.isPublic(m.getModifiers())) {
                found.put(m.getName(), m);
            }
        }
        return found;
    }

    private static long ask(CreaseFlat x, Method m, List<Integer> arguments) throws ReflectiveOperationException {
        Object[] given = new Object[arguments.size()];
        for (int i = 0; i < given.length; i++) {
            int v = arguments.get(i);
            // A cast, as ?: would make both a Long.
            given[i] = m.getParameterTypes()[i] == long.class ? (Object) Long.valueOf(v) : (Object) Integer.valueOf(v);
        }
        return ((Number) m.invoke(x, given)).longValue();
    }

    private static void example(List<String> lines) throws ReflectiveOperationException {
        int from = lines.indexOf("CreaseFlat x = new CreaseFlat();");
        due.holds("README.md shows how an object is made", from >= 0);
        CreaseFlat x = new CreaseFlat();
        Map<String, Integer> papers = new HashMap<>();
        int asked = 0;
        for (int i = from + 1; i < lines.size() && !lines.get(i).equals("```"); i++) {
            Matcher call = CALL.matcher(lines.get(i));
            due.holds("the example's line is a call with its answer: " + lines.get(i), call.matches());
            if (!call.matches()) {
                break;
            }
            List<Integer> arguments = new ArrayList<>();
            for (String word : call.group(3).split(", ")) {
                arguments.add(papers.containsKey(word) ? papers.get(word) : Integer.valueOf(word));
            }
            long answer = ask(x, calls().get(call.group(2)), arguments);
            due.is("the example's " + call.group(2) + "(" + call.group(3) + ")", answer, Long.parseLong(call.group(4)));
            if (call.group(1) != null) {
                papers.put(call.group(1), (int) answer);
            }
            asked++;
        }
        due.holds("the example has calls", asked > 0);
    }

    private static void numbers(String text) throws ReflectiveOperationException {
        int last = -1;
        for (String name : REFUSALS) {
            int number = CreaseFlat.class.getField(name).getInt(null);
            int at = text.indexOf("| `" + name + "` | " + number + " |");
            due.holds(name + " stands with its number behind those that come first", at > last);
            last = at;
        }
        due.holds("NONE stands with its number", text.contains("`NONE` (" + CreaseFlat.NONE + ")"));
    }

    /** One with nothing, one of each kind with all told, one with no room. */
    private static CreaseFlat[] objects() {
        CreaseFlat[] made = {new CreaseFlat(), new CreaseFlat(), new CreaseFlat()};
        for (int i = 1; i < made.length; i++) {
            made[i].strip(4);
            made[i].corner(4);
            made[i].map(2, 2);
            made[i].judge(0);
            made[i].simple(0);
        }
        for (int i = 0; i < 27; i++) {
            made[2].strip(1);
        }
        return made;
    }

    private static Set<String> refusalsMet(Method m) throws ReflectiveOperationException {
        Set<String> met = new TreeSet<>();
        int count = (int) Math.pow(ARGUMENTS.length, m.getParameterCount());
        for (CreaseFlat x : objects()) {
            for (int n = 0; n < count; n++) {
                List<Integer> arguments = new ArrayList<>();
                for (int i = 0, rest = n; i < m.getParameterCount(); i++, rest /= ARGUMENTS.length) {
                    arguments.add(ARGUMENTS[rest % ARGUMENTS.length]);
                }
                long answer = ask(x, m, arguments);
                for (String name : REFUSALS) {
                    if (answer == CreaseFlat.class.getField(name).getInt(null)) {
                        met.add(name);
                    }
                }
            }
        }
        return met;
    }

    private static Set<String> refusalsIn(String cell) {
        Set<String> named = new TreeSet<>();
        for (String name : REFUSALS) {
            if (cell.contains("`" + name + "`")) {
                named.add(name);
            }
        }
        return named;
    }

    private static void table(List<String> lines) throws ReflectiveOperationException {
        Map<String, Method> missing = calls();
        for (String line : lines) {
            Matcher row = ROW.matcher(line);
            if (row.matches()) {
                Method m = missing.remove(row.group(2));
                due.holds(row.group(2) + " is a call, and has one row", m != null);
                if (m != null) {
                    due.holds(row.group(2) + " has its types", types(m).equals(row.group(1) + " " + row.group(3).replaceAll("(\\w+) \\w+", "$1")));
                    due.holds(row.group(2) + " has its answer", !row.group(4).isBlank());
                    Set<String> met = refusalsMet(m);
                    due.holds(row.group(2) + " refuses by " + met, met.equals(refusalsIn(row.group(5))));
                }
            }
        }
        due.holds("every call has a row; none have " + missing.keySet(), missing.isEmpty());
    }

    private static String types(Method m) {
        List<String> names = new ArrayList<>();
        for (Class<?> type : m.getParameterTypes()) {
            names.add(type.getName());
        }
        return m.getReturnType().getName() + " " + String.join(", ", names);
    }

    /** Every test of the project is named, and how they are run. */
    private static void tests(String text) throws IOException {
        due.holds("how its tests are run", text.contains("\n.ci/run\n"));
        try (var files = Files.list(Path.of("src/test/java"))) {
            for (Path file : files.toList()) {
                String name = file.getFileName().toString().replace(".java", "");
                due.holds(name + " is named", text.contains("`" + name + "`"));
            }
        }
    }

    public static void main(String[] args) throws IOException, ReflectiveOperationException {
        String text = Files.readString(Path.of("README.md"));
        List<String> lines = text.lines().toList();
        example(lines);
        numbers(text);
        table(lines);
        tests(text);
        due.end();
    }
}
