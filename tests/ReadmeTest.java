import java.io.IOException;
import java.lang.reflect.InvocationTargetException;
import java.lang.reflect.Method;
import java.nio.file.Files;
import java.nio.file.Path;
import java.util.ArrayList;
import java.util.List;
import java.util.Set;
import java.util.TreeSet;
import java.util.regex.Matcher;
import java.util.regex.Pattern;
import java.util.stream.Stream;

/** That what README.md shows as calls and answers is so, that it shows each call, and that it names each test. */
public final class ReadmeTest {
    private static final Path README = Path.of("README.md");
    private static final Path DOCUMENT = Path.of("../shared/DOC.md");
    private static final Pattern MADE = Pattern.compile("FirstSeconds x = new FirstSeconds\\(\\);");
    private static final Pattern CALL = Pattern.compile("x\\.(\\w+)\\((.*)\\); +// (-?\\d+|[A-Z]+)(:? .*)?");
    private static final Pattern GROUP = Pattern.compile("Ahead of the calls (.*) the interface says: ---- (.*)\\.");
    private static final int MOST_CALLS = 512;

    private static final Due due = new Due();

    public static void main(String[] args) throws Exception {
        List<String> lines = Files.readAllLines(README);
        whatItShowsIsSo(lines);
        eachCallIsShown(lines);
        constantsAreAsTold(lines);
        theGroupsAreTheDocuments();
        eachTestIsNamed();
        due.end();
    }

    /** What stands in the blocks of Java, without the marks of these. */
    private static List<String> shown(List<String> lines) {
        List<String> all = new ArrayList<>();
        boolean inside = false;
        for (String line : lines) {
            if (line.startsWith("```")) inside = line.equals("```java");
            else if (inside) all.add(line);
        }
        return all;
    }

    private static void whatItShowsIsSo(List<String> lines) throws Exception {
        FirstSeconds x = null;
        int calls = 0;
        for (String line : shown(lines)) {
            if (MADE.matcher(line).matches()) {
                x = new FirstSeconds();
                continue;
            }
            Matcher call = CALL.matcher(line);
            boolean shows = x != null && call.matches();
            due.is("a call and its answer: " + line, shows ? 1 : 0, 1);
            if (shows) due.is("README.md: " + line, answer(x, call.group(1), call.group(2)), number(call.group(3)));
            calls++;
        }
        due.is("some calls, and not too many", calls > 0 && calls <= MOST_CALLS ? 1 : 0, 1);
    }

    private static long answer(FirstSeconds x, String name, String given) throws Exception {
        String[] args = given.isEmpty() ? new String[0] : given.split(", ");
        for (Method m : FirstSeconds.class.getMethods()) {
            if (!m.getName().equals(name) || m.getParameterCount() != args.length) continue;
            Object[] values = new Object[args.length];
            for (int i = 0; i < args.length; i++) values[i] = value(m.getParameterTypes()[i], args[i]);
            return ((Number) invoke(m, x, values)).longValue();
        }
        throw new IllegalArgumentException("no call " + name + "(" + given + ")");
    }

    private static Object value(Class<?> type, String arg) {
        if (type != boolean.class) return Integer.valueOf(arg);
        if (!arg.equals("true") && !arg.equals("false")) throw new IllegalArgumentException(arg);
        return arg.equals("true");
    }

    private static Object invoke(Method m, FirstSeconds x, Object[] values) throws Exception {
        try {
            return m.invoke(x, values);
        } catch (InvocationTargetException thrown) {
            throw new IllegalStateException(m.getName() + " threw", thrown.getCause());
        }
    }

    private static long number(String answer) throws ReflectiveOperationException {
        if (Character.isLetter(answer.charAt(0))) return FirstSeconds.class.getField(answer).getInt(null);
        return Long.parseLong(answer);
    }

    /** Each call of the face stands in a block of Java and in a table. */
    private static void eachCallIsShown(List<String> lines) {
        String blocks = String.join("\n", shown(lines));
        for (Method m : FirstSeconds.class.getDeclaredMethods()) {
            if (!java.lang.reflect.Modifier.isPublic(m.getModifiers())) continue;
            due.is(m.getName() + " is shown", blocks.contains("x." + m.getName() + "(") ? 1 : 0, 1);
            long rows = lines.stream().filter(line -> line.startsWith("| `" + m.getName() + "(")).count();
            due.is(m.getName() + " has a row", rows, 1);
        }
    }

    private static void constantsAreAsTold(List<String> lines) throws ReflectiveOperationException {
        String all = String.join("\n", lines);
        for (String name : new String[] {"BAD", "FULL", "FINDING", "STATE", "NONE"}) {
            due.is(name + " is told", all.contains("`" + name + "` (" + number(name) + ")") ? 1 : 0, 1);
        }
    }

    /** The headings of the groups are the document's, and below each stand its calls, in its order. */
    private static void theGroupsAreTheDocuments() throws IOException {
        if (!Files.exists(DOCUMENT)) {
            System.out.println(DOCUMENT + " is not there: not looked at");
            return;
        }
        String readme = Files.readString(README);
        int groups = 0;
        for (String line : Files.readAllLines(DOCUMENT)) {
            Matcher group = GROUP.matcher(line);
            if (!group.matches()) continue;
            groups++;
            int begin = readme.indexOf("\n### " + group.group(2) + "\n");
            due.is("a heading: " + group.group(2), begin >= 0 ? 1 : 0, 1);
            if (begin < 0) continue;
            String part = readme.substring(begin, readme.indexOf("\n### ", begin + 1));
            due.is("calls of " + group.group(2), rowsOf(part), group.group(1).replace("`", ""));
        }
        due.is("groups", groups, 4);
    }

    private static String rowsOf(String part) {
        List<String> names = new ArrayList<>();
        Matcher row = Pattern.compile("\n\\| `(\\w+)\\(").matcher(part);
        while (row.find()) names.add(row.group(1));
        return String.join(", ", names);
    }

    private static void eachTestIsNamed() throws IOException {
        Set<String> there = new TreeSet<>();
        try (Stream<Path> files = Files.list(Path.of("tests"))) {
            files.filter(file -> file.toString().endsWith(".java")).forEach(file -> there.add("tests/" + file.getFileName()));
        }
        Set<String> named = new TreeSet<>();
        Matcher row = Pattern.compile("\n\\| `(tests/\\w+\\.java)`").matcher(Files.readString(README));
        while (row.find()) named.add(row.group(1));
        due.is("tests that are named", named.toString(), there.toString());
    }
}
