import java.lang.reflect.Constructor;
import java.lang.reflect.Field;
import java.lang.reflect.Method;
import java.lang.reflect.Modifier;
import java.nio.file.Files;
import java.nio.file.Path;
import java.util.ArrayList;
import java.util.Arrays;
import java.util.List;
import java.util.Set;
import java.util.TreeSet;
import java.util.regex.Matcher;
import java.util.regex.Pattern;

/** The document's face, and the rules of LANGUAGE.md that a program can look for. */
public final class FaceTest {
    private static final String[] FACE = {
        "int rule(int, int)", "int station(int)", "int town(int)", "int deaf(int, boolean)", "int travel(int, int)",
        "int later(int)", "int row(int, int)", "int lay(int, int, int)", "int tear(int)",
        "int copy(int, int, int, int, int)", "int mean(int)", "int first(int, int, int, int, int)",
        "int pick(int, int, int)", "int told(int, int)", "int mark(int, int)", "int quake(int, int)",
        "int cell(int, int)", "int time(int, int, boolean)", "int holds(int, int, int)", "int felt(int, int)",
        "int level(int, int)", "int warn()", "int drill(int, int)", "int message(int, int)", "int alarm(int, int)",
        "int late(int, int)", "int left(int, int)", "int asked()", "int count(int)", "int finding()",
        "int findings(int)", "long digest()",
    };
    /** By group, the first and the last call that stands in it; the calls are in the order of FACE. */
    private static final String[][] GROUPS = {
        {"1 the map, rows", "rule", "first"}, {"2 picks, quakes", "pick", "holds"},
        {"3 towns", "felt", "left"}, {"4 what is told", "asked", "digest"},
    };
    private static final List<String> CONSTANTS = List.of("BAD -1", "FULL -2", "FINDING -3", "STATE -4", "NONE -9");
    private static final String FORBIDDEN = "\\b(throw|throws|try|catch|finally|synchronized|assert|instanceof|Object|"
        + "Exact|System\\.(?!arraycopy)\\w+|hashCode|equals|toString|Thread|Random|native|volatile|transient|var)\\b|->|::|Exact\\(";

    private static final Path SOURCE = Path.of("src/main/java/FirstSeconds.java");

    private static int wrong = 0;

    public static void main(String[] args) throws Exception {
        theFaceIsWhole();
        theGroupsAreTold();
        nothingElseIsOpen();
        classesInsideAreStatic();
        wordsThatAreRuledOut();
        System.out.println(wrong == 0 ? "the face is as due" : wrong + " faults");
        if (wrong != 0) System.exit(1);
    }

    private static void must(boolean holds, String what) {
        if (holds) return;
        wrong++;
        System.out.println("not so: " + what);
    }

    private static String told(Method m) {
        StringBuilder args = new StringBuilder();
        for (Class<?> c : m.getParameterTypes()) args.append(args.length() == 0 ? "" : ", ").append(c.getName());
        return m.getReturnType().getName() + " " + m.getName() + "(" + args + ")";
    }

    private static void theFaceIsWhole() throws Exception {
        Set<String> open = new TreeSet<>();
        for (Method m : FirstSeconds.class.getDeclaredMethods()) {
            if (Modifier.isPublic(m.getModifiers())) open.add((Modifier.isStatic(m.getModifiers()) ? "static " : "") + told(m));
        }
        must(open.equals(new TreeSet<>(Arrays.asList(FACE))), "the methods are the document's: " + open);
        for (String constant : CONSTANTS) {
            Field f = FirstSeconds.class.getDeclaredField(constant.split(" ")[0]);
            must(f.getModifiers() == (Modifier.PUBLIC | Modifier.STATIC | Modifier.FINAL), constant + " is a constant");
            must(f.getInt(null) == Integer.parseInt(constant.split(" ")[1]), constant);
        }
        must(FirstSeconds.class.getModifiers() == (Modifier.PUBLIC | Modifier.FINAL), "the class is public and final");
        Constructor<?>[] made = FirstSeconds.class.getDeclaredConstructors();
        must(made.length == 1 && made[0].getParameterCount() == 0, "one constructor");
        must(Modifier.isPublic(made[0].getModifiers()), "the constructor is public");
    }

    private static String name(String call) {
        return call.replaceAll("^\\w+ |\\(.*", "");
    }

    private static Set<String> namesOfTheFace() {
        Set<String> names = new TreeSet<>();
        for (String call : FACE) names.add(name(call));
        return names;
    }

    /** Ahead of each group of calls the class says which it is, and the calls stand in the document's order. */
    private static void theGroupsAreTold() throws Exception {
        List<String> due = new ArrayList<>();
        int next = 0;
        for (String[] group : GROUPS) {
            due.add(group[0]);
            must(name(FACE[next]).equals(group[1]), group[0] + " begins with " + group[1]);
            while (!name(FACE[next]).equals(group[2])) due.add(name(FACE[next++]));
            due.add(name(FACE[next++]));
        }
        Pattern told = Pattern.compile("    // ---- (\\d .*)|    public \\w+ (\\w+)\\(.*");
        List<String> are = new ArrayList<>();
        for (String line : Files.readAllLines(SOURCE)) {
            Matcher found = told.matcher(line);
            if (found.matches()) are.add(found.group(1) != null ? found.group(1) : found.group(2));
        }
        must(are.equals(due), "the groups and their calls stand in the document's order: " + are);
    }

    private static void nothingElseIsOpen() {
        Set<String> names = namesOfTheFace();
        for (Method m : FirstSeconds.class.getDeclaredMethods()) {
            if (Modifier.isPublic(m.getModifiers())) continue;
            must(Modifier.isPrivate(m.getModifiers()), m.getName() + " is private");
            must(!names.contains(m.getName()), m.getName() + " is no public method's name");
        }
        for (Field f : FirstSeconds.class.getDeclaredFields()) {
            boolean constant = CONSTANTS.stream().anyMatch(c -> c.startsWith(f.getName() + " "));
            must(constant || Modifier.isPrivate(f.getModifiers()), f.getName() + " is private");
            must(!Modifier.isStatic(f.getModifiers()) || Modifier.isFinal(f.getModifiers()), f.getName() + " is final");
        }
    }

    private static void classesInsideAreStatic() {
        Set<String> names = namesOfTheFace();
        Class<?>[] inside = FirstSeconds.class.getDeclaredClasses();
        must(inside.length <= 11, "some twelve classes");
        for (Class<?> c : inside) {
            int is = c.getModifiers();
            must(Modifier.isStatic(is) && !Modifier.isPublic(is) && !Modifier.isProtected(is), c.getName() + " is static, not open");
            for (Method m : c.getDeclaredMethods()) must(!names.contains(m.getName()), m + " has no public method's name");
            for (Field f : c.getDeclaredFields()) {
                must(!Modifier.isStatic(f.getModifiers()) || Modifier.isFinal(f.getModifiers()), f + " is final");
            }
        }
    }

    private static void wordsThatAreRuledOut() throws Exception {
        Pattern forbidden = Pattern.compile(FORBIDDEN);
        List<String> lines = Files.readAllLines(SOURCE);
        boolean comment = false;
        for (int i = 0; i < lines.size(); i++) {
            String line = lines.get(i);
            if (line.strip().startsWith("/**")) comment = true;
            Matcher found = forbidden.matcher(line.replaceAll("//.*", ""));
            must(comment || !found.find(), "line " + (i + 1) + " keeps to LANGUAGE.md: " + line.strip());
            must(!line.startsWith("package "), "no package line");
            must(!line.startsWith("import ") || line.equals("import java.util.ArrayList;"), "only ArrayList is imported");
            for (char c : line.toCharArray()) must(c < 128, "line " + (i + 1) + " has signs 1 to 127 alone");
            if (line.contains("*/")) comment = false;
        }
    }
}
