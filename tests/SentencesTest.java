import java.io.IOException;
import java.nio.file.Files;
import java.nio.file.Path;
import java.util.ArrayList;
import java.util.List;
import java.util.regex.Matcher;
import java.util.regex.Pattern;

/** That tests/SENTENCES.md quotes the whole document, in its order, and that each test that it names is there and runs. */
public final class SentencesTest {
    private static final Path DOCUMENT = Path.of("../shared/DOC.md");
    private static final Path SENTENCES = Path.of("tests/SENTENCES.md");
    private static final Pattern TEST = Pattern.compile("(\\w+Test)\\.(\\w+)");

    /** Some words of the document, and what stands below them: tests, or why there are none. */
    private record Sentence(String words, String below) {}

    private static final Due due = new Due();

    public static void main(String[] args) throws IOException {
        List<Sentence> all = sentences();
        if (Files.exists(DOCUMENT)) theWholeDocumentIsQuoted(all);
        else System.out.println(DOCUMENT + " is not there: not looked at");
        eachSentenceHasATest(all);
        eachTestIsThere(all);
        System.out.println(all.size() + " parts of the document");
        due.end();
    }

    private static String oneLine(String text) {
        return text.strip().replaceAll("\\s+", " ");
    }

    private static List<Sentence> sentences() throws IOException {
        List<Sentence> all = new ArrayList<>();
        StringBuilder words = new StringBuilder();
        StringBuilder below = new StringBuilder();
        for (String line : Files.readAllLines(SENTENCES)) {
            if (line.startsWith(">") && below.length() > 0) {
                all.add(new Sentence(oneLine(words.toString()), oneLine(below.toString())));
                words.setLength(0);
                below.setLength(0);
            }
            if (line.startsWith(">")) words.append(line.substring(1)).append(' ');
            if (line.startsWith("- ") || line.startsWith("  ")) below.append(line.substring(2)).append(' ');
        }
        all.add(new Sentence(oneLine(words.toString()), oneLine(below.toString())));
        return all;
    }

    /** The document without its headings and the marks of its blocks. */
    private static String document() throws IOException {
        StringBuilder all = new StringBuilder();
        for (String line : Files.readAllLines(DOCUMENT)) {
            if (!line.startsWith("#") && !line.startsWith("```")) all.append(line).append(' ');
        }
        return oneLine(all.toString());
    }

    private static void theWholeDocumentIsQuoted(List<Sentence> all) throws IOException {
        String left = document();
        for (Sentence s : all) {
            if (!left.startsWith(s.words)) {
                due.is("the next words", s.words, left.substring(0, Math.min(left.length(), s.words.length())));
                return;
            }
            left = left.substring(s.words.length()).strip();
        }
        due.is("what is not quoted", left, "");
    }

    private static void eachSentenceHasATest(List<Sentence> all) {
        for (Sentence s : all) {
            boolean has = TEST.matcher(s.below).find() || s.below.startsWith("none: ");
            due.is("a test for: " + s.words, has ? 1 : 0, 1);
        }
    }

    private static void eachTestIsThere(List<Sentence> all) throws IOException {
        for (Sentence s : all) {
            if (s.below.startsWith("none: ")) continue;
            due.is("named below: " + s.words, s.below.replaceAll(TEST.pattern() + ",? ?", ""), "");
            Matcher named = TEST.matcher(s.below);
            while (named.find()) isThere(named.group(1), named.group(2));
        }
    }

    private static void isThere(String test, String method) throws IOException {
        Path file = Path.of("tests/" + test + ".java");
        String text = Files.exists(file) ? Files.readString(file) : "";
        due.is(test + "." + method + " is there", text.contains(" static void " + method + "()") ? 1 : 0, 1);
        boolean runs = text.contains(" extends Edges ") || text.contains("        " + method + "();\n");
        due.is(test + "." + method + " runs", runs ? 1 : 0, 1);
    }
}
