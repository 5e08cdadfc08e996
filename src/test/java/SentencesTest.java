import java.io.IOException;
import java.lang.reflect.Method;
import java.nio.file.Files;
import java.nio.file.Path;
import java.util.ArrayList;
import java.util.BitSet;
import java.util.List;
import java.util.Map;
import java.util.TreeMap;
import java.util.regex.Matcher;
import java.util.regex.Pattern;

/** Each word of the document's terms and promises is quoted by a test of its own, and each quote stands there. */
public final class SentencesTest {
    private static final List<Class<?>> TESTS = List.of(BoundsOfTextTest.class, BoundsOfCallsTest.class,
        BoundsOfDayTest.class, BoundsAheadTest.class, BoundsOfNotesTest.class);
    private static final int TERMS = 0;
    private static int wrong = 0;

    private static void check(boolean good, String what) {
        if (!good) {
            wrong++;
            System.out.println("SentencesTest: " + what);
        }
    }

    public static void main(String[] args) throws IOException {
        Map<Integer, String> sections = sections(Files.readString(Path.of("../shared/DOC.md")));
        Map<Integer, BitSet> quoted = new TreeMap<>();
        sections.keySet().forEach(n -> quoted.put(n, new BitSet()));
        int quotes = 0;
        for (Class<?> tests : TESTS) {
            for (Method m : tests.getDeclaredMethods()) {
                Says says = m.getAnnotation(Says.class);
                if (says != null) {
                    check(mark(sections, quoted, says), m.getName() + " quotes what isn't there: " + says.value());
                    quotes++;
                }
            }
        }
        check(sections.size() == 42, "the document has terms and 41 promises");
        sections.forEach((n, text) -> {
            for (String left : notQuoted(text, quoted.get(n))) {
                check(false, (n == TERMS ? "terms" : "promise " + n) + ": no test says: " + left);
            }
        });
        System.out.println("SentencesTest: " + quotes + " quotes, " + wrong + " wrong");
        if (wrong > 0) {
            System.exit(1);
        }
    }

    private static String plain(String text) {
        return text.replace("```text", " ").replace("```", " ").replaceAll("\\s+", " ").trim();
    }

    /** The words of each promise by its number; those of the terms, and for how many calls an object is used, by 0. */
    private static Map<Integer, String> sections(String doc) {
        Map<Integer, String> sections = new TreeMap<>();
        Matcher part = Pattern.compile("(?s)## (Terms|Promise (\\d+))[^\n]*\n(.*?)(?=\n## )").matcher(doc);
        while (part.find()) {
            String body = part.group(3).replaceFirst("^\\s*`[^`]*`:", "");
            sections.put(part.group(2) == null ? TERMS : Integer.parseInt(part.group(2)), plain(body));
        }
        Matcher used = Pattern.compile("An object is used [^\n]*").matcher(doc);
        check(used.find(), "the document says for how many calls an object is used");
        sections.merge(TERMS, used.group(), (terms, calls) -> plain(terms) + " " + calls);
        return sections;
    }

    private static boolean mark(Map<Integer, String> sections, Map<Integer, BitSet> quoted, Says says) {
        for (int n : new int[] {says.promise(), TERMS}) {
            String text = sections.getOrDefault(n, "");
            String words = plain(says.value());
            int at = text.indexOf(words);
            if (at >= 0 && sections.containsKey(says.promise())) {
                check(text.indexOf(words, at + 1) < 0, "it stands there twice: " + words);
                quoted.get(n).set(at, at + words.length());
                return true;
            }
        }
        return false;
    }

    private static List<String> notQuoted(String text, BitSet quoted) {
        List<String> left = new ArrayList<>();
        for (int from = quoted.nextClearBit(0); from < text.length();) {
            int to = quoted.nextSetBit(from);
            to = to < 0 ? text.length() : to;
            String words = text.substring(from, to).trim();
            if (words.matches(".*\\w.*")) {
                left.add(words);
            }
            from = quoted.nextClearBit(to);
        }
        return left;
    }
}
