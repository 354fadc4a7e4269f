import java.io.IOException;
import java.lang.reflect.Method;
import java.nio.file.Files;
import java.nio.file.Path;
import java.util.HashSet;
import java.util.Set;
import java.util.regex.Matcher;
import java.util.regex.Pattern;

/**
 * Holds the boundary tests to the document: what they cite stands there, and each refusal that a
 * promise names is cited by a test of that promise.
 */
public final class SentencesTest {
    private static final Class<?>[] TESTS = {BoundaryTextsTest.class, BoundaryChangesTest.class,
        BoundaryFewerTest.class, BoundaryBlameTest.class, BoundaryPartingTest.class, BoundaryRefusedTest.class};
    private static final int PROMISES = 24;
    private static final Pattern REFUSAL = Pattern.compile("\\b(UNKNOWN|OUTSIDE|STATE|FULL|NO|NONE)\\b");

    private static int wrong = 0;

    public static void main(String[] args) throws IOException {
        Path document = Path.of(args[0], "..", "shared", "DOC.md");
        if (!Files.exists(document)) {
            System.out.println("no document to hold the tests to: " + document);
            return;
        }
        String words = inOneLine(Files.readString(document));
        lookAtCitations(words);
        for (int promise = 1; promise <= PROMISES; promise++) {
            lookAtPromise(promise, words);
        }
        System.out.println(wrong + " sentences without a test, or tests without a sentence");
        if (wrong > 0) {
            System.exit(1);
        }
    }

    private static void must(boolean holds, String what) {
        if (!holds) {
            wrong++;
            System.out.println(what);
        }
    }

    private static String inOneLine(String text) {
        return text.replaceAll("\\s+", " ");
    }

    private static void lookAtCitations(String words) {
        for (Class<?> tests : TESTS) {
            for (Method test : Boundaries.testsOf(tests)) {
                String says = test.getAnnotation(Sentence.class).says();
                must(words.contains(says), test.getName() + " cites what the document does not say: " + says);
            }
        }
    }

    private static void lookAtPromise(int promise, String words) {
        int begin = words.indexOf("## Promise " + promise + ":");
        must(begin >= 0, "no promise " + promise + " in the document");
        if (begin < 0) {
            return;
        }
        int end = words.indexOf("## ", begin + 3);
        Set<String> cited = refusalsCited(promise);
        must(!cited.isEmpty(), "promise " + promise + " has no boundary test");
        Matcher named = REFUSAL.matcher(words.substring(begin, end < 0 ? words.length() : end));
        while (named.find()) {
            must(cited.contains(named.group()), "promise " + promise + ": no test cites its " + named.group());
        }
    }

    /** The refusals that the tests of a promise cite, and one empty word if there is a test at all. */
    private static Set<String> refusalsCited(int promise) {
        Set<String> cited = new HashSet<>();
        for (Class<?> tests : TESTS) {
            for (Method test : Boundaries.testsOf(tests)) {
                Sentence sentence = test.getAnnotation(Sentence.class);
                if (sentence.promise() == promise) {
                    cited.add("");
                    Matcher said = REFUSAL.matcher(sentence.says());
                    while (said.find()) {
                        cited.add(said.group());
                    }
                }
            }
        }
        return cited;
    }
}
