import java.io.IOException;
import java.lang.reflect.InvocationTargetException;
import java.lang.reflect.Method;
import java.nio.file.Files;
import java.nio.file.Path;
import java.util.ArrayList;
import java.util.Comparator;
import java.util.List;
import java.util.Map;
import java.util.Set;
import java.util.TreeMap;
import java.util.TreeSet;
import java.util.regex.Matcher;
import java.util.regex.Pattern;

/**
 * Runs the tests of single sentences of the document. Each names its sentence, which must stand
 * in the document under the heading that the test names.
 */
public final class SentencesTest {
    private static final Path DOCUMENT = Path.of("../shared/DOC.md");
    private static final int PROMISES = 36;
    private static final Class<?>[] TESTS = {SentencesOfShelves.class, SentencesOfTexts.class,
        SentencesOfObjects.class, SentencesOfSends.class, SentencesOfCalls.class, SentencesOfDays.class};

    private SentencesTest() {
    }

    /** What stands under each heading, blanks and line ends as one blank. */
    private static Map<String, String> headings() throws IOException {
        String all = Files.readString(DOCUMENT).replaceAll("\\s+", " ");
        Map<String, String> texts = new TreeMap<>();
        texts.put("Terms 1", between(all, "==== 1. OBJECTS", "==== 2. SENDS"));
        texts.put("Terms 2", between(all, "==== 2. SENDS", "==== 3. GENERIC CALLS"));
        texts.put("Terms 3", between(all, "==== 3. GENERIC CALLS", "REFUSALS (the call"));
        texts.put("REFUSALS", between(all, "REFUSALS (the call", "## Promise 1:"));
        for (int promise = 1; promise <= PROMISES; promise++) {
            String next = promise == PROMISES ? "## Not promised" : "## Promise " + (promise + 1) + ":";
            texts.put("Promise " + promise, between(all, "## Promise " + promise + ":", next));
        }
        return texts;
    }

    private static String between(String all, String from, String to) {
        int start = all.indexOf(from);
        int end = all.indexOf(to, Math.max(start, 0));
        return start < 0 || end < 0 ? "" : all.substring(start, end);
    }

    private static List<Method> testsOf(Class<?> all) {
        List<Method> tests = new ArrayList<>();
        for (Method method : all.getDeclaredMethods()) {
            if (method.isAnnotationPresent(Sentence.class)) {
                tests.add(method);
            }
        }
        tests.sort(Comparator.comparing(Method::getName));
        return tests;
    }

    private static void run(Method test, Map<String, String> headings) throws IllegalAccessException {
        Sentence sentence = test.getAnnotation(Sentence.class);
        Due.about(sentence.in() + ", \"" + sentence.says() + "\" (" + test.getName() + "): ");
        Refused.under(sentence.in());
        String text = headings.getOrDefault(sentence.in(), "");
        Due.due("stands in the document", text.contains(sentence.says()) ? 1 : 0, 1);
        int asked = Due.askedSoFar();
        try {
            test.invoke(null);
        } catch (InvocationTargetException e) {
            Due.due("threw " + e.getCause(), 1, 0);
        }
        Due.due("asks something", Due.askedSoFar() > asked ? 1 : 0, 1);
    }

    /** Each REFUSAL that a promise names has been answered in a test of that promise. */
    private static void allRefusals(Map<String, String> headings) {
        for (int promise = 1; promise <= PROMISES; promise++) {
            String heading = "Promise " + promise;
            Due.about(heading + ": ");
            Set<Integer> due = new TreeSet<>();
            Matcher number = Pattern.compile("(?<![\\w\"])-\\d+").matcher(headings.get(heading).replaceAll("\\(counted as[^)]*\\)", ""));
            while (number.find()) {
                due.add(Integer.parseInt(number.group()));
            }
            // A ROW has no elements for more than 80 twos, and -15 is ahead of -16.
            if (promise == 31) {
                due.remove(-16);
            }
            for (int refusal : due) {
                Due.due("a test of " + refusal, Refused.seenUnder(heading).contains(refusal) ? 1 : 0, 1);
            }
        }
    }

    public static void main(String[] args) throws IOException, IllegalAccessException {
        Map<String, String> headings = headings();
        Set<String> tested = new TreeSet<>();
        int tests = 0;
        for (Class<?> all : TESTS) {
            for (Method test : testsOf(all)) {
                run(test, headings);
                tested.add(test.getAnnotation(Sentence.class).in());
                tests++;
            }
        }
        allRefusals(headings);
        Due.about("");
        for (String heading : headings.keySet()) {
            Due.due("a test of " + heading, tested.contains(heading) ? 1 : 0, 1);
        }
        System.out.println("SentencesTest: " + tests + " tests of sentences");
        Due.end("SentencesTest");
    }
}
