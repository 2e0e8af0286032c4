import java.lang.reflect.Method;
import java.nio.charset.StandardCharsets;
import java.nio.file.Files;
import java.nio.file.Path;
import java.util.Map;
import java.util.Set;
import java.util.TreeMap;
import java.util.TreeSet;
import java.util.regex.Matcher;
import java.util.regex.Pattern;

/** Each sentence of the document has a test of its own, and each test quotes a sentence that stands there. */
public final class DocumentTest {
    private static final Class<?>[] TESTS = {
        SaidInTermsTest.class, SaidOfPeopleTest.class, SaidOfNearnessTest.class, SaidOfChoicesTest.class,
        SaidOfWashDaysTest.class, SaidOfTextsTest.class, SaidOfSheetsTest.class, SaidOfImagesTest.class,
        RefusedTest.class};

    private final Due due = new Due();

    public static void main(String[] args) throws Exception {
        DocumentTest t = new DocumentTest();
        t.eachSentenceHasATest(Files.readString(Path.of("../shared/DOC.md"), StandardCharsets.UTF_8));
        t.due.end("DocumentTest");
    }

    private void eachSentenceHasATest(String document) {
        Map<Integer, Set<String>> said = sentencesOf(document);
        Map<Integer, Set<String>> tested = new TreeMap<>();
        for (Class<?> tests : TESTS) {
            for (Method m : Sentences.testsOf(tests)) {
                Says says = m.getAnnotation(Says.class);
                tested.computeIfAbsent(says.promise(), n -> new TreeSet<>()).add(says.value());
                due.so(m.getName() + " quotes promise " + says.promise() + ": " + says.value(),
                    said.getOrDefault(says.promise(), Set.of()).contains(says.value()));
            }
        }
        for (int promise : said.keySet()) {
            for (String sentence : said.get(promise)) {
                due.so("promise " + promise + " has a test of: " + sentence,
                    tested.getOrDefault(promise, Set.of()).contains(sentence));
            }
        }
        due.due("promises with sentences", said.size() - 1, 46);
    }

    /** By promise, 0 for what is told ahead of them; without titles, the face, and what isn't promised. */
    private static Map<Integer, Set<String>> sentencesOf(String document) {
        Map<Integer, Set<String>> said = new TreeMap<>();
        for (String part : document.split("(?m)^## ")) {
            String title = part.lines().findFirst().orElse("");
            Matcher promise = Pattern.compile("Promise (\\d+):.*").matcher(title);
            boolean told = title.equals("What it is") || title.equals("Terms");
            if (!told && !promise.matches()) {
                continue;
            }
            Set<String> all = said.computeIfAbsent(told ? 0 : Integer.parseInt(promise.group(1)), n -> new TreeSet<>());
            part.lines().skip(1).forEach(line -> {
                for (String sentence : line.trim().replaceFirst("^`[^`]*`: ", "").split("(?<=[^.]\\.) ")) {
                    if (isSaid(sentence)) {
                        all.add(sentence);
                    }
                }
            });
        }
        return said;
    }

    /** Whether it says something that the class does: no fence, no number of a term, no summary, no heading. */
    private static boolean isSaid(String sentence) {
        return !sentence.isEmpty() && !sentence.startsWith("```") && !sentence.matches("\\d\\.")
            && !sentence.startsWith("Mangled together: ") && !sentence.startsWith("Ahead of the call");
    }
}
