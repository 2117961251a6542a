import java.io.IOException;
import java.lang.reflect.InvocationTargetException;
import java.lang.reflect.Method;
import java.nio.file.Path;
import java.util.Arrays;
import java.util.Comparator;

/**
 * Runs the tests that stand for the sentences of the document, one by one, and looks whether each of them quotes the
 * document and whether every sentence of it has a test.
 */
public final class SentenceTest {
    private static final Path DOCUMENT = Path.of("../shared/DOC.md");
    private static final Class<?>[] TESTS = {ContractSentences.class, BandSentences.class, ClosingSentences.class,
        DemandSentences.class, SetupSentences.class, ErrorSentences.class, WaiverSentences.class,
        ChangeSentences.class, RefusalSentences.class, LoadPromises.class, PeriodPromises.class,
        BreachPromises.class, PlanPromises.class, ChangePromises.class};

    public static void main(String[] args) throws IOException {
        DocText doc = new DocText(DOCUMENT);
        Checks.due("sections of the document", doc.sectionCount(), 1 + 9 + 34);
        int tests = 0;
        for (Class<?> group : TESTS) {
            Method[] methods = group.getDeclaredMethods();
            Arrays.sort(methods, Comparator.comparing(Method::getName));
            for (Method method : methods) {
                Sentence sentence = method.getAnnotation(Sentence.class);
                if (sentence != null) {
                    run(doc, method, sentence);
                    tests++;
                }
            }
        }
        Checks.about("");
        for (String words : doc.unclaimed()) {
            Checks.dueText("a sentence without a test", words, "");
        }
        System.out.println(tests + " sentences tested");
        Checks.end("SentenceTest");
    }

    private static void run(DocText doc, Method method, Sentence sentence) {
        String name = method.getDeclaringClass().getSimpleName() + "." + method.getName();
        Checks.about(name + " [" + sentence.in() + ": " + sentence.says() + "] ");
        Checks.holds("the document has these words", doc.claim(sentence.in(), sentence.says()));
        int before = Checks.lookedAt();
        try {
            method.invoke(null);
        } catch (InvocationTargetException e) {
            Checks.dueText("the test ends", String.valueOf(e.getCause()), "");
        } catch (IllegalAccessException e) {
            Checks.dueText("the test can be run", String.valueOf(e), "");
        }
        Checks.holds("the test looks at answers", Checks.lookedAt() > before);
    }
}
