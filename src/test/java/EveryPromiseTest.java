import java.lang.reflect.Method;

/** Each promise of the document, and each of its terms, has a test of single sentences. */
public final class EveryPromiseTest {
    private static final Class<?>[] TESTS = {TapeEdgesTest.class, PastEdgesTest.class, RoundEdgesTest.class, HandEdgesTest.class,
        CostEdgesTest.class, AheadEdgesTest.class, LedEdgesTest.class, SeenEdgesTest.class, ChanceEdgesTest.class, MarkEdgesTest.class};

    public static void main(String[] args) {
        for (int promise = 1; promise <= 43; promise++) {
            Check.due("promise " + promise, isSaid("Promise " + promise + ": "), true);
        }
        for (String term : new String[] {"What it is", "TAPE", "TOKENS", "PAST", "ROUND", "NAME", "E", "FAULTS", "==== 2", "JUDGED", "==== 3"}) {
            Check.due(term, isSaid(term + ": "), true);
        }
        Check.end();
    }

    private static boolean isSaid(String beginning) {
        for (Class<?> test : TESTS) {
            for (Method m : test.getDeclaredMethods()) {
                Says says = m.getAnnotation(Says.class);
                if (says != null && says.value().startsWith(beginning)) {
                    return true;
                }
            }
        }
        return false;
    }
}
