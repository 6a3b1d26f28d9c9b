import java.lang.reflect.Method;
import java.util.ArrayList;
import java.util.List;

/** No promise is without a test of its boundary cases, and each such test stands where it is run. */
final class EveryEdgeTest {
    private static final Class<?>[] EDGES = {
        MeadowEdgesTest.class, DoneEdgesTest.class, BearsEdgesTest.class,
        MakesEdgesTest.class, SeenEdgesTest.class, KindsEdgesTest.class,
    };
    private static final int[] FIRST = {1, 8, 15, 21, 25, 29, 34};

    public static void main(String[] args) {
        List<Integer> tested = new ArrayList<>();
        for (int i = 0; i < EDGES.length; i++) {
            for (Method test : Edges.testsOf(EDGES[i])) {
                int promise = Edges.promiseOf(test);
                Check.holds(test + " stands with its like", promise >= FIRST[i] && promise < FIRST[i + 1]);
                tested.add(promise);
            }
        }
        for (int promise = 1; promise <= 33; promise++) {
            Check.holds("promise " + promise + " has edges that are tested", tested.contains(promise));
        }
        Check.end();
    }
}
