import java.lang.reflect.InvocationTargetException;
import java.lang.reflect.Method;
import java.util.ArrayList;
import java.util.Comparator;
import java.util.List;

/**
 * Each boundary case that the document names, in a test of its own: a method of the classes below whose name begins
 * with the promise's number and goes on with the case.
 */
public final class BoundaryTest {
    private static final List<Class<?>> CASES =
            List.of(TreeBoundaries.class, MatchBoundaries.class, TriesBoundaries.class, RuleBoundaries.class);
    private static final int PROMISES = 18;

    public static void main(String[] args) throws Exception {
        Check all = new Check("BoundaryTest");
        int[] casesOfPromise = new int[PROMISES + 1];
        List<Method> tests = tests();
        for (Method test : tests) {
            casesOfPromise[promiseOf(test)]++;
            Check one = new Check(test.getName());
            run(test, one);
            all.same(test.getName() + " asks something", true, one.asked() > 0);
            all.same(test.getName() + "'s wrong answers", 0, one.wrong());
        }
        for (int promise = 1; promise <= PROMISES; promise++) {
            all.same("promise " + promise + " has tests", true, casesOfPromise[promise] > 0);
        }
        System.out.println("BoundaryTest: " + tests.size() + " tests");
        all.end();
    }

    private static List<Method> tests() {
        List<Method> tests = new ArrayList<>();
        for (Class<?> cases : CASES) {
            for (Method method : cases.getDeclaredMethods()) {
                if (method.getName().startsWith("promise")) {
                    tests.add(method);
                }
            }
        }
        tests.sort(Comparator.comparingInt(BoundaryTest::promiseOf).thenComparing(Method::getName));
        return tests;
    }

    /** The number in promise4_aNodeWith12PartsTakesNoMore is 4. */
    private static int promiseOf(Method test) {
        String name = test.getName();
        return Integer.parseInt(name.substring("promise".length(), name.indexOf('_')));
    }

    private static void run(Method test, Check check) throws IllegalAccessException {
        try {
            test.invoke(null, check);
        } catch (InvocationTargetException e) {
            check.same("the test", "an end", "threw " + e.getCause());
        }
    }
}
