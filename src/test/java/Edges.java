import java.lang.reflect.InvocationTargetException;
import java.lang.reflect.Method;
import java.util.ArrayList;
import java.util.Comparator;
import java.util.List;
import java.util.function.Supplier;

/**
 * What the tests of boundary cases share. Each such test is a method named by its promise
 * (promise2LetterTooSmall), so that it runs by its name alone and a broken answer tells the promise.
 */
abstract class Edges {
    static final int BAD = DaisyChain.BAD;
    static final int STATE = DaisyChain.STATE;
    static final int FULL = DaisyChain.FULL;
    static final int NONE = DaisyChain.NONE;
    static final int NO = DaisyChain.NO;
    static final int LEAST = Integer.MIN_VALUE;
    static final int MOST = Integer.MAX_VALUE;
    static final int MOST_CALLS = 512;
    static final int MOST_LETTERS = 200;

    private static String test = "";

    /** A call with one number that is tried out. */
    interface Asked {
        long by(DaisyChain x, int number);
    }

    static List<Method> testsOf(Class<?> edges) {
        List<Method> tests = new ArrayList<>();
        for (Method method : edges.getDeclaredMethods()) {
            if (method.getName().matches("promise[0-9]+[A-Z].*")) {
                tests.add(method);
            }
        }
        tests.sort(Comparator.comparingInt(Edges::promiseOf).thenComparing(Method::getName));
        return tests;
    }

    static int promiseOf(Method test) {
        return Integer.parseInt(test.getName().replaceAll("promise([0-9]+).*", "$1"));
    }

    static void run(Class<?> edges) {
        List<Method> tests = testsOf(edges);
        for (Method method : tests) {
            test = method.getName();
            try {
                method.invoke(null);
            } catch (IllegalAccessException | InvocationTargetException failure) {
                throw new IllegalStateException(test, failure);
            }
        }
        System.out.println(tests.size() + " tests");
        Check.end();
    }

    static void due(String call, long got, long want) {
        Check.due(test + ": " + call, got, want);
    }

    // ---- numbers that are not as told

    /** Just too small, just too large, and as far off as numbers go. */
    static int[] beyond(int least, int most) {
        return new int[] {least - 1, most + 1, LEAST, LEAST + 1, MOST - 1, MOST};
    }

    /** As beyond, and those that a shift by 32 or 64 or a sign bit takes for the first ones. */
    static int[] noneOf(int many) {
        return new int[] {-1, many, many + 1, 31, 32, 33, 64, -32, -64, LEAST, LEAST + 1, MOST - 1, MOST};
    }

    /** Each of the numbers gets that answer, and behind it nothing is changed. */
    static void refuses(String call, Supplier<DaisyChain> made, int answer, int[] numbers, Asked asked) {
        for (int number : numbers) {
            leaves(call + " with " + number, made, answer, x -> asked.by(x, number));
        }
    }

    static void leaves(String call, Supplier<DaisyChain> made, int answer, Twins.Call asked) {
        Twins.unchanged(test + ": " + call, made, asked, answer);
    }

    // ---- meadows

    static String blanks(int many) {
        return " ".repeat(many);
    }

    /** That many FLOWERS, all alike, none of them PICKED. */
    static DaisyChain alike(int many, String flower, String wilt) {
        return Check.told(flower.repeat(many) + wilt);
    }

    /** All PICKED, SLIT alike and THREADED by their numbers. */
    static DaisyChain chained(int many, String flower, String wilt, int place, int length) {
        DaisyChain x = alike(many, flower, wilt);
        for (int f = 0; f < many; f++) {
            due("picks(" + f + ")", x.picks(f), f + 1);
            x.slits(f, place, length);
        }
        for (int f = 0; f < many; f++) {
            x.threads(f);
        }
        due("FLOWERS of THE CHAIN", x.now(3), many);
        return x;
    }

    /** THE MINUTE is 600, the latest: nothing was PICKED meanwhile. */
    static void untilTheLastMinute(DaisyChain x) {
        for (int minute = 60; minute <= 600; minute += 60) {
            due("minutes(60)", x.minutes(60), minute);
        }
    }
}
