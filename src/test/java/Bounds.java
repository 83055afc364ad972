import java.lang.reflect.InvocationTargetException;
import java.lang.reflect.Method;
import java.util.TreeMap;

/** What the tests of boundary cases share: each is a method whose name has its promise's number ahead. */
abstract class Bounds {
    static final int NONE = -1, BAD = -2, FULL = -3, NO = -4;
    static final int MIN = Integer.MIN_VALUE, MAX = Integer.MAX_VALUE;
    static final int[] BELOW_0 = {-1, -2, MIN};
    static final int[] NO_UNITS = {-1, MIN, 65536, MAX};
    static final int[] NO_WHAT_OF_2 = {-1, 2, 3, MIN, MAX};
    static final int[] NO_WHAT_OF_3 = {-1, 3, 4, MIN, MAX};

    static Run start() {
        return new Run();
    }

    /**
     * TEXTS 0 "abaab", 1 "ab", 2 "", 3 "a"; a TEXT 4 "xyz" was taken back; PATTERNS 0 "ab", 1 "a"; 8 CHANGES;
     * all that can be found has been found of TEXT 0 (and 1), but it is neither squeezed nor sorted.
     */
    static Run found() {
        return start().text("abaab").text("ab").text("").text("a").text("xyz")
            .due(1, "undo").due(1, "undo")
            .due(0, "pattern", 1).due(1, "pattern", 3)
            .due(5, "matches", 0).due(1, "runs", 0).due(3, "cover", 0)
            .due(3, "distance", 0, 1).due(2, "subsequence", 0, 1);
    }

    /** The same with TEXT 0 squeezed and sorted. */
    static Run rich() {
        return found().due(4, "squeeze", 0, 0).due(3, "sort", 0);
    }

    /** The same with 40 TEXTS. */
    static Run richAndFull() {
        return rich().until(40);
    }

    /** Makes all tests of a class, and looks that there is one for each of these promises. */
    static void check(Class<? extends Bounds> tests, int first, int last) throws IllegalAccessException {
        TreeMap<String, Method> found = new TreeMap<>();
        for (Method m : tests.getDeclaredMethods()) {
            if (m.getName().startsWith("promise")) {
                found.put(m.getName(), m);
            }
        }
        int wrong = 0;
        for (int promise = first; promise <= last; promise++) {
            String ahead = "promise" + promise + "_";
            if (found.keySet().stream().noneMatch(name -> name.startsWith(ahead))) {
                wrong++;
                System.out.println("no test of promise " + promise);
            }
        }
        for (Method test : found.values()) {
            try {
                test.setAccessible(true);
                test.invoke(null);
            } catch (InvocationTargetException fault) {
                wrong++;
                System.out.println(test.getName() + ": " + fault.getCause().getMessage());
            }
        }
        System.out.println(wrong == 0 ? "all " + found.size() + " boundary cases hold" : wrong + " do not hold");
        if (wrong != 0) {
            System.exit(1);
        }
    }
}
