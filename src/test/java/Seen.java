import java.util.ArrayList;
import java.util.List;

/** All that calls can see of an object's state, in parts, since a part may change the state that others look at. */
enum Seen {
    TEXTS, ONE_BACK, ALL_BACK, TOLD, WAYS_BACK, PATTERNS, ORDERS;

    private static final int FULL = -3, NO = -4;
    private static final int ROWS = 12;

    /** Asks at most so many calls, and tells each with its answer. */
    List<String> of(Run run, int most) {
        Look look = new Look(run, most);
        switch (this) {
            case TEXTS -> texts(look);
            case ONE_BACK -> oneBack(look);
            case ALL_BACK -> allBack(look);
            case TOLD -> told(look);
            case WAYS_BACK -> waysBack(look);
            case PATTERNS -> patterns(look);
            default -> orders(look);
        }
        return look.seen;
    }

    private static final class Look {
        private final Run run;
        private int left;
        private final List<String> seen = new ArrayList<>();

        Look(Run run, int most) {
            this.run = run;
            left = most;
        }

        int ask(String name, Object... arguments) {
            if (left <= 0) {
                return NO;
            }
            left--;
            int answer = run.call(name, arguments);
            seen.add(name + List.of(arguments) + " = " + answer);
            return answer;
        }
    }

    private static void counts(Look look) {
        for (int what = 0; what < 4; what++) {
            look.ask("count", what);
        }
    }

    private static void texts(Look look) {
        counts(look);
        int made = look.ask("count", 0);
        for (int t = 0; t < made; t++) {
            int size = look.ask("length", t);
            for (int i = 0; i < size; i++) {
                look.ask("at", t, i);
            }
        }
    }

    private static void oneBack(Look look) {
        look.ask("undo");
        texts(look);
    }

    private static void allBack(Look look) {
        for (int n = 0; n <= 20; n++) {
            counts(look);
            look.ask("undo");
        }
        texts(look);
    }

    private static void told(Look look) {
        for (int k = 0; k < ROWS; k++) {
            look.ask("word", k);
            look.ask("sorted", k);
            for (int what = 0; what < 3; what++) {
                look.ask("match", k, what);
                look.ask("run", k, what);
                look.ask("script", k, what);
                look.ask("pair", k, what);
                look.ask("squeezed", k, what);
            }
        }
    }

    /** Behind an undo() if there is no room for a TEXT. */
    private static void waysBack(Look look) {
        for (String way : new String[] {"expand", "unsort"}) {
            int t = look.ask(way);
            if (t == FULL) {
                look.ask("undo");
                t = look.ask(way);
            }
            int size = look.ask("length", t);
            for (int i = 0; i < size && i < ROWS; i++) {
                look.ask("at", t, i);
            }
        }
    }

    /** In all TEXTS, and in one more, "abaa", since there may be none. */
    private static void patterns(Look look) {
        int more = look.ask("text");
        look.ask("units", more, 4, 0x0061_0062_0061_0061L);
        int made = look.ask("count", 0);
        for (int t = made - 1; t >= 0; t--) {
            int found = look.ask("matches", t);
            for (int k = 0; k < found && k < ROWS; k++) {
                look.ask("match", k, 0);
                look.ask("match", k, 1);
            }
            look.ask("cover", t);
            look.ask("word", 0);
        }
        look.ask("pattern", 0);
        look.ask("forget");
    }

    /** What may have been worked out ahead is not mixed up. */
    private static void orders(Look look) {
        int made = look.ask("count", 0);
        for (int t = 0; t < made && t < 4; t++) {
            for (int k = 0; k < ROWS; k++) {
                look.ask("suffix", t, k);
                look.ask("unique", t, k);
            }
            look.ask("parts", t);
        }
        for (int what = 0; what < 3; what++) {
            look.ask("ofMany", 1, what);
            look.ask("ofMany", 2, what);
        }
    }
}
