import java.lang.reflect.Method;
import java.util.ArrayList;
import java.util.List;
import java.util.Random;

/** Runs of calls, always the same ones, on UnitAtlas and PlainAtlas side by side: all answers are the same. */
public final class AgainstPlainTest {
    /** A method, then the kind of each argument; the first ones make TEXTS and are called more often. */
    private static final String[] CALLS = {
        "units t n w", "units t n w", "units t n w", "point t p", "append t t i i", "append t t i i",
        "insert t i u", "copy t i i", "reversed t", "remove t i n", "text", "undo",
        "at t i", "length t", "points t", "pointAt t i", "half t i", "order t t b", "equalParts t i t i n",
        "suffix t i", "rank t i", "common t i i", "border t i", "find t t k", "countOf t t", "wild t t u k",
        "near t t n k", "pattern t", "pattern t", "matches t", "match i h", "longestCommon t t h", "ofMany m h",
        "period t i i", "root t", "squares t", "runs t", "run k h", "palindrome t c", "palindromes t",
        "leastRotation t", "lyndon t k", "parts t", "nthPart t j", "unique t i", "leastUnique t", "absent t",
        "cover t", "cover t", "word k", "distance t t", "script k h", "subsequence t t", "pair k h",
        "squeeze t h", "squeezed i h", "expand", "sort t", "sorted i", "unsort", "count h", "forget"
    };
    /** PlainAtlas takes too long for these where TEXTS are long. */
    private static final List<String> SLOW = List.of("runs", "leastUnique", "subsequence", "unsort", "nthPart", "parts");

    private static int wrong = 0;

    private final Random random;
    private final int longest;
    private final int letters;
    private final UnitAtlas real = new UnitAtlas();
    private final PlainAtlas plain = new PlainAtlas();
    private final StringBuilder calls = new StringBuilder();
    private boolean differs = false;

    private AgainstPlainTest(long seed, int longest, int letters) {
        random = new Random(seed);
        this.longest = longest;
        this.letters = letters;
    }

    private int edge(int usual) {
        switch (random.nextInt(60)) {
            case 0:
                return Integer.MAX_VALUE;
            case 1:
                return Integer.MIN_VALUE;
            case 2:
                return -1;
            default:
                return usual;
        }
    }

    private int unit() {
        int[] signs = {'a', 'b', 0xD800, 0xDC00, 0, 0xFFFF, 0xDBFF, 0xDFFF, 'c', 0xE000, 0xD7FF, 255, 256};
        return letters == 0 ? signs[random.nextInt(signs.length)] : 'a' + random.nextInt(letters);
    }

    private int usualText() {
        int made = plain.count(0);
        return made == 0 ? 0 : random.nextInt(made + (random.nextInt(15) == 0 ? 1 : 0));
    }

    private Object argument(char kind, int length) {
        switch (kind) {
            case 't':
                return edge(usualText());
            case 'b':
                return random.nextBoolean();
            case 'i':
                return edge(random.nextInt(length + 2));
            case 'k':
                return edge(random.nextInt(random.nextInt(5) == 0 ? length + 2 : 4));
            case 'j':
                return edge(random.nextInt(length * (length + 1) / 2 + 2));
            case 'n':
                return edge(random.nextInt(6));
            case 'h':
                return edge(random.nextInt(random.nextInt(8) == 0 ? 5 : 3));
            case 'm':
                return edge(random.nextInt(Math.min(plain.count(0) + 2, random.nextBoolean() ? 4 : 99)));
            case 'c':
                return edge(random.nextInt(2 * length + 2) - 1);
            case 'u':
                return edge(random.nextInt(30) == 0 ? 65536 : unit());
            case 'p':
                return edge(random.nextInt(4) == 0 ? random.nextInt(0x110002) : unit());
            default:
                return (long) unit() << 48 | (long) unit() << 32 | (long) unit() << 16 | unit();
        }
    }

    private static Method method(Class<?> owner, String name) {
        for (Method m : owner.getDeclaredMethods()) {
            if (m.getName().equals(name) && java.lang.reflect.Modifier.isPublic(m.getModifiers())) {
                return m;
            }
        }
        throw new IllegalStateException("no method " + name);
    }

    private void call(String name, Object[] arguments) throws Exception {
        int due = (Integer) method(PlainAtlas.class, name).invoke(plain, arguments);
        int got = (Integer) method(UnitAtlas.class, name).invoke(real, arguments);
        calls.append(name).append(java.util.Arrays.toString(arguments)).append(" = ").append(due).append('\n');
        if (got != due && !differs) {
            differs = true;
            wrong++;
            System.out.println(calls + "the last one answered " + got);
        }
    }

    private void callOne() throws Exception {
        String[] words = CALLS[random.nextInt(3) == 0 ? random.nextInt(12) : random.nextInt(CALLS.length)].split(" ");
        if (longest > 30 && SLOW.contains(words[0])) {
            return;
        }
        if (words[0].equals("forget") && random.nextInt(4) != 0) {
            return;
        }
        Object[] arguments = new Object[words.length - 1];
        int length = 3;
        for (int a = 1; a < words.length; a++) {
            arguments[a - 1] = argument(words[a].charAt(0), length);
            if (words[a].equals("t") && plain.length((Integer) arguments[a - 1]) >= 0) {
                length = plain.length((Integer) arguments[a - 1]);
            }
        }
        if (words[0].equals("append") && plain.length((Integer) arguments[0]) > longest) {
            call("remove", new Object[] {arguments[0], 0, plain.length((Integer) arguments[0]) - longest / 2});
            return;
        }
        call(words[0], arguments);
        tellAllOf(words[0]);
    }

    private void tellAllOf(String name) throws Exception {
        String teller = switch (name) {
            case "matches" -> "match";
            case "runs" -> "run";
            case "distance" -> "script";
            case "subsequence" -> "pair";
            case "squeeze" -> "squeezed";
            default -> null;
        };
        for (int k = 0; teller != null && k < 300; k++) {
            boolean more = (Integer) method(PlainAtlas.class, teller).invoke(plain, k, 0) >= 0;
            for (int what = 0; what < 3; what++) {
                call(teller, new Object[] {k, what});
            }
            if (!more) {
                break;
            }
        }
        String single = name.equals("cover") ? "word" : name.equals("sort") ? "sorted" : null;
        for (int k = 0; single != null && k < 245; k++) {
            call(single, new Object[] {k});
        }
    }

    private void holdWhole() throws Exception {
        for (int what = 0; what < 4; what++) {
            call("count", new Object[] {what});
        }
        for (int t = 0; t < plain.count(0); t++) {
            call("length", new Object[] {t});
            for (int i = 0; i < plain.length(t); i++) {
                call("at", new Object[] {t, i});
            }
        }
    }

    private void go(int many) throws Exception {
        for (int n = 0; n < many && !differs; n++) {
            callOne();
        }
        holdWhole();
    }

    public static void main(String[] args) throws Exception {
        for (int seed = 0; seed < 400 && wrong < 3; seed++) {
            new AgainstPlainTest(seed, 3 + seed % 18, seed % 5).go(400);
        }
        for (int seed = 0; seed < 24 && wrong < 3; seed++) {
            new AgainstPlainTest(1000 + seed, 200, seed % 4).go(250);
        }
        System.out.println(wrong == 0 ? "all answers are the same" : wrong + " runs differ");
        if (wrong != 0) {
            System.exit(1);
        }
    }
}
