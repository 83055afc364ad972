import java.util.ArrayList;
import java.util.Collections;
import java.util.HashMap;
import java.util.List;
import java.util.Map;
import java.util.Random;

/** TEXTS of some 240 UNITS, always the same ones, for the calls that PlainAtlas is too slow for there. */
public final class LongTextsTest {
    private static final int KINDS = 6;

    /** The numbers of the two TEXTS that each object is made with. */
    private static final int FIRST = 0;
    private static final int SECOND = 1;

    private static int wrong = 0;

    private final Random random;
    private final String first;
    private final String second;

    /** A call that finds rows, and how many. */
    private interface Finder {
        int find(UnitAtlas atlas);
    }

    /** A call that tells one number of a row. */
    private interface Teller {
        int tell(UnitAtlas atlas, int k, int what);
    }

    private LongTextsTest(int seed) {
        random = new Random(seed);
        first = make(seed % 3 == 0 ? 240 : 200 + random.nextInt(41), seed % KINDS);
        second = seed % 2 == 0 ? spoilt(first) : make(200 + random.nextInt(41), random.nextInt(KINDS));
    }

    private void due(String call, int got, int want) {
        if (got != want) {
            wrong++;
            System.out.println(call + " answered " + got + ", due is " + want + ", with " + first.length() + " and "
                + second.length() + " UNITS");
        }
    }

    /** A new object for each number of a row, so that none has more than 512 calls. */
    private void rows(String name, Finder finder, Teller teller, List<int[]> rows, int width) {
        for (int what = 0; what < width; what++) {
            UnitAtlas atlas = withBoth();
            due(name, finder.find(atlas), rows.size());
            for (int k = 0; k < rows.size(); k++) {
                due(name + " row " + k + ", " + what, teller.tell(atlas, k, what), rows.get(k)[what]);
            }
            due(name + " beyond its rows", teller.tell(atlas, rows.size(), what), UnitAtlas.NONE);
        }
    }

    private String make(int size, int kind) {
        StringBuilder made = new StringBuilder();
        int p = 1 + random.nextInt(120);
        while (made.length() < size) {
            int i = made.length();
            switch (kind) {
                case 0 -> made.append((char) ('a' + random.nextInt(2)));
                case 1 -> made.append((char) random.nextInt(65536));
                case 2 -> made.append(i < p ? (char) (0xFFFE + random.nextInt(2)) : made.charAt(i - p));
                case 3 -> made.append((char) (Integer.bitCount(i) % 2 == 0 ? 0xD800 : 0xDC00));
                case 4 -> made.append('z');
                default -> made.append((char) (0x7FFF + random.nextInt(3)))
                    .append(made.substring(random.nextInt(i + 1)));
            }
        }
        made.setLength(size);
        return made.toString();
    }

    private String spoilt(String whole) {
        StringBuilder made = new StringBuilder(whole);
        for (int n = 0; n < 12; n++) {
            int i = random.nextInt(made.length());
            if (random.nextBoolean()) {
                made.deleteCharAt(i);
            } else {
                made.setCharAt(i, whole.charAt(random.nextInt(whole.length())));
            }
        }
        return made.toString();
    }

    private UnitAtlas withBoth() {
        UnitAtlas atlas = new UnitAtlas();
        put(atlas, first);
        put(atlas, second);
        return atlas;
    }

    private static void put(UnitAtlas atlas, String units) {
        int made = atlas.text();
        for (int i = 0; i < units.length(); i += 4) {
            int n = Math.min(4, units.length() - i);
            long w = 0;
            for (int k = 0; k < n; k++) {
                w = w << 16 | units.charAt(i + k);
            }
            atlas.units(made, n, w);
        }
    }

    /** How often each different part OCCURS. */
    private static Map<String, Integer> partsOf(String whole) {
        Map<String, Integer> often = new HashMap<>();
        for (int i = 0; i < whole.length(); i++) {
            for (int j = i + 1; j <= whole.length(); j++) {
                often.merge(whole.substring(i, j), 1, Integer::sum);
            }
        }
        return often;
    }

    private void parts() {
        UnitAtlas atlas = withBoth();
        Map<String, Integer> often = partsOf(first);
        due("parts", atlas.parts(FIRST), often.size());
        int least = 0;
        for (String part : often.keySet()) {
            boolean once = often.get(part) == 1;
            // If one lesser part of it OCCURRED once, one of these two would.
            least += once && often.getOrDefault(part.substring(1), 2) > 1
                && often.getOrDefault(part.substring(0, part.length() - 1), 2) > 1 ? 1 : 0;
        }
        due("leastUnique", atlas.leastUnique(FIRST), least);
        List<String> ordered = new ArrayList<>(often.keySet());
        Collections.sort(ordered);
        due("nthPart beyond all", atlas.nthPart(FIRST, ordered.size()), UnitAtlas.NO);
        for (int n = 0; n < 20; n++) {
            int k = n == 0 ? ordered.size() - 1 : random.nextInt(ordered.size());
            String part = ordered.get(k);
            int made = atlas.nthPart(FIRST, k);
            due("the length of nthPart", atlas.length(made), part.length());
            due("the UNITS of nthPart",
                atlas.equalParts(FIRST, first.indexOf(part), made, 0, part.length()), 1);
        }
    }

    private static boolean hasPeriod(String whole, int from, int to, int p) {
        return whole.regionMatches(from, whole, from + p, to - from - p);
    }

    private static boolean isLeastPeriod(String whole, int from, int to, int p) {
        for (int q = 1; q < p; q++) {
            if (hasPeriod(whole, from, to, q)) {
                return false;
            }
        }
        return true;
    }

    private void runs() {
        List<int[]> rows = new ArrayList<>();
        for (int from = 0; from < first.length(); from++) {
            for (int p = 1; from + 2 * p <= first.length(); p++) {
                int to = from + p;
                while (to < first.length() && first.charAt(to) == first.charAt(to - p)) {
                    to++;
                }
                boolean wider = from > 0 && hasPeriod(first, from - 1, to, p);
                if (to - from >= 2 * p && !wider && isLeastPeriod(first, from, to, p)) {
                    rows.add(new int[] {from, to, p});
                }
            }
        }
        rows("runs", x -> x.runs(FIRST), UnitAtlas::run, rows, 3);
    }

    private int[][] pairsOfRests() {
        int[][] most = new int[first.length() + 1][second.length() + 1];
        for (int i = first.length() - 1; i >= 0; i--) {
            for (int j = second.length() - 1; j >= 0; j--) {
                most[i][j] = Math.max(most[i + 1][j], most[i][j + 1]);
                if (first.charAt(i) == second.charAt(j)) {
                    most[i][j] = Math.max(most[i][j], most[i + 1][j + 1] + 1);
                }
            }
        }
        return most;
    }

    private int[] nextPair(int[][] most, int i, int j) {
        for (int x = i; x < first.length(); x++) {
            for (int y = j; y < second.length(); y++) {
                if (first.charAt(x) == second.charAt(y) && most[x + 1][y + 1] + 1 == most[i][j]) {
                    return new int[] {x, y};
                }
            }
        }
        return null;
    }

    private void subsequence() {
        int[][] most = pairsOfRests();
        List<int[]> rows = new ArrayList<>();
        for (int[] pair = nextPair(most, 0, 0); pair != null; pair = nextPair(most, pair[0] + 1, pair[1] + 1)) {
            rows.add(pair);
        }
        rows("subsequence", x -> x.subsequence(FIRST, SECOND), UnitAtlas::pair, rows, 2);
    }

    private int[][] distancesOfRests() {
        int[][] least = new int[first.length() + 1][second.length() + 1];
        for (int i = first.length(); i >= 0; i--) {
            for (int j = second.length(); j >= 0; j--) {
                if (i == first.length() || j == second.length()) {
                    least[i][j] = first.length() - i + second.length() - j;
                } else {
                    int changed = least[i + 1][j + 1] + (first.charAt(i) == second.charAt(j) ? 0 : 1);
                    least[i][j] = Math.min(changed, Math.min(least[i + 1][j], least[i][j + 1]) + 1);
                }
            }
        }
        return least;
    }

    private void script() {
        int[][] least = distancesOfRests();
        List<int[]> rows = new ArrayList<>();
        int i = 0;
        int j = 0;
        while (i < first.length() || j < second.length()) {
            boolean hasFirst = i < first.length();
            boolean hasSecond = j < second.length();
            boolean same = hasFirst && hasSecond && first.charAt(i) == second.charAt(j);
            int way = 0;
            if (hasFirst && hasSecond && (same || least[i + 1][j + 1] == least[i][j] - 1)) {
                way = 2;
            } else if (hasFirst && least[i + 1][j] == least[i][j] - 1) {
                way = 1;
            }
            if (!same) {
                rows.add(new int[] {way, i, way == 1 ? -1 : second.charAt(j)});
            }
            i += way == 0 ? 0 : 1;
            j += way == 1 ? 0 : 1;
        }
        due("the number of STEPS", least[0][0], rows.size());
        rows("distance", x -> x.distance(FIRST, SECOND), UnitAtlas::script, rows, 3);
    }

    private void waysBack() {
        UnitAtlas atlas = withBoth();
        for (int t = FIRST; t <= SECOND; t++) {
            for (int way = 0; way < 2; way++) {
                atlas.squeeze(t, way);
                due("the order of expand", atlas.order(t, atlas.expand(), false), 0);
            }
            atlas.sort(t);
            due("the order of unsort", atlas.order(t, atlas.unsort(), false), 0);
        }
    }

    public static void main(String[] args) {
        for (int seed = 0; seed < 6 * KINDS && wrong < 20; seed++) {
            LongTextsTest test = new LongTextsTest(seed);
            test.parts();
            test.runs();
            test.subsequence();
            test.script();
            test.waysBack();
        }
        System.out.println(wrong == 0 ? "all answers are as due" : wrong + " answers are not as due");
        if (wrong != 0) {
            System.exit(1);
        }
    }
}
