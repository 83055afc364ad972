import java.util.ArrayDeque;
import java.util.ArrayList;
import java.util.Collections;
import java.util.Deque;
import java.util.HashMap;
import java.util.LinkedHashMap;
import java.util.List;
import java.util.Map;
import java.util.TreeSet;

/**
 * The document word by word over Strings, however slow: what AgainstPlainTest holds UnitAtlas against.
 * It shares no way of working with the program.
 */
final class PlainAtlas {
    static final int NONE = -1, BAD = -2, FULL = -3, NO = -4;

    private List<String> texts = new ArrayList<>();
    private final List<String> patterns = new ArrayList<>();
    private final Deque<List<String>> before = new ArrayDeque<>();
    private List<int[]> matches = new ArrayList<>();
    private List<int[]> runs = new ArrayList<>();
    private List<int[]> words = new ArrayList<>();
    private List<int[]> steps = new ArrayList<>();
    private List<int[]> pairs = new ArrayList<>();
    private List<int[]> items = new ArrayList<>();
    private int way = NONE;
    private List<Integer> lasts = new ArrayList<>();

    private boolean no(int t) {
        return t < 0 || t >= texts.size();
    }

    private boolean full() {
        return texts.size() >= 40;
    }

    private void changing() {
        before.addLast(new ArrayList<>(texts));
        if (before.size() > 20) {
            before.removeFirst();
        }
    }

    private int make(String s) {
        if (full() || s.length() > 240) {
            return FULL;
        }
        changing();
        texts.add(s);
        return texts.size() - 1;
    }

    private int become(int t, String s) {
        if (s.length() > 240) {
            return FULL;
        }
        changing();
        texts.set(t, s);
        return s.length();
    }

    public int text() {
        return make("");
    }

    public int units(int t, int n, long w) {
        if (no(t) || n < 1 || n > 4) {
            return BAD;
        }
        String all = "" + (char) (w >>> 48) + (char) (w >>> 32) + (char) (w >>> 16) + (char) w;
        return become(t, texts.get(t) + all.substring(4 - n));
    }

    public int point(int t, int p) {
        if (no(t) || !Character.isValidCodePoint(p)) {
            return BAD;
        }
        return become(t, texts.get(t) + new String(Character.toChars(p)));
    }

    private boolean noPart(int t, int from, int to) {
        return no(t) || from < 0 || from > to || to > texts.get(t).length();
    }

    private boolean noSome(int t, int from, int n) {
        return no(t) || from < 0 || n < 0 || (long) from + n > texts.get(t).length();
    }

    private boolean noPlace(int t, int i) {
        return no(t) || i < 0 || i >= texts.get(t).length();
    }

    public int copy(int t, int from, int to) {
        return noPart(t, from, to) ? BAD : make(texts.get(t).substring(from, to));
    }

    public int append(int t, int s, int from, int to) {
        if (no(t) || noPart(s, from, to)) {
            return BAD;
        }
        return become(t, texts.get(t) + texts.get(s).substring(from, to));
    }

    public int reversed(int t) {
        if (no(t)) {
            return BAD;
        }
        String s = "";
        for (char c : texts.get(t).toCharArray()) {
            s = c + s;
        }
        return make(s);
    }

    public int insert(int t, int i, int u) {
        if (no(t) || i < 0 || i > texts.get(t).length() || u < 0 || u > 65535) {
            return BAD;
        }
        String s = texts.get(t);
        return become(t, s.substring(0, i) + (char) u + s.substring(i));
    }

    public int remove(int t, int i, int n) {
        if (noSome(t, i, n)) {
            return BAD;
        }
        String s = texts.get(t);
        return become(t, s.substring(0, i) + s.substring(i + n));
    }

    public int undo() {
        if (before.isEmpty()) {
            return NO;
        }
        texts = before.removeLast();
        return 1;
    }

    public int at(int t, int i) {
        return noPlace(t, i) ? BAD : texts.get(t).charAt(i);
    }

    public int length(int t) {
        return no(t) ? BAD : texts.get(t).length();
    }

    public int points(int t) {
        return no(t) ? BAD : (int) texts.get(t).codePoints().count();
    }

    public int pointAt(int t, int k) {
        if (no(t)) {
            return BAD;
        }
        int[] all = texts.get(t).codePoints().toArray();
        return k < 0 || k >= all.length ? NONE : all[k];
    }

    public int half(int t, int k) {
        if (no(t)) {
            return BAD;
        }
        List<Integer> places = new ArrayList<>();
        int place = 0;
        for (int p : texts.get(t).codePoints().toArray()) {
            if (p >= 0xD800 && p <= 0xDFFF) {
                places.add(place);
            }
            place += Character.charCount(p);
        }
        return k < 0 || k >= places.size() ? NONE : places.get(k);
    }

    public int order(int t, int s, boolean byPoints) {
        if (no(t) || no(s)) {
            return BAD;
        }
        if (!byPoints) {
            return Integer.signum(texts.get(t).compareTo(texts.get(s)));
        }
        int[] a = texts.get(t).codePoints().toArray();
        int[] b = texts.get(s).codePoints().toArray();
        return Integer.signum(java.util.Arrays.compare(a, b));
    }

    public int equalParts(int t, int i, int s, int j, int n) {
        if (noSome(t, i, n) || noSome(s, j, n)) {
            return BAD;
        }
        return texts.get(t).substring(i, i + n).equals(texts.get(s).substring(j, j + n)) ? 1 : 0;
    }

    private static List<String> suffixesOf(String s) {
        List<String> all = new ArrayList<>();
        for (int i = 0; i < s.length(); i++) {
            all.add(s.substring(i));
        }
        Collections.sort(all);
        return all;
    }

    public int suffix(int t, int k) {
        if (no(t)) {
            return BAD;
        }
        String s = texts.get(t);
        return k < 0 || k >= s.length() ? NONE : s.length() - suffixesOf(s).get(k).length();
    }

    public int rank(int t, int i) {
        return noPlace(t, i) ? BAD : suffixesOf(texts.get(t)).indexOf(texts.get(t).substring(i));
    }

    public int common(int t, int i, int j) {
        if (noPlace(t, i) || noPlace(t, j)) {
            return BAD;
        }
        String s = texts.get(t);
        int n = s.length() - Math.max(i, j);
        while (!s.substring(i, i + n).equals(s.substring(j, j + n))) {
            n--;
        }
        return n;
    }

    public int border(int t, int i) {
        if (no(t) || i < 1 || i > texts.get(t).length()) {
            return BAD;
        }
        String s = texts.get(t).substring(0, i);
        int b = i - 1;
        while (!s.endsWith(s.substring(0, b))) {
            b--;
        }
        return b;
    }

    private List<Integer> places(String s, String p, int sign, int changes) {
        List<Integer> places = new ArrayList<>();
        for (int i = 0; i + p.length() <= s.length(); i++) {
            int others = 0;
            for (int j = 0; j < p.length(); j++) {
                char a = s.charAt(i + j);
                char b = p.charAt(j);
                others += a == b || a == sign || b == sign ? 0 : 1;
            }
            if (others <= changes) {
                places.add(i);
            }
        }
        return places;
    }

    private int kth(List<Integer> places, int k) {
        return k < 0 || k >= places.size() ? NONE : places.get(k);
    }

    public int find(int t, int p, int k) {
        return no(t) || no(p) ? BAD : kth(places(texts.get(t), texts.get(p), -1, 0), k);
    }

    public int countOf(int t, int p) {
        return no(t) || no(p) ? BAD : places(texts.get(t), texts.get(p), -1, 0).size();
    }

    public int wild(int t, int p, int sign, int k) {
        if (no(t) || no(p) || sign < 0 || sign > 65535) {
            return BAD;
        }
        return kth(places(texts.get(t), texts.get(p), sign, 0), k);
    }

    public int near(int t, int p, int changes, int k) {
        if (no(t) || no(p) || changes < 0 || changes > 3) {
            return BAD;
        }
        return kth(places(texts.get(t), texts.get(p), -1, changes), k);
    }

    public int pattern(int t) {
        if (no(t) || texts.get(t).isEmpty() || texts.get(t).length() > 40) {
            return BAD;
        }
        if (patterns.size() >= 16) {
            return FULL;
        }
        patterns.add(texts.get(t));
        return patterns.size() - 1;
    }

    public int matches(int t) {
        if (no(t)) {
            return BAD;
        }
        matches = new ArrayList<>();
        for (int i = 0; i < texts.get(t).length(); i++) {
            for (int q = 0; q < patterns.size(); q++) {
                if (texts.get(t).startsWith(patterns.get(q), i)) {
                    matches.add(new int[] {i, q});
                }
            }
        }
        return matches.size();
    }

    private static int told(List<int[]> rows, int k, int what, int width) {
        if (what < 0 || what >= width) {
            return BAD;
        }
        return k < 0 || k >= rows.size() ? NONE : rows.get(k)[what];
    }

    public int match(int k, int what) {
        return told(matches, k, what, 2);
    }

    public int longestCommon(int t, int s, int what) {
        if (no(t) || no(s) || what < 0 || what > 2) {
            return BAD;
        }
        String a = texts.get(t);
        String b = texts.get(s);
        for (int n = Math.min(a.length(), b.length()); n > 0; n--) {
            for (int i = 0; i + n <= a.length(); i++) {
                int j = b.indexOf(a.substring(i, i + n));
                if (j >= 0) {
                    return what == 0 ? n : what == 1 ? i : j;
                }
            }
        }
        return 0;
    }

    public int ofMany(int many, int what) {
        if (many < 1 || what < 0 || what > 2) {
            return BAD;
        }
        if (many > texts.size()) {
            return NO;
        }
        for (int n = 240; n > 0; n--) {
            Map<String, TreeSet<Integer>> owners = new HashMap<>();
            for (int t = 0; t < texts.size(); t++) {
                for (int i = 0; i + n <= texts.get(t).length(); i++) {
                    owners.computeIfAbsent(texts.get(t).substring(i, i + n), x -> new TreeSet<>()).add(t);
                }
            }
            String best = null;
            for (Map.Entry<String, TreeSet<Integer>> e : owners.entrySet()) {
                if (e.getValue().size() >= many && (best == null || e.getKey().compareTo(best) < 0)) {
                    best = e.getKey();
                }
            }
            if (best != null) {
                int first = owners.get(best).first();
                return what == 0 ? n : what == 1 ? first : texts.get(first).indexOf(best);
            }
        }
        return 0;
    }

    private static boolean hasPeriod(String s, int p) {
        return s.substring(p).equals(s.substring(0, s.length() - p));
    }

    private static int leastPeriod(String s) {
        int p = 1;
        while (!hasPeriod(s, p)) {
            p++;
        }
        return p;
    }

    public int period(int t, int from, int to) {
        return noPart(t, from, to) || from == to ? BAD : leastPeriod(texts.get(t).substring(from, to));
    }

    public int root(int t) {
        if (no(t)) {
            return BAD;
        }
        String s = texts.get(t);
        for (int p = 1; p <= s.length(); p++) {
            if (s.length() % p == 0 && s.substring(0, p).repeat(s.length() / p).equals(s)) {
                return p;
            }
        }
        return 0;
    }

    public int squares(int t) {
        if (no(t)) {
            return BAD;
        }
        String s = texts.get(t);
        int many = 0;
        for (int i = 0; i < s.length(); i++) {
            for (int p = 1; i + 2 * p <= s.length(); p++) {
                many += s.startsWith(s.substring(i, i + p), i + p) ? 1 : 0;
            }
        }
        return many;
    }

    public int runs(int t) {
        if (no(t)) {
            return BAD;
        }
        String s = texts.get(t);
        runs = new ArrayList<>();
        for (int a = 0; a < s.length(); a++) {
            for (int p = 1; a + 2 * p <= s.length(); p++) {
                for (int b = a + 2 * p; b <= s.length(); b++) {
                    boolean wider = a > 0 && hasPeriod(s.substring(a - 1, b), p)
                        || b < s.length() && hasPeriod(s.substring(a, b + 1), p);
                    if (!wider && leastPeriod(s.substring(a, b)) == p) {
                        runs.add(new int[] {a, b, p});
                    }
                }
            }
        }
        return runs.size();
    }

    public int run(int k, int what) {
        return told(runs, k, what, 3);
    }

    private static boolean mirrors(String s) {
        for (int i = 0; i < s.length(); i++) {
            if (s.charAt(i) != s.charAt(s.length() - 1 - i)) {
                return false;
            }
        }
        return true;
    }

    public int palindrome(int t, int centre) {
        if (no(t) || centre < 0 || centre > 2 * texts.get(t).length() - 2) {
            return BAD;
        }
        String s = texts.get(t);
        int best = 0;
        for (int from = 0; from <= s.length(); from++) {
            int to = centre - from + 1;
            if (from <= to && to <= s.length() && mirrors(s.substring(from, to))) {
                best = Math.max(best, to - from);
            }
        }
        return best;
    }

    public int palindromes(int t) {
        if (no(t)) {
            return BAD;
        }
        String s = texts.get(t);
        int[] least = new int[s.length() + 1];
        for (int to = 1; to <= s.length(); to++) {
            least[to] = Integer.MAX_VALUE;
            for (int from = 0; from < to; from++) {
                if (mirrors(s.substring(from, to))) {
                    least[to] = Math.min(least[to], least[from] + 1);
                }
            }
        }
        return least[s.length()];
    }

    public int leastRotation(int t) {
        if (no(t)) {
            return BAD;
        }
        String s = texts.get(t);
        int best = NONE;
        for (int i = 0; i < s.length(); i++) {
            if (best == NONE || (s.substring(i) + s.substring(0, i))
                .compareTo(s.substring(best) + s.substring(0, best)) < 0) {
                best = i;
            }
        }
        return best;
    }

    private static boolean isLyndon(String s) {
        for (int i = 1; i < s.length(); i++) {
            if (s.compareTo(s.substring(i)) >= 0) {
                return false;
            }
        }
        return true;
    }

    public int lyndon(int t, int k) {
        if (no(t)) {
            return BAD;
        }
        String s = texts.get(t);
        List<Integer> starts = new ArrayList<>();
        for (int i = 0; i < s.length(); ) {
            starts.add(i);
            int to = s.length();
            while (!isLyndon(s.substring(i, to))) {
                to--;
            }
            i = to;
        }
        return kth(starts, k);
    }

    private static TreeSet<String> partsOf(String s) {
        TreeSet<String> all = new TreeSet<>();
        for (int i = 0; i < s.length(); i++) {
            for (int j = i + 1; j <= s.length(); j++) {
                all.add(s.substring(i, j));
            }
        }
        return all;
    }

    public int parts(int t) {
        return no(t) ? BAD : partsOf(texts.get(t)).size();
    }

    public int nthPart(int t, int k) {
        if (no(t)) {
            return BAD;
        }
        if (full()) {
            return FULL;
        }
        List<String> all = new ArrayList<>(partsOf(texts.get(t)));
        return k < 0 || k >= all.size() ? NO : make(all.get(k));
    }

    private int occurs(String s, String p) {
        return places(s, p, -1, 0).size();
    }

    public int unique(int t, int i) {
        if (noPlace(t, i)) {
            return BAD;
        }
        String s = texts.get(t);
        for (int n = 1; i + n <= s.length(); n++) {
            if (occurs(s, s.substring(i, i + n)) == 1) {
                return n;
            }
        }
        return NONE;
    }

    public int leastUnique(int t) {
        if (no(t)) {
            return BAD;
        }
        String s = texts.get(t);
        int many = 0;
        for (String p : partsOf(s)) {
            if (occurs(s, p) == 1) {
                boolean least = true;
                for (String q : partsOf(p)) {
                    least &= q.equals(p) || occurs(s, q) > 1;
                }
                many += least ? 1 : 0;
            }
        }
        return many;
    }

    public int absent(int t) {
        if (no(t)) {
            return BAD;
        }
        if (full()) {
            return FULL;
        }
        String s = texts.get(t);
        if (s.isEmpty()) {
            return NO;
        }
        TreeSet<String> letters = new TreeSet<>();
        for (char c : s.toCharArray()) {
            letters.add("" + c);
        }
        TreeSet<String> level = new TreeSet<>(letters);
        while (true) {
            TreeSet<String> next = new TreeSet<>();
            for (String p : level) {
                if (!s.contains(p)) {
                    return make(p);
                }
                for (String c : letters) {
                    next.add(p + c);
                }
            }
            level = next;
        }
    }

    public int cover(int t) {
        if (no(t)) {
            return BAD;
        }
        String s = texts.get(t);
        List<List<Integer>> best = new ArrayList<>(Collections.nCopies(s.length() + 1, null));
        best.set(s.length(), new ArrayList<>());
        for (int i = s.length() - 1; i >= 0; i--) {
            for (int q = 0; q < patterns.size(); q++) {
                if (s.startsWith(patterns.get(q), i) && best.get(i + patterns.get(q).length()) != null) {
                    List<Integer> row = new ArrayList<>(best.get(i + patterns.get(q).length()));
                    row.add(0, q);
                    if (best.get(i) == null || isBetter(row, best.get(i), false)) {
                        best.set(i, row);
                    }
                }
            }
        }
        if (best.get(0) == null) {
            return NO;
        }
        words = new ArrayList<>();
        for (int q : best.get(0)) {
            words.add(new int[] {q});
        }
        return words.size();
    }

    private static boolean isBetter(List<Integer> a, List<Integer> b, boolean longerIsBetter) {
        if (a.size() != b.size()) {
            return longerIsBetter == a.size() > b.size();
        }
        for (int i = 0; i < a.size(); i++) {
            if (!a.get(i).equals(b.get(i))) {
                return a.get(i) < b.get(i);
            }
        }
        return false;
    }

    public int word(int k) {
        return told(words, k, 0, 1);
    }

    private static int steps(String a, String b, Map<String, Integer> known) {
        if (a.isEmpty() || b.isEmpty()) {
            return a.length() + b.length();
        }
        String key = a.length() + " " + b.length();
        Integer old = known.get(key);
        if (old != null) {
            return old;
        }
        int changed = steps(a.substring(1), b.substring(1), known) + (a.charAt(0) == b.charAt(0) ? 0 : 1);
        int out = steps(a.substring(1), b, known) + 1;
        int in = steps(a, b.substring(1), known) + 1;
        int least = Math.min(changed, Math.min(out, in));
        known.put(key, least);
        return least;
    }

    public int distance(int t, int s) {
        if (no(t) || no(s)) {
            return BAD;
        }
        String a = texts.get(t);
        String b = texts.get(s);
        Map<String, Integer> known = new HashMap<>();
        int all = steps(a, b, known);
        steps = new ArrayList<>();
        int i = 0;
        while (!a.isEmpty() || !b.isEmpty()) {
            if (!a.isEmpty() && !b.isEmpty() && a.charAt(0) == b.charAt(0)) {
                a = a.substring(1);
                b = b.substring(1);
                i++;
                continue;
            }
            int changed = a.isEmpty() || b.isEmpty() ? 9999 : steps(a.substring(1), b.substring(1), known);
            int out = a.isEmpty() ? 9999 : steps(a.substring(1), b, known);
            int in = b.isEmpty() ? 9999 : steps(a, b.substring(1), known);
            int least = Math.min(changed, Math.min(out, in));
            if (changed == least) {
                steps.add(new int[] {2, i, b.charAt(0)});
                a = a.substring(1);
                b = b.substring(1);
                i++;
            } else if (out == least) {
                steps.add(new int[] {1, i, -1});
                a = a.substring(1);
                i++;
            } else {
                steps.add(new int[] {0, i, b.charAt(0)});
                b = b.substring(1);
            }
        }
        return all;
    }

    public int script(int k, int what) {
        return told(steps, k, what, 3);
    }

    private static List<Integer> pairs(String a, int i, String b, int j, Map<Integer, List<Integer>> known) {
        int key = i * 1000 + j;
        if (known.containsKey(key)) {
            return known.get(key);
        }
        List<Integer> best = new ArrayList<>();
        for (int x = i; x < a.length(); x++) {
            for (int y = j; y < b.length(); y++) {
                if (a.charAt(x) == b.charAt(y)) {
                    List<Integer> row = new ArrayList<>(List.of(x, y));
                    row.addAll(pairs(a, x + 1, b, y + 1, known));
                    if (isBetter(row, best, true)) {
                        best = row;
                    }
                }
            }
        }
        known.put(key, best);
        return best;
    }

    public int subsequence(int t, int s) {
        if (no(t) || no(s)) {
            return BAD;
        }
        List<Integer> best = pairs(texts.get(t), 0, texts.get(s), 0, new HashMap<>());
        pairs = new ArrayList<>();
        for (int k = 0; k < best.size(); k += 2) {
            pairs.add(new int[] {best.get(k), best.get(k + 1)});
        }
        return pairs.size();
    }

    public int pair(int k, int what) {
        return told(pairs, k, what, 2);
    }

    public int squeeze(int t, int newWay) {
        if (no(t) || newWay < 0 || newWay > 1) {
            return BAD;
        }
        way = newWay;
        items = new ArrayList<>();
        String s = texts.get(t);
        if (way == 0) {
            squeezeByCopies(s);
        } else {
            squeezeByPhrases(s);
        }
        return items.size();
    }

    private void squeezeByCopies(String s) {
        int i = 0;
        while (i < s.length()) {
            int n = s.length() - i;
            while (n > 1 && s.indexOf(s.substring(i, i + n)) >= i) {
                n--;
            }
            items.add(n > 1 ? new int[] {1, s.indexOf(s.substring(i, i + n)), n} : new int[] {0, s.charAt(i), 1});
            i += n;
        }
    }

    private void squeezeByPhrases(String s) {
        Map<String, Integer> phrases = new LinkedHashMap<>();
        phrases.put("", 0);
        String rest = s;
        while (!rest.isEmpty()) {
            String best = "";
            for (String p : phrases.keySet()) {
                best = rest.startsWith(p) && p.length() > best.length() ? p : best;
            }
            int number = phrases.get(best);
            rest = rest.substring(best.length());
            if (rest.isEmpty()) {
                items.add(new int[] {number, -1, 0});
            } else {
                items.add(new int[] {number, rest.charAt(0), 0});
                phrases.put(best + rest.charAt(0), phrases.size());
                rest = rest.substring(1);
            }
        }
    }

    public int squeezed(int k, int what) {
        return told(items, k, what, 3);
    }

    public int expand() {
        if (full()) {
            return FULL;
        }
        if (way == NONE) {
            return NO;
        }
        StringBuilder s = new StringBuilder();
        List<String> phrases = new ArrayList<>(List.of(""));
        for (int[] item : items) {
            if (way == 1) {
                String phrase = phrases.get(item[0]) + (item[1] < 0 ? "" : "" + (char) item[1]);
                phrases.add(phrase);
                s.append(phrase);
            } else if (item[0] == 0) {
                s.append((char) item[1]);
            } else {
                for (int n = 0; n < item[2]; n++) {
                    s.append(s.charAt(item[1] + n));
                }
            }
        }
        return make(s.toString());
    }

    /** UNITS are raised by one as numbers, so that END can be 0. */
    private static List<List<Integer>> rotations(String s) {
        List<Integer> row = new ArrayList<>();
        for (char c : s.toCharArray()) {
            row.add(c + 1);
        }
        row.add(0);
        List<List<Integer>> all = new ArrayList<>();
        for (int i = 0; i < row.size(); i++) {
            List<Integer> turned = new ArrayList<>(row.subList(i, row.size()));
            turned.addAll(row.subList(0, i));
            all.add(turned);
        }
        all.sort((x, y) -> isBetter(x, y, false) ? -1 : x.equals(y) ? 0 : 1);
        return all;
    }

    public int sort(int t) {
        if (no(t)) {
            return BAD;
        }
        List<List<Integer>> all = rotations(texts.get(t));
        lasts = new ArrayList<>();
        int itself = NONE;
        for (int k = 0; k < all.size(); k++) {
            int last = all.get(k).get(all.size() - 1) - 1;
            lasts.add(last);
            itself = last == -1 ? k : itself;
        }
        return itself;
    }

    public int sorted(int k) {
        return k < 0 || k >= lasts.size() ? BAD : lasts.get(k);
    }

    public int unsort() {
        if (full()) {
            return FULL;
        }
        if (lasts.isEmpty()) {
            return NO;
        }
        // The column is put ahead of the sorted rows again and again, until they are whole.
        List<List<Integer>> rows = new ArrayList<>();
        for (int k = 0; k < lasts.size(); k++) {
            rows.add(new ArrayList<>());
        }
        for (int turn = 0; turn < lasts.size(); turn++) {
            for (int k = 0; k < lasts.size(); k++) {
                rows.get(k).add(0, lasts.get(k));
            }
            rows.sort((x, y) -> isBetter(x, y, false) ? -1 : x.equals(y) ? 0 : 1);
        }
        StringBuilder s = new StringBuilder();
        for (int u : rows.get(0).subList(1, lasts.size())) {
            s.append((char) u);
        }
        return make(s.toString());
    }

    public int count(int what) {
        int units = 0;
        for (String s : texts) {
            units += s.length();
        }
        int[] counts = {texts.size(), patterns.size(), before.size(), units};
        return what < 0 || what > 3 ? BAD : counts[what];
    }

    public int forget() {
        int had = patterns.size();
        patterns.clear();
        return had;
    }
}
