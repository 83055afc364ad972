/**
 * An atlas of texts of units. Every row that a call needs is made once, with the object or when it is
 * first asked for, so that calls themselves make nothing new.
 */
public final class UnitAtlas {
    public static final int NONE = -1, BAD = -2, FULL = -3, NO = -4;

    private static final int MOST_TEXTS = 40;
    private static final int MOST_UNITS = 240;
    private static final int MOST_CHANGES = 20;
    private static final int MOST_PATTERNS = 16;
    private static final int LONGEST_PATTERN = 40;
    private static final int LAST_UNIT = 0xFFFF;
    private static final int LAST_POINT = 0x10FFFF;

    private final Shelf shelf = new Shelf();
    private final Suffixes suffixesOfOne = new Suffixes(MOST_UNITS);
    private final Search search = new Search();
    private final Forms forms = new Forms();
    private final Patterns patterns = new Patterns();
    private final Squeezer squeezer = new Squeezer();
    private final Sorter sorter = new Sorter();
    private final Told toldMatches = new Told(2, MOST_UNITS * MOST_PATTERNS);
    private final Told toldWords = new Told(1, MOST_UNITS);
    private final Told toldRuns = new Told(3, MOST_UNITS);
    private final Told toldSteps = new Told(3, MOST_UNITS);
    private final Told toldPairs = new Told(2, MOST_UNITS);
    /** These two are large, and many runs never ask for them: they are made when first needed. */
    private Suffixes suffixesOfAll;
    private Steps steps;

    public UnitAtlas() {
    }

    // ---- making and changing TEXTS

    public int text() {
        return shelf.open() == null ? FULL : shelf.newest();
    }

    public int units(int t, int n, long w) {
        Text text = shelf.look(t);
        if (text == null || n < 1 || n > 4) {
            return BAD;
        }
        if (text.room() < n) {
            return FULL;
        }
        shelf.keep(t);
        for (int k = n - 1; k >= 0; k--) {
            text.put((int) (w >>> (16 * k)) & LAST_UNIT);
        }
        return text.size;
    }

    public int point(int t, int p) {
        Text text = shelf.look(t);
        if (text == null || p < 0 || p > LAST_POINT) {
            return BAD;
        }
        if (text.room() < (p > LAST_UNIT ? 2 : 1)) {
            return FULL;
        }
        shelf.keep(t);
        text.putPoint(p);
        return text.size;
    }

    public int copy(int t, int from, int to) {
        Text text = shelf.look(t);
        if (text == null || !text.hasPart(from, to)) {
            return BAD;
        }
        return makePart(text, from, to);
    }

    public int append(int t, int s, int from, int to) {
        Text text = shelf.look(t);
        Text other = shelf.look(s);
        if (text == null || other == null || !other.hasPart(from, to)) {
            return BAD;
        }
        if (text.room() < to - from) {
            return FULL;
        }
        shelf.keep(t);
        text.putPart(other, from, to);
        return text.size;
    }

    public int reversed(int t) {
        Text text = shelf.look(t);
        if (text == null) {
            return BAD;
        }
        Text fresh = shelf.open();
        if (fresh == null) {
            return FULL;
        }
        for (int i = text.size - 1; i >= 0; i--) {
            fresh.put(text.unit[i]);
        }
        return shelf.newest();
    }

    public int insert(int t, int i, int u) {
        Text text = shelf.look(t);
        if (text == null || i < 0 || i > text.size || !isUnit(u)) {
            return BAD;
        }
        if (text.room() < 1) {
            return FULL;
        }
        shelf.keep(t);
        text.putAhead(i, u);
        return text.size;
    }

    public int remove(int t, int i, int n) {
        Text text = shelf.look(t);
        if (text == null || !text.hasSome(i, n)) {
            return BAD;
        }
        shelf.keep(t);
        text.drop(i, n);
        return text.size;
    }

    public int undo() {
        return shelf.takeBack() ? 1 : NO;
    }

    // ---- looking at TEXTS

    public int at(int t, int i) {
        Text text = shelf.look(t);
        if (text == null || !text.hasPlace(i)) {
            return BAD;
        }
        return text.unit[i];
    }

    public int length(int t) {
        Text text = shelf.look(t);
        return text == null ? BAD : text.size;
    }

    public int points(int t) {
        Text text = shelf.look(t);
        if (text == null) {
            return BAD;
        }
        int many = 0;
        for (int i = 0; i < text.size; i++) {
            many++;
            if (text.isPair(i)) {
                i++;
            }
        }
        return many;
    }

    public int pointAt(int t, int k) {
        Text text = shelf.look(t);
        if (text == null) {
            return BAD;
        }
        int passed = 0;
        for (int i = 0; i < text.size; i++) {
            if (passed == k) {
                return text.pointFrom(i);
            }
            passed++;
            if (text.isPair(i)) {
                i++;
            }
        }
        return NONE;
    }

    public int half(int t, int k) {
        Text text = shelf.look(t);
        if (text == null) {
            return BAD;
        }
        int passed = 0;
        for (int i = 0; i < text.size; i++) {
            if (text.isPair(i)) {
                i++;
            } else if (text.isHalf(i)) {
                if (passed == k) {
                    return i;
                }
                passed++;
            }
        }
        return NONE;
    }

    public int order(int t, int s, boolean byPoints) {
        Text text = shelf.look(t);
        Text other = shelf.look(s);
        if (text == null || other == null) {
            return BAD;
        }
        return byPoints ? text.againstByPoints(other) : text.against(other);
    }

    public int equalParts(int t, int i, int s, int j, int n) {
        Text text = shelf.look(t);
        Text other = shelf.look(s);
        if (text == null || other == null || !text.hasSome(i, n) || !other.hasSome(j, n)) {
            return BAD;
        }
        for (int k = 0; k < n; k++) {
            if (text.unit[i + k] != other.unit[j + k]) {
                return 0;
            }
        }
        return 1;
    }

    // ---- orders of SUFFIXES

    public int suffix(int t, int k) {
        if (shelf.look(t) == null) {
            return BAD;
        }
        return suffixesOf(t).placeOf(k);
    }

    public int rank(int t, int i) {
        Text text = shelf.look(t);
        if (text == null || !text.hasPlace(i)) {
            return BAD;
        }
        return suffixesOf(t).rankOf(i);
    }

    public int common(int t, int i, int j) {
        Text text = shelf.look(t);
        if (text == null || !text.hasPlace(i) || !text.hasPlace(j)) {
            return BAD;
        }
        int same = 0;
        for (int k = 0; i + k < text.size && j + k < text.size; k++) {
            if (text.unit[i + k] != text.unit[j + k]) {
                break;
            }
            same++;
        }
        return same;
    }

    public int border(int t, int i) {
        Text text = shelf.look(t);
        if (text == null || i < 1 || i > text.size) {
            return BAD;
        }
        return forms.edgeOf(text, 0, i);
    }

    // ---- matching of one

    public int find(int t, int p, int k) {
        Text text = shelf.look(t);
        Text sought = shelf.look(p);
        if (text == null || sought == null) {
            return BAD;
        }
        return Search.placeOf(text, sought, NONE, 0, k);
    }

    public int countOf(int t, int p) {
        Text text = shelf.look(t);
        Text sought = shelf.look(p);
        if (text == null || sought == null) {
            return BAD;
        }
        return Search.placesOf(text, sought);
    }

    public int wild(int t, int p, int sign, int k) {
        Text text = shelf.look(t);
        Text sought = shelf.look(p);
        if (text == null || sought == null || !isUnit(sign)) {
            return BAD;
        }
        return Search.placeOf(text, sought, sign, 0, k);
    }

    public int near(int t, int p, int changes, int k) {
        Text text = shelf.look(t);
        Text sought = shelf.look(p);
        if (text == null || sought == null || changes < 0 || changes > 3) {
            return BAD;
        }
        return Search.placeOf(text, sought, NONE, changes, k);
    }

    // ---- matching of many

    public int pattern(int t) {
        Text text = shelf.look(t);
        if (text == null || text.size < 1 || text.size > LONGEST_PATTERN) {
            return BAD;
        }
        return patterns.take(text);
    }

    public int matches(int t) {
        Text text = shelf.look(t);
        if (text == null) {
            return BAD;
        }
        patterns.tellMatches(text, toldMatches);
        return toldMatches.rows;
    }

    public int match(int k, int what) {
        return toldMatches.answer(k, what);
    }

    public int longestCommon(int t, int s, int what) {
        Text text = shelf.look(t);
        Text other = shelf.look(s);
        if (text == null || other == null || what < 0 || what > 2) {
            return BAD;
        }
        search.measureShared(text, other);
        if (what == 0) {
            return search.sharedSize;
        }
        return what == 1 ? search.sharedHere : search.sharedThere;
    }

    public int ofMany(int many, int what) {
        if (many < 1 || what < 0 || what > 2) {
            return BAD;
        }
        if (many > shelf.made) {
            return NO;
        }
        if (suffixesOfAll == null) {
            suffixesOfAll = new Suffixes(MOST_TEXTS * (MOST_UNITS + 1));
        }
        suffixesOfAll.holdAll(shelf);
        int size = suffixesOfAll.longestIn(many);
        if (what == 0) {
            return size;
        }
        int joined = suffixesOfAll.firstOf(size, many);
        return what == 1 ? suffixesOfAll.ownerOf(joined) : suffixesOfAll.placeInOwner(joined);
    }

    // ---- periods, runs, palindromes, rotations

    public int period(int t, int from, int to) {
        Text text = shelf.look(t);
        if (text == null || !text.hasPart(from, to) || from == to) {
            return BAD;
        }
        return to - from - forms.edgeOf(text, from, to);
    }

    public int root(int t) {
        Text text = shelf.look(t);
        if (text == null) {
            return BAD;
        }
        if (text.size == 0) {
            return 0;
        }
        int least = text.size - forms.edgeOf(text, 0, text.size);
        return least > 0 && text.size % least == 0 ? least : text.size;
    }

    public int squares(int t) {
        Text text = shelf.look(t);
        return text == null ? BAD : Forms.squaresIn(text);
    }

    public int runs(int t) {
        Text text = shelf.look(t);
        if (text == null) {
            return BAD;
        }
        Forms.tellRuns(text, toldRuns);
        return toldRuns.rows;
    }

    public int run(int k, int what) {
        return toldRuns.answer(k, what);
    }

    public int palindrome(int t, int centre) {
        Text text = shelf.look(t);
        if (text == null || centre < 0 || centre > 2 * text.size - 2) {
            return BAD;
        }
        return Forms.mirroredAround(text, centre);
    }

    public int palindromes(int t) {
        Text text = shelf.look(t);
        return text == null ? BAD : forms.leastMirrored(text);
    }

    public int leastRotation(int t) {
        Text text = shelf.look(t);
        if (text == null) {
            return BAD;
        }
        return text.size == 0 ? NONE : Forms.leastTurn(text);
    }

    public int lyndon(int t, int k) {
        if (shelf.look(t) == null) {
            return BAD;
        }
        return suffixesOf(t).lyndonStart(k);
    }

    // ---- different parts

    public int parts(int t) {
        if (shelf.look(t) == null) {
            return BAD;
        }
        return suffixesOf(t).differentParts();
    }

    public int nthPart(int t, int k) {
        Text text = shelf.look(t);
        if (text == null) {
            return BAD;
        }
        if (shelf.isFull()) {
            return FULL;
        }
        Suffixes suffixes = suffixesOf(t);
        if (!suffixes.choosePart(k)) {
            return NO;
        }
        return makePart(text, suffixes.partFrom, suffixes.partTo);
    }

    public int unique(int t, int i) {
        Text text = shelf.look(t);
        if (text == null || !text.hasPlace(i)) {
            return BAD;
        }
        return suffixesOf(t).aloneFrom(i);
    }

    public int leastUnique(int t) {
        if (shelf.look(t) == null) {
            return BAD;
        }
        return suffixesOf(t).leastAlone();
    }

    public int absent(int t) {
        Text text = shelf.look(t);
        if (text == null) {
            return BAD;
        }
        if (shelf.isFull()) {
            return FULL;
        }
        if (text.size == 0) {
            return NO;
        }
        Text missing = search.missingIn(text);
        if (missing == null) {
            return FULL;
        }
        return makePart(missing, 0, missing.size);
    }

    // ---- covers, least changes

    public int cover(int t) {
        Text text = shelf.look(t);
        if (text == null) {
            return BAD;
        }
        return patterns.tellCover(text, toldWords) ? toldWords.rows : NO;
    }

    public int word(int k) {
        return toldWords.answer(k, 0);
    }

    public int distance(int t, int s) {
        Text text = shelf.look(t);
        Text other = shelf.look(s);
        if (text == null || other == null) {
            return BAD;
        }
        stepsAtHand().tellScript(text, other, toldSteps);
        return toldSteps.rows;
    }

    public int script(int k, int what) {
        return toldSteps.answer(k, what);
    }

    public int subsequence(int t, int s) {
        Text text = shelf.look(t);
        Text other = shelf.look(s);
        if (text == null || other == null) {
            return BAD;
        }
        stepsAtHand().tellPairs(text, other, toldPairs);
        return toldPairs.rows;
    }

    public int pair(int k, int what) {
        return toldPairs.answer(k, what);
    }

    // ---- squeezing and sorting with ways back

    public int squeeze(int t, int way) {
        Text text = shelf.look(t);
        if (text == null || way < 0 || way > 1) {
            return BAD;
        }
        squeezer.press(text, way);
        return squeezer.items.rows;
    }

    public int squeezed(int k, int what) {
        return squeezer.items.answer(k, what);
    }

    public int expand() {
        // FULL comes ahead of NO.
        if (squeezer.way == NONE && !shelf.isFull()) {
            return NO;
        }
        Text fresh = shelf.open();
        if (fresh == null) {
            return FULL;
        }
        squeezer.unfold(fresh);
        return shelf.newest();
    }

    public int sort(int t) {
        Text text = shelf.look(t);
        if (text == null) {
            return BAD;
        }
        return sorter.arrange(text, suffixesOf(t));
    }

    public int sorted(int k) {
        int last = sorter.lastUnits.rows;
        return k < 0 || k >= last ? BAD : sorter.lastUnits.answer(k, 0);
    }

    public int unsort() {
        // FULL comes ahead of NO.
        if (sorter.lastUnits.rows == 0 && !shelf.isFull()) {
            return NO;
        }
        Text fresh = shelf.open();
        if (fresh == null) {
            return FULL;
        }
        sorter.restore(fresh);
        return shelf.newest();
    }

    // ---- the object itself

    public int count(int what) {
        switch (what) {
            case 0:
                return shelf.made;
            case 1:
                return patterns.taken;
            case 2:
                return shelf.changes;
            case 3:
                return shelf.allUnits();
            default:
                return BAD;
        }
    }

    public int forget() {
        int had = patterns.taken;
        patterns.taken = 0;
        return had;
    }

    private static boolean isUnit(int u) {
        return u >= 0 && u <= LAST_UNIT;
    }

    private int makePart(Text source, int from, int to) {
        Text fresh = shelf.open();
        if (fresh == null) {
            return FULL;
        }
        fresh.putPart(source, from, to);
        return shelf.newest();
    }

    private Suffixes suffixesOf(int t) {
        suffixesOfOne.holdOne(shelf, t);
        return suffixesOfOne;
    }

    private Steps stepsAtHand() {
        if (steps == null) {
            steps = new Steps();
        }
        return steps;
    }

    /** A row of UNITS that grows up to a bound. */
    private static final class Text {
        private final int[] unit;
        private int size;

        Text(int most) {
            unit = new int[Math.max(most, 0)];
        }

        boolean hasPlace(int i) {
            return i >= 0 && i < size;
        }

        boolean hasPart(int from, int to) {
            return from >= 0 && from <= to && to <= size;
        }

        /** Asked without a sum, which could run over. */
        boolean hasSome(int from, int n) {
            return from >= 0 && n >= 0 && from <= size && n <= size - from;
        }

        int room() {
            return unit.length - size;
        }

        void put(int u) {
            if (size < unit.length) {
                unit[size] = u;
                size++;
            }
        }

        void putPoint(int p) {
            if (p <= LAST_UNIT) {
                put(p);
            } else {
                int above = p - 0x10000;
                put(0xD800 + (above >> 10));
                put(0xDC00 + (above & 0x3FF));
            }
        }

        void putPart(Text other, int from, int to) {
            if (other.hasPart(from, to) && room() >= to - from) {
                System.arraycopy(other.unit, from, unit, size, to - from);
                size += to - from;
            }
        }

        void putAhead(int i, int u) {
            if (i >= 0 && i <= size && room() > 0) {
                System.arraycopy(unit, i, unit, i + 1, size - i);
                unit[i] = u;
                size++;
            }
        }

        void drop(int i, int n) {
            if (hasSome(i, n)) {
                System.arraycopy(unit, i + n, unit, i, size - i - n);
                size -= n;
            }
        }

        void become(Text other) {
            size = 0;
            putPart(other, 0, other.size);
        }

        boolean isPair(int i) {
            return i >= 0 && i + 1 < size
                && unit[i] >= 0xD800 && unit[i] <= 0xDBFF
                && unit[i + 1] >= 0xDC00 && unit[i + 1] <= 0xDFFF;
        }

        int pointFrom(int i) {
            if (isPair(i)) {
                return 0x10000 + ((unit[i] - 0xD800) << 10) + (unit[i + 1] - 0xDC00);
            }
            return hasPlace(i) ? unit[i] : NONE;
        }

        /** Asked of places where no pair begins or ends. */
        boolean isHalf(int i) {
            return hasPlace(i) && unit[i] >= 0xD800 && unit[i] <= 0xDFFF;
        }

        int against(Text other) {
            for (int i = 0; i < size && i < other.size; i++) {
                if (unit[i] != other.unit[i]) {
                    return unit[i] < other.unit[i] ? -1 : 1;
                }
            }
            return bySize(other);
        }

        /** Up to where the texts part their POINTS are the same, so one place serves both. */
        int againstByPoints(Text other) {
            for (int i = 0; i < size && i < other.size; i++) {
                int here = pointFrom(i);
                int there = other.pointFrom(i);
                if (here != there) {
                    return here < there ? -1 : 1;
                }
                if (isPair(i)) {
                    i++;
                }
            }
            return bySize(other);
        }

        private int bySize(Text other) {
            if (size == other.size) {
                return 0;
            }
            return size < other.size ? -1 : 1;
        }
    }

    /** A CHANGE that can be taken back: the TEXT that it made, or a TEXT as it was ahead of it. */
    private static final class Kept {
        private final Text before = new Text(MOST_UNITS);
        private int text;
        private boolean made;
    }

    /** All TEXTS and the latest CHANGES. */
    private static final class Shelf {
        private final Text[] texts = new Text[MOST_TEXTS];
        private final Kept[] kept = new Kept[MOST_CHANGES];
        private int made;
        private int oldest;
        private int changes;
        /** Another one after each CHANGE and undo: what was worked out for an older stamp is stale. */
        private int stamp;

        Shelf() {
            for (int t = 0; t < MOST_TEXTS; t++) {
                texts[t] = new Text(MOST_UNITS);
            }
            for (int c = 0; c < MOST_CHANGES; c++) {
                kept[c] = new Kept();
            }
        }

        Text look(int t) {
            return t >= 0 && t < made && t < MOST_TEXTS ? texts[t] : null;
        }

        boolean isFull() {
            return made >= MOST_TEXTS;
        }

        int newest() {
            return made - 1;
        }

        /** A new TEXT of no UNITS, which is a CHANGE, or null if there is no room for it. */
        Text open() {
            if (isFull()) {
                return null;
            }
            Kept change = nextKept();
            change.made = true;
            change.text = made;
            Text fresh = texts[made];
            fresh.size = 0;
            made++;
            return fresh;
        }

        /** Keeps a TEXT as it is, for the CHANGE that comes now. */
        void keep(int t) {
            Text text = look(t);
            if (text == null) {
                return;
            }
            Kept change = nextKept();
            change.made = false;
            change.text = t;
            change.before.become(text);
        }

        private Kept nextKept() {
            stamp++;
            if (changes < MOST_CHANGES) {
                changes++;
            } else {
                oldest = (oldest + 1) % MOST_CHANGES;
            }
            return kept[(oldest + changes - 1) % MOST_CHANGES];
        }

        boolean takeBack() {
            if (changes == 0) {
                return false;
            }
            changes--;
            stamp++;
            Kept change = kept[(oldest + changes) % MOST_CHANGES];
            Text text = look(change.text);
            if (change.made) {
                made = change.text;
            } else if (text != null) {
                text.become(change.before);
            }
            return true;
        }

        int allUnits() {
            int all = 0;
            for (int t = 0; t < made && t < MOST_TEXTS; t++) {
                all += texts[t].size;
            }
            return all;
        }
    }

    /** What a call found, for later calls to tell: rows of one to three numbers. */
    private static final class Told {
        private final int[] cells;
        private final int width;
        private final int most;
        private int rows;

        Told(int width, int most) {
            this.width = width;
            this.most = most;
            cells = new int[Math.max(width * most, 0)];
        }

        void clear() {
            rows = 0;
        }

        int answer(int k, int what) {
            if (what < 0 || what >= width) {
                return BAD;
            }
            return k < 0 || k >= rows ? NONE : cells[k * width + what];
        }

        void add(int a, int b, int c) {
            if (rows < most) {
                write(rows, a, b, c);
                rows++;
            }
        }

        /** Behind all rows whose first number is not greater. */
        void addByFirst(int a, int b, int c) {
            if (rows >= most) {
                return;
            }
            int k = rows;
            while (k > 0 && cells[(k - 1) * width] > a) {
                System.arraycopy(cells, (k - 1) * width, cells, k * width, width);
                k--;
            }
            write(k, a, b, c);
            rows++;
        }

        private void write(int k, int a, int b, int c) {
            int start = k * width;
            cells[start] = a;
            if (width > 1) {
                cells[start + 1] = b;
            }
            if (width > 2) {
                cells[start + 2] = c;
            }
        }

        /** The first row with these two numbers ahead, or NONE. */
        int rowOf(int a, int b) {
            for (int k = 0; k < rows; k++) {
                if (answer(k, 0) == a && answer(k, 1) == b) {
                    return k;
                }
            }
            return NONE;
        }
    }

    /** The SUFFIXES of one TEXT, or of all TEXTS joined, by order. */
    private static final class Suffixes {
        /** Joined TEXTS have an END each, all unlike and less than all UNITS: UNITS are raised above them. */
        private static final int RAISED = MOST_TEXTS;
        private static final int LOW_KEYS = 256;
        private static final int HIGH_KEYS = 512;

        private final int[] sign;
        private final int[] owner;
        private final int[] start = new int[MOST_TEXTS];
        private final int[] unitsEnd = new int[MOST_TEXTS];
        private final int[] mark = new int[MOST_TEXTS];
        private final int[] ordered;
        private final int[] ranks;
        private final int[] spare;
        private final int[] tally;
        /** How many signs a SUFFIX shares with the one ahead of it in the order. */
        private final int[] shared;
        private int size;
        private int heldText = NONE;
        private int heldStamp = NONE;
        private int partFrom;
        private int partTo;

        Suffixes(int capacity) {
            int most = Math.max(capacity, 1);
            sign = new int[most];
            owner = new int[most];
            ordered = new int[most];
            ranks = new int[most];
            spare = new int[most];
            tally = new int[Math.max(most, HIGH_KEYS)];
            shared = new int[most];
        }

        void holdOne(Shelf shelf, int t) {
            Text text = shelf.look(t);
            if (text == null || heldText == t && heldStamp == shelf.stamp) {
                return;
            }
            size = 0;
            join(text, 0);
            arrange();
            heldText = t;
            heldStamp = shelf.stamp;
        }

        void holdAll(Shelf shelf) {
            if (heldText == MOST_TEXTS && heldStamp == shelf.stamp) {
                return;
            }
            size = 0;
            for (int t = 0; t < shelf.made && t < MOST_TEXTS; t++) {
                join(shelf.texts[t], t);
                addSign(t, t);
            }
            arrange();
            heldText = MOST_TEXTS;
            heldStamp = shelf.stamp;
        }

        private void join(Text text, int t) {
            start[t] = size;
            for (int i = 0; i < text.size; i++) {
                addSign(text.unit[i] + RAISED, t);
            }
            unitsEnd[t] = size;
        }

        private void addSign(int s, int t) {
            if (size < sign.length) {
                sign[size] = s;
                owner[size] = t;
                size++;
            }
        }

        /** By 1, 2, 4, .. signs: twice as many are in order once the SUFFIXES behind those are. */
        private void arrange() {
            if (size == 0) {
                return;
            }
            orderBySign();
            int kinds = rankBySign();
            for (int step = 1; step < size && kinds < size; step *= 2) {
                listBySecond(step);
                orderSpare(ranks, 0, -1, kinds);
                kinds = rankByTwo(step);
            }
            measureShared();
        }

        private void orderBySign() {
            for (int i = 0; i < size; i++) {
                spare[i] = i;
            }
            orderSpare(sign, 0, LOW_KEYS - 1, LOW_KEYS);
            System.arraycopy(ordered, 0, spare, 0, size);
            orderSpare(sign, 8, HIGH_KEYS - 1, HIGH_KEYS);
        }

        /** Puts the places in spare by their keys into ordered; places of one key stay as they stand. */
        private void orderSpare(int[] key, int shift, int mask, int keys) {
            for (int b = 0; b < keys; b++) {
                tally[b] = 0;
            }
            for (int r = 0; r < size; r++) {
                tally[(key[spare[r]] >> shift) & mask]++;
            }
            int begin = 0;
            for (int b = 0; b < keys; b++) {
                int many = tally[b];
                tally[b] = begin;
                begin += many;
            }
            for (int r = 0; r < size; r++) {
                int b = (key[spare[r]] >> shift) & mask;
                ordered[tally[b]] = spare[r];
                tally[b]++;
            }
        }

        private int rankBySign() {
            int kinds = 1;
            ranks[ordered[0]] = 0;
            for (int r = 1; r < size; r++) {
                if (sign[ordered[r]] != sign[ordered[r - 1]]) {
                    kinds++;
                }
                ranks[ordered[r]] = kinds - 1;
            }
            return kinds;
        }

        /** Places by what begins a step behind them: first those with nothing there. */
        private void listBySecond(int step) {
            int listed = 0;
            for (int i = Math.max(size - step, 0); i < size; i++) {
                spare[listed] = i;
                listed++;
            }
            for (int r = 0; r < size; r++) {
                if (ordered[r] >= step) {
                    spare[listed] = ordered[r] - step;
                    listed++;
                }
            }
        }

        private int rankByTwo(int step) {
            int kinds = 1;
            spare[ordered[0]] = 0;
            for (int r = 1; r < size; r++) {
                int here = ordered[r];
                int ahead = ordered[r - 1];
                if (ranks[here] != ranks[ahead] || rankOf(here + step) != rankOf(ahead + step)) {
                    kinds++;
                }
                spare[here] = kinds - 1;
            }
            System.arraycopy(spare, 0, ranks, 0, size);
            return kinds;
        }

        /** Going by places, at most one sign of what was shared is lost from each to the next. */
        private void measureShared() {
            int same = 0;
            for (int i = 0; i < size; i++) {
                int r = ranks[i];
                if (r == 0) {
                    same = 0;
                } else {
                    int j = ordered[r - 1];
                    while (i + same < size && j + same < size && sign[i + same] == sign[j + same]) {
                        same++;
                    }
                }
                shared[r] = same;
                same = Math.max(same - 1, 0);
            }
        }

        int placeOf(int r) {
            return r >= 0 && r < size ? ordered[r] : NONE;
        }

        int rankOf(int i) {
            return i >= 0 && i < size ? ranks[i] : NONE;
        }

        private int sharedAt(int r) {
            return r >= 0 && r < size ? shared[r] : 0;
        }

        /** A LYNDON text of the row begins where a SUFFIX is LESS than all that begin ahead of it. */
        int lyndonStart(int k) {
            int least = size;
            int passed = 0;
            for (int i = 0; i < size; i++) {
                if (ranks[i] < least) {
                    if (passed == k) {
                        return i;
                    }
                    least = ranks[i];
                    passed++;
                }
            }
            return NONE;
        }

        /** Parts that the SUFFIX at r begins with and none ahead of it does. */
        private int freshParts(int r) {
            return size - ordered[r] - shared[r];
        }

        int differentParts() {
            int all = 0;
            for (int r = 0; r < size; r++) {
                all += freshParts(r);
            }
            return all;
        }

        boolean choosePart(int k) {
            int left = k;
            for (int r = 0; r < size && left >= 0; r++) {
                int fresh = freshParts(r);
                if (left < fresh) {
                    partFrom = ordered[r];
                    partTo = partFrom + shared[r] + left + 1;
                    return true;
                }
                left -= fresh;
            }
            return false;
        }

        int aloneFrom(int i) {
            int r = rankOf(i);
            if (r == NONE) {
                return NONE;
            }
            int n = Math.max(sharedAt(r), sharedAt(r + 1)) + 1;
            return n <= size - i ? n : NONE;
        }

        /** A part that occurs once is least, if what it has without its first UNIT occurs elsewhere. */
        int leastAlone() {
            int many = 0;
            for (int i = 0; i < size; i++) {
                int here = aloneFrom(i);
                int next = aloneFrom(i + 1);
                if (here != NONE && (next == NONE || next >= here)) {
                    many++;
                }
            }
            return many;
        }

        /** If a text stands in so many TEXTS, all that it begins with do: so halving finds the length. */
        int longestIn(int many) {
            int sure = 0;
            int most = MOST_UNITS;
            while (sure < most) {
                int n = (sure + most + 1) / 2;
                if (stretchOf(n, many) == NONE) {
                    most = n - 1;
                } else {
                    sure = n;
                }
            }
            return sure;
        }

        /** Where in the order SUFFIXES begin with the least text of n signs that is in so many TEXTS. */
        private int stretchOf(int n, int many) {
            for (int t = 0; t < MOST_TEXTS; t++) {
                mark[t] = NONE;
            }
            int begin = 0;
            int seen = 0;
            for (int r = 0; r < size; r++) {
                if (shared[r] < n) {
                    begin = r;
                    seen = 0;
                }
                int t = owner[ordered[r]];
                if (mark[t] != begin && unitsEnd[t] - ordered[r] >= n) {
                    mark[t] = begin;
                    seen++;
                }
                if (seen >= many) {
                    return begin;
                }
            }
            return NONE;
        }

        /** The first joined place of the least text of n UNITS that is in so many TEXTS. */
        int firstOf(int n, int many) {
            int begin = n > 0 ? stretchOf(n, many) : NONE;
            if (begin == NONE) {
                return 0;
            }
            int first = ordered[begin];
            for (int r = begin + 1; r < size && shared[r] >= n; r++) {
                first = Math.min(first, ordered[r]);
            }
            return first;
        }

        int ownerOf(int joined) {
            return joined >= 0 && joined < size ? owner[joined] : 0;
        }

        int placeInOwner(int joined) {
            return joined - start[ownerOf(joined)];
        }
    }

    /** Where texts stand in others, or do not. */
    private static final class Search {
        private final int[] same = new int[MOST_UNITS + 1];
        private final int[] letters = new int[MOST_UNITS];
        private final int[] chosen = new int[MOST_UNITS];
        private final Text missing = new Text(MOST_UNITS);
        private int many;
        private int sharedSize;
        private int sharedHere;
        private int sharedThere;

        /** The sign NONE is no UNIT: then none is wild. */
        static boolean fits(Text text, int place, Text sought, int sign, int changes) {
            if (place < 0 || sought.size > text.size - place) {
                return false;
            }
            int unlike = 0;
            for (int k = 0; k < sought.size; k++) {
                int here = text.unit[place + k];
                int there = sought.unit[k];
                if (here != there && here != sign && there != sign) {
                    unlike++;
                    if (unlike > changes) {
                        return false;
                    }
                }
            }
            return true;
        }

        static int placeOf(Text text, Text sought, int sign, int changes, int k) {
            int passed = 0;
            for (int place = 0; place <= text.size - sought.size; place++) {
                if (fits(text, place, sought, sign, changes)) {
                    if (passed == k) {
                        return place;
                    }
                    passed++;
                }
            }
            return NONE;
        }

        static int placesOf(Text text, Text sought) {
            int found = 0;
            for (int place = 0; place <= text.size - sought.size; place++) {
                if (fits(text, place, sought, NONE, 0)) {
                    found++;
                }
            }
            return found;
        }

        /** From the last place down, so that of several the one with the least place stays. */
        void measureShared(Text text, Text other) {
            sharedSize = 0;
            sharedHere = 0;
            sharedThere = 0;
            for (int j = 0; j <= other.size; j++) {
                same[j] = 0;
            }
            for (int i = text.size - 1; i >= 0; i--) {
                int best = 0;
                int there = 0;
                for (int j = 0; j < other.size; j++) {
                    same[j] = text.unit[i] == other.unit[j] ? same[j + 1] + 1 : 0;
                    if (same[j] > best) {
                        best = same[j];
                        there = j;
                    }
                }
                if (best > 0 && best >= sharedSize) {
                    sharedSize = best;
                    sharedHere = i;
                    sharedThere = there;
                }
            }
        }

        /** The least of the shortest texts of the UNITS of a text that are not in it; null above 240 UNITS. */
        Text missingIn(Text text) {
            gatherLetters(text);
            // Each text of one such UNIT is there.
            for (int n = 2; n <= MOST_UNITS; n++) {
                if (findMissing(text, n)) {
                    return missing;
                }
            }
            return null;
        }

        private void gatherLetters(Text text) {
            many = 0;
            for (int i = 0; i < text.size; i++) {
                int u = text.unit[i];
                int k = 0;
                while (k < many && letters[k] < u) {
                    k++;
                }
                if (many < letters.length && (k == many || letters[k] != u)) {
                    System.arraycopy(letters, k, letters, k + 1, many - k);
                    letters[k] = u;
                    many++;
                }
            }
        }

        /** A text has at most 240 parts of n UNITS, so one more try finds one that it has not. */
        private boolean findMissing(Text text, int n) {
            for (int d = 0; d < n; d++) {
                chosen[d] = 0;
            }
            for (int tried = 0; tried <= MOST_UNITS; tried++) {
                spellChosen(n);
                if (placeOf(text, missing, NONE, 0, 0) == NONE) {
                    return true;
                }
                if (!chooseNext(n)) {
                    return false;
                }
            }
            return false;
        }

        private void spellChosen(int n) {
            missing.size = 0;
            for (int d = 0; d < n; d++) {
                missing.put(letters[chosen[d]]);
            }
        }

        private boolean chooseNext(int n) {
            for (int d = n - 1; d >= 0; d--) {
                if (chosen[d] + 1 < many) {
                    chosen[d]++;
                    return true;
                }
                chosen[d] = 0;
            }
            return false;
        }
    }

    /** Periods, runs, palindromes and rotations. */
    private static final class Forms {
        private final int[] edge = new int[MOST_UNITS + 1];
        private final int[] least = new int[MOST_UNITS + 1];

        /** The BORDER of a PART of 1 or more UNITS, from those of all that it begins with, each below its length. */
        int edgeOf(Text text, int from, int to) {
            if (!text.hasPart(from, to)) {
                return 0;
            }
            int size = to - from;
            int b = 0;
            edge[0] = 0;
            for (int i = 1; i < size; i++) {
                edge[i] = b;
                while (b > 0 && text.unit[from + i] != text.unit[from + b]) {
                    b = Math.min(edge[b], b - 1);
                }
                if (text.unit[from + i] == text.unit[from + b]) {
                    b++;
                }
            }
            return b;
        }

        static int squaresIn(Text text) {
            int all = 0;
            for (int p = 1; 2 * p <= text.size; p++) {
                int same = 0;
                for (int i = 0; i + p < text.size; i++) {
                    same = text.unit[i] == text.unit[i + p] ? same + 1 : 0;
                    if (same >= p) {
                        all++;
                    }
                }
            }
            return all;
        }

        static void tellRuns(Text text, Told told) {
            told.clear();
            for (int p = 1; 2 * p <= text.size; p++) {
                int same = 0;
                for (int i = 0; i + p <= text.size; i++) {
                    if (i + p < text.size && text.unit[i] == text.unit[i + p]) {
                        same++;
                    } else {
                        tellIfRun(i - same, i + p, p, told);
                        same = 0;
                    }
                }
            }
        }

        /** Where a lesser PERIOD reaches as far, that is the RUN, and it has been told already. */
        private static void tellIfRun(int from, int to, int p, Told told) {
            if (to - from >= 2 * p && told.rowOf(from, to) == NONE) {
                told.addByFirst(from, to, p);
            }
        }

        static int mirroredAround(Text text, int centre) {
            int left = centre / 2;
            int right = left + centre % 2;
            while (left >= 0 && right < text.size && text.unit[left] == text.unit[right]) {
                left--;
                right++;
            }
            return right - left - 1;
        }

        /** Centres from the left: all that end ahead of one are done when it is looked at. */
        int leastMirrored(Text text) {
            for (int i = 0; i <= text.size; i++) {
                least[i] = i;
            }
            for (int centre = 0; centre <= 2 * text.size - 2; centre++) {
                int left = centre / 2;
                int right = left + centre % 2;
                while (left >= 0 && right < text.size && text.unit[left] == text.unit[right]) {
                    least[right + 1] = Math.min(least[right + 1], least[left] + 1);
                    left--;
                    right++;
                }
            }
            return least[text.size];
        }

        static int leastTurn(Text text) {
            int best = 0;
            for (int i = 1; i < text.size; i++) {
                if (turnIsLess(text, i, best)) {
                    best = i;
                }
            }
            return best;
        }

        private static boolean turnIsLess(Text text, int i, int j) {
            int size = text.size;
            for (int k = 0; k < size; k++) {
                int here = text.unit[i + k < size ? i + k : i + k - size];
                int there = text.unit[j + k < size ? j + k : j + k - size];
                if (here != there) {
                    return here < there;
                }
            }
            return false;
        }
    }

    /** PATTERNS, and what they find. */
    private static final class Patterns {
        private final Text[] kept = new Text[MOST_PATTERNS];
        private final int[] least = new int[MOST_UNITS + 1];
        private int taken;

        Patterns() {
            for (int q = 0; q < MOST_PATTERNS; q++) {
                kept[q] = new Text(LONGEST_PATTERN);
            }
        }

        int take(Text text) {
            if (taken >= MOST_PATTERNS) {
                return FULL;
            }
            kept[taken].become(text);
            taken++;
            return taken - 1;
        }

        void tellMatches(Text text, Told told) {
            told.clear();
            for (int place = 0; place < text.size; place++) {
                for (int q = 0; q < taken; q++) {
                    if (Search.fits(text, place, kept[q], NONE, 0)) {
                        told.add(place, q, 0);
                    }
                }
            }
        }

        /** Whether there is a COVER; only then it is told. */
        boolean tellCover(Text text, Told told) {
            measureRests(text);
            if (least[0] == NONE) {
                return false;
            }
            told.clear();
            int place = 0;
            for (int left = least[0]; left > 0; left--) {
                int q = firstOfLeast(text, place);
                if (q != NONE) {
                    told.add(q, 0, 0);
                    place += kept[q].size;
                }
            }
            return true;
        }

        /** From the end on: the least number for what begins at each place, NONE without a COVER. */
        private void measureRests(Text text) {
            least[text.size] = 0;
            for (int place = text.size - 1; place >= 0; place--) {
                least[place] = NONE;
                for (int q = 0; q < taken; q++) {
                    if (Search.fits(text, place, kept[q], NONE, 0)) {
                        int rest = least[place + kept[q].size];
                        if (rest != NONE && (least[place] == NONE || rest + 1 < least[place])) {
                            least[place] = rest + 1;
                        }
                    }
                }
            }
        }

        private int firstOfLeast(Text text, int place) {
            for (int q = 0; q < taken; q++) {
                if (Search.fits(text, place, kept[q], NONE, 0)
                    && least[place + kept[q].size] == least[place] - 1) {
                    return q;
                }
            }
            return NONE;
        }
    }

    /** STEPS from one text to another, and what both have in a row. */
    private static final class Steps {
        private static final int SIDE = MOST_UNITS + 1;
        private static final int IN = 0;
        private static final int OUT = 1;
        private static final int CHANGED = 2;

        /** For the rests of both texts from places i, j on: at i * SIDE + j. */
        private final int[] ofRests = new int[SIDE * SIDE];

        void tellScript(Text first, Text second, Told told) {
            measureDistances(first, second);
            told.clear();
            int i = 0;
            int j = 0;
            // Each turn goes on by a UNIT in one text at least.
            for (int turn = 0; turn < first.size + second.size; turn++) {
                if (i == first.size && j == second.size) {
                    break;
                }
                int way = CHANGED;
                if (!isSame(first, i, second, j)) {
                    way = wayOn(first, i, second, j);
                    told.add(way, i, way == OUT ? NONE : second.unit[j]);
                }
                if (way != IN) {
                    i++;
                }
                if (way != OUT) {
                    j++;
                }
            }
        }

        private static boolean isSame(Text first, int i, Text second, int j) {
            return i < first.size && j < second.size && first.unit[i] == second.unit[j];
        }

        private void measureDistances(Text first, Text second) {
            for (int j = 0; j <= second.size; j++) {
                ofRests[first.size * SIDE + j] = second.size - j;
            }
            for (int i = first.size - 1; i >= 0; i--) {
                ofRests[i * SIDE + second.size] = first.size - i;
                measureDistancesFrom(i, first.unit[i], second);
            }
        }

        private void measureDistancesFrom(int i, int u, Text second) {
            for (int j = second.size - 1; j >= 0; j--) {
                int cell = i * SIDE + j;
                int least = ofRests[cell + SIDE + 1];
                if (u != second.unit[j]) {
                    least = least <= ofRests[cell + SIDE] ? least : ofRests[cell + SIDE];
                    least = least <= ofRests[cell + 1] ? least : ofRests[cell + 1];
                    least++;
                }
                ofRests[cell] = least;
            }
        }

        private int wayOn(Text first, int i, Text second, int j) {
            if (i == first.size) {
                return IN;
            }
            if (j == second.size) {
                return OUT;
            }
            int cell = i * SIDE + j;
            int rest = ofRests[cell] - 1;
            if (ofRests[cell + SIDE + 1] == rest) {
                return CHANGED;
            }
            return ofRests[cell + SIDE] == rest ? OUT : IN;
        }

        /** For one place of the first text its first fellow in the second leaves most for the rest. */
        void tellPairs(Text first, Text second, Told told) {
            measurePairs(first, second);
            told.clear();
            int j = 0;
            for (int i = 0; i < first.size; i++) {
                int fellow = j;
                while (fellow < second.size && second.unit[fellow] != first.unit[i]) {
                    fellow++;
                }
                if (fellow < second.size
                    && ofRests[(i + 1) * SIDE + fellow + 1] + 1 == ofRests[i * SIDE + j]) {
                    told.add(i, fellow, 0);
                    j = fellow + 1;
                }
            }
        }

        private void measurePairs(Text first, Text second) {
            for (int j = 0; j <= second.size; j++) {
                ofRests[first.size * SIDE + j] = 0;
            }
            for (int i = first.size - 1; i >= 0; i--) {
                ofRests[i * SIDE + second.size] = 0;
                measurePairsFrom(i, first.unit[i], second);
            }
        }

        private void measurePairsFrom(int i, int u, Text second) {
            for (int j = second.size - 1; j >= 0; j--) {
                int cell = i * SIDE + j;
                if (u == second.unit[j]) {
                    ofRests[cell] = ofRests[cell + SIDE + 1] + 1;
                } else {
                    ofRests[cell] = Math.max(ofRests[cell + SIDE], ofRests[cell + 1]);
                }
            }
        }
    }

    /** Squeezing in two ways, and the way back. */
    private static final class Squeezer {
        private static final int UNIT = 0;
        private static final int COPY = 1;

        private final Told items = new Told(3, MOST_UNITS);
        private final int[] phraseFrom = new int[MOST_UNITS + 1];
        private final int[] phraseTo = new int[MOST_UNITS + 1];
        private int way = NONE;

        void press(Text text, int newWay) {
            way = newWay;
            items.clear();
            if (way == 0) {
                pressByCopies(text);
            } else {
                pressByPhrases(text);
            }
        }

        private void pressByCopies(Text text) {
            int i = 0;
            while (i < text.size) {
                int most = 1;
                int source = NONE;
                for (int j = 0; j < i; j++) {
                    int n = sameFrom(text, j, i);
                    if (n > most) {
                        most = n;
                        source = j;
                    }
                }
                if (source == NONE) {
                    items.add(UNIT, text.unit[i], 1);
                } else {
                    items.add(COPY, source, most);
                }
                i += most;
            }
        }

        private static int sameFrom(Text text, int j, int i) {
            int n = 0;
            while (i + n < text.size && text.unit[j + n] == text.unit[i + n]) {
                n++;
            }
            return n;
        }

        /** Item k with a UNIT makes PHRASE k + 1, so the items themselves are the list of PHRASES. */
        private void pressByPhrases(Text text) {
            int phrase = 0;
            boolean open = false;
            for (int i = 0; i < text.size; i++) {
                int longer = items.rowOf(phrase, text.unit[i]) + 1;
                open = longer > 0;
                if (open) {
                    phrase = longer;
                } else {
                    items.add(phrase, text.unit[i], 0);
                    phrase = 0;
                }
            }
            if (open) {
                items.add(phrase, NONE, 0);
            }
        }

        void unfold(Text fresh) {
            for (int k = 0; k < items.rows; k++) {
                if (way == 0) {
                    unfoldCopy(fresh, k);
                } else {
                    unfoldPhrase(fresh, k);
                }
            }
        }

        /** UNIT by UNIT, since a COPY may reach into what it makes itself. */
        private void unfoldCopy(Text fresh, int k) {
            int what = items.answer(k, 1);
            if (items.answer(k, 0) == UNIT) {
                fresh.put(what);
                return;
            }
            for (int n = 0; n < items.answer(k, 2); n++) {
                if (fresh.hasPlace(what + n)) {
                    fresh.put(fresh.unit[what + n]);
                }
            }
        }

        /** Each PHRASE stands in the text where its item came out. */
        private void unfoldPhrase(Text fresh, int k) {
            int phrase = items.answer(k, 0);
            int u = items.answer(k, 1);
            int from = fresh.size;
            if (phrase > 0 && phrase <= k) {
                fresh.putPart(fresh, phraseFrom[phrase], phraseTo[phrase]);
            }
            if (u != NONE) {
                fresh.put(u);
            }
            phraseFrom[k + 1] = from;
            phraseTo[k + 1] = fresh.size;
        }
    }

    /** Sorting by ROTATIONS, and the way back. */
    private static final class Sorter {
        private static final int END = -1;

        private final Told lastUnits = new Told(1, MOST_UNITS + 1);
        private final int[] turnedOn = new int[MOST_UNITS + 1];

        /** ROTATIONS stand as their SUFFIXES do, behind the one that END begins. */
        int arrange(Text text, Suffixes suffixes) {
            lastUnits.clear();
            addLast(text, text.size);
            for (int r = 0; r < text.size; r++) {
                addLast(text, suffixes.placeOf(r));
            }
            return text.size == 0 ? 0 : suffixes.rankOf(0) + 1;
        }

        private void addLast(Text text, int place) {
            lastUnits.add(text.hasPlace(place - 1) ? text.unit[place - 1] : END, 0, 0);
        }

        /** From the ROTATION that END begins on, each turned on by a UNIT has the TEXT's next one last. */
        void restore(Text fresh) {
            listTurned();
            int row = turnedOn[0];
            for (int k = 1; k < lastUnits.rows; k++) {
                row = turnedOn[row];
                fresh.put(lastUnits.answer(row, 0));
            }
        }

        /** Like UNITS stand in the same order when they are last as when they are first. */
        private void listTurned() {
            int[] column = lastUnits.cells;
            for (int row = 0; row < lastUnits.rows; row++) {
                int u = column[row];
                int ahead = 0;
                for (int other = 0; other < lastUnits.rows; other++) {
                    int v = column[other];
                    if (v < u || v == u && other < row) {
                        ahead++;
                    }
                }
                turnedOn[ahead] = row;
            }
        }
    }
}
