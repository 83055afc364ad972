/** Each promise of the document by ordinary inputs, its edges and wrong inputs; answers worked out by hand. */
public final class PromisesTest {
    private static final int NONE = -1, BAD = -2, FULL = -3, NO = -4;
    private static int wrong = 0;
    private static int promise = 0;
    private static int place = 0;

    /** Begins the due answers of a promise. */
    private static void promise(int number) {
        promise = number;
        place = 0;
    }

    private static void due(int want, int got) {
        place++;
        if (want != got) {
            wrong++;
            System.out.println("promise " + promise + ", answer " + place + ": " + got + ", due is " + want);
        }
    }

    private static void dueText(String want, UnitAtlas x, int t) {
        place++;
        StringBuilder got = new StringBuilder();
        for (int i = 0; i < x.length(t); i++) {
            got.append((char) x.at(t, i));
        }
        if (x.length(t) < 0 || !want.contentEquals(got)) {
            wrong++;
            System.out.println("promise " + promise + ", answer " + place + ": TEXT " + t + " is '" + got
                + "' (length " + x.length(t) + "), due is '" + want + "'");
        }
    }

    private static int add(UnitAtlas x, String s) {
        int t = x.text();
        for (char c : s.toCharArray()) {
            x.units(t, 1, c);
        }
        return t;
    }

    private static UnitAtlas atlas(String... texts) {
        UnitAtlas x = new UnitAtlas();
        for (String s : texts) {
            add(x, s);
        }
        return x;
    }

    private static UnitAtlas fullShelf(String first) {
        UnitAtlas x = atlas(first);
        while (x.count(0) < 40) {
            x.text();
        }
        return x;
    }

    private static final String FIB = "abaababaabaab";

    private static void making() {
        promise(1);
        UnitAtlas x = new UnitAtlas();
        for (int what = 0; what < 4; what++) {
            due(0, x.count(what));
        }
        due(NO, x.undo());
        due(BAD, x.length(0));

        promise(2);
        for (int t = 0; t < 40; t++) {
            due(t, x.text());
            due(0, x.length(t));
        }
        due(FULL, x.text());
        due(40, x.count(0));
        due(20, x.count(2));

        promise(3);
        x = atlas("");
        due(1, x.units(0, 1, 0xFFFF_FFFF_FFFF_0041L));
        due(3, x.units(0, 2, 0x0042_0043L));
        due(6, x.units(0, 3, 0x0001_0002_0003_0004L));
        due(10, x.units(0, 4, 0xFFFF_8000_0000_7FFFL));
        dueText("ABC\u0002\u0003\u0004\uFFFF\u8000\u0000\u7FFF", x, 0);
        due(BAD, x.units(0, 0, 1));
        due(BAD, x.units(0, 5, 1));
        due(BAD, x.units(0, -1, 1));
        due(BAD, x.units(1, 1, 1));
        due(BAD, x.units(-1, 1, 1));
        x = atlas("a".repeat(238));
        due(FULL, x.units(0, 3, 1));
        due(FULL, x.units(0, 4, 1));
        due(BAD, x.units(0, 5, 1));
        due(240, x.units(0, 2, 1));
        due(FULL, x.units(0, 1, 1));
        due(240, x.length(0));

        promise(4);
        x = atlas("");
        due(1, x.point(0, 0));
        due(2, x.point(0, 0xFFFF));
        due(4, x.point(0, 0x10000));
        due(6, x.point(0, 0x10FFFF));
        due(8, x.point(0, 0x1F600));
        due(9, x.point(0, 0xDFFF));
        dueText("\u0000\uFFFF\uD800\uDC00\uDBFF\uDFFF\uD83D\uDE00\uDFFF", x, 0);
        due(BAD, x.point(0, 0x110000));
        due(BAD, x.point(0, -1));
        due(BAD, x.point(1, 5));
        x = atlas("a".repeat(239));
        due(FULL, x.point(0, 0x10000));
        due(240, x.point(0, 0xD800));
        due(FULL, x.point(0, 0));
        x.undo();
        due(240, x.point(0, 0xFFFF));

        promise(5);
        x = atlas("abcd");
        due(1, x.copy(0, 1, 3));
        dueText("bc", x, 1);
        due(2, x.copy(0, 4, 4));
        dueText("", x, 2);
        due(3, x.copy(0, 0, 4));
        dueText("abcd", x, 3);
        due(BAD, x.copy(0, -1, 2));
        due(BAD, x.copy(0, 2, 1));
        due(BAD, x.copy(0, 0, 5));
        due(BAD, x.copy(0, 5, 5));
        due(BAD, x.copy(4, 0, 0));
        due(FULL, fullShelf("ab").copy(0, 0, 1));
        due(BAD, fullShelf("ab").copy(0, 0, 3));

        promise(6);
        x = atlas("ab", "xyz");
        due(4, x.append(0, 1, 1, 3));
        dueText("abyz", x, 0);
        due(8, x.append(0, 0, 0, 4));
        dueText("abyzabyz", x, 0);
        due(8, x.append(0, 1, 3, 3));
        dueText("xyz", x, 1);
        due(BAD, x.append(0, 1, 0, 4));
        due(BAD, x.append(0, 1, -1, 1));
        due(BAD, x.append(0, 1, 2, 1));
        due(BAD, x.append(2, 1, 0, 1));
        due(BAD, x.append(0, 2, 0, 0));
        x = atlas("a".repeat(121));
        due(FULL, x.append(0, 0, 0, 121));
        due(121, x.length(0));
        due(240, x.append(0, 0, 0, 119));

        promise(7);
        x = atlas("abc", "");
        due(2, x.reversed(0));
        dueText("cba", x, 2);
        due(3, x.reversed(1));
        dueText("", x, 3);
        due(BAD, x.reversed(4));
        due(FULL, fullShelf("ab").reversed(0));

        promise(8);
        x = atlas("bd");
        due(3, x.insert(0, 0, 'a'));
        due(4, x.insert(0, 2, 'c'));
        due(5, x.insert(0, 4, 0xFFFF));
        dueText("abcd\uFFFF", x, 0);
        due(BAD, x.insert(0, 6, 'e'));
        due(BAD, x.insert(0, -1, 'e'));
        due(BAD, x.insert(0, 0, 65536));
        due(BAD, x.insert(0, 0, -1));
        due(BAD, x.insert(1, 0, 1));
        x = atlas("a".repeat(239));
        due(240, x.insert(0, 239, 'b'));
        due('b', x.at(0, 239));
        due(FULL, x.insert(0, 0, 'b'));
        due(BAD, x.insert(0, 241, 'b'));

        promise(9);
        x = atlas("abcdef");
        due(4, x.remove(0, 1, 2));
        dueText("adef", x, 0);
        due(4, x.remove(0, 4, 0));
        due(3, x.remove(0, 3, 1));
        due(BAD, x.remove(0, 3, 1));
        due(BAD, x.remove(0, 4, 0));
        due(BAD, x.remove(0, 0, -1));
        due(BAD, x.remove(0, -1, 1));
        due(BAD, x.remove(0, 1, Integer.MAX_VALUE));
        due(BAD, x.remove(1, 0, 0));
        due(0, x.remove(0, 0, 3));
        dueText("", x, 0);
    }

    private static void undoing() {
        promise(10);
        UnitAtlas x = atlas("abc", "aab");
        x.pattern(0);
        int changes = x.count(2);
        due(1, x.undo());
        dueText("aa", x, 1);
        x.units(1, 1, 'b');
        x.remove(0, 0, 2);
        x.insert(0, 0, 'z');
        x.append(0, 0, 0, 2);
        x.point(0, 0x10000);
        dueText("zczc\uD800\uDC00", x, 0);
        for (String was : new String[] {"zczc", "zc", "c", "abc"}) {
            due(1, x.undo());
            dueText(was, x, 0);
        }
        due(changes, x.count(2));
        x.squeeze(0, 0);
        x.sort(0);
        due(2, x.copy(0, 0, 1));
        due(3, x.reversed(0));
        due(4, x.nthPart(0, 1));
        due(5, x.absent(0));
        due(6, x.expand());
        due(7, x.unsort());
        for (int t = 7; t >= 2; t--) {
            due(1, x.undo());
            due(t, x.count(0));
            due(BAD, x.length(t));
        }
        due(1, x.count(1));
        due(2, x.text());
        due(1, x.undo());

        x = atlas("");
        for (int n = 0; n < 30; n++) {
            x.units(0, 1, 'a' + n % 26);
        }
        due(20, x.count(2));
        due(BAD, x.units(0, 9, 0));
        due(20, x.count(2));
        for (int n = 0; n < 20; n++) {
            due(1, x.undo());
        }
        due(NO, x.undo());
        dueText("abcdefghij", x, 0);
        due(0, x.count(2));
        due(11, x.units(0, 1, 'q'));
        due(1, x.undo());
        due(NO, x.undo());

        x = atlas("ab");
        x.remove(0, 2, 0);
        x.append(0, 0, 1, 1);
        due(5, x.count(2));
        x.undo();
        x.undo();
        x.undo();
        dueText("a", x, 0);
    }

    private static void looking() {
        promise(11);
        UnitAtlas x = atlas("a\uFFFF\u0000", "");
        due('a', x.at(0, 0));
        due(65535, x.at(0, 1));
        due(0, x.at(0, 2));
        due(BAD, x.at(0, 3));
        due(BAD, x.at(0, -1));
        due(BAD, x.at(1, 0));
        due(BAD, x.at(2, 0));

        promise(12);
        due(3, x.length(0));
        due(0, x.length(1));
        due(BAD, x.length(2));
        due(BAD, x.length(-1));
        due(BAD, x.length(Integer.MIN_VALUE));

        promise(13);
        // two pairs with a lone low UNIT between, then a lone high one
        x = atlas("\uD800\uDC00\uDC00a\uDBFF\uDFFF\uD800", "\uD800\uD800\uDC00", "");
        due(5, x.points(0));
        due(2, x.points(1));
        due(0, x.points(2));
        due(BAD, x.points(3));

        promise(14);
        due(0x10000, x.pointAt(0, 0));
        due(0xDC00, x.pointAt(0, 1));
        due('a', x.pointAt(0, 2));
        due(0x10FFFF, x.pointAt(0, 3));
        due(0xD800, x.pointAt(0, 4));
        due(NONE, x.pointAt(0, 5));
        due(NONE, x.pointAt(0, -1));
        due(0xD800, x.pointAt(1, 0));
        due(NONE, x.pointAt(2, 0));
        due(BAD, x.pointAt(3, 0));
        due(BAD, x.pointAt(3, -1));

        promise(15);
        due(2, x.half(0, 0));
        due(6, x.half(0, 1));
        due(NONE, x.half(0, 2));
        due(NONE, x.half(0, -1));
        due(0, x.half(1, 0));
        due(NONE, x.half(1, 1));
        due(BAD, x.half(-1, 0));

        promise(16);
        x = atlas("ab", "abc", "b", "\uFFFF", "\uD800\uDC00", "a\uD800\uDC00", "a\uD800", "");
        due(-1, x.order(0, 1, false));
        due(1, x.order(1, 0, true));
        due(-1, x.order(1, 2, false));
        due(0, x.order(2, 2, true));
        due(1, x.order(3, 4, false));
        due(-1, x.order(3, 4, true));
        due(1, x.order(5, 6, false));
        due(1, x.order(5, 6, true));
        due(-1, x.order(7, 0, true));
        due(0, x.order(7, 7, false));
        due(BAD, x.order(0, 8, false));
        due(BAD, x.order(-1, 0, true));

        promise(17);
        x = atlas("abcab", "cabx");
        due(1, x.equalParts(0, 2, 1, 0, 3));
        due(0, x.equalParts(0, 0, 1, 0, 1));
        due(1, x.equalParts(0, 0, 0, 3, 2));
        due(1, x.equalParts(0, 5, 1, 4, 0));
        due(BAD, x.equalParts(0, 3, 1, 0, 3));
        due(BAD, x.equalParts(0, 0, 1, 2, 3));
        due(BAD, x.equalParts(0, 0, 1, 0, -1));
        due(BAD, x.equalParts(0, 6, 1, 0, 0));
        due(BAD, x.equalParts(0, -1, 1, 0, 1));
        due(BAD, x.equalParts(0, 1, 1, 1, Integer.MAX_VALUE));
        due(BAD, x.equalParts(2, 0, 1, 0, 0));
        due(BAD, x.equalParts(0, 0, 2, 0, 0));
    }

    private static void suffixes() {
        promise(18);
        UnitAtlas x = atlas("banana", "", "a\uFFFF\u0000\u0100");
        int[] order = {5, 3, 1, 0, 4, 2};
        for (int k = 0; k < 6; k++) {
            due(order[k], x.suffix(0, k));
        }
        due(NONE, x.suffix(0, 6));
        due(NONE, x.suffix(0, -1));
        due(NONE, x.suffix(1, 0));
        due(2, x.suffix(2, 0));
        due(0, x.suffix(2, 1));
        due(3, x.suffix(2, 2));
        due(1, x.suffix(2, 3));
        due(BAD, x.suffix(3, 0));
        x.units(0, 1, 'a');
        due(6, x.suffix(0, 0));
        x.undo();
        due(5, x.suffix(0, 0));

        promise(19);
        for (int k = 0; k < 6; k++) {
            due(k, x.rank(0, order[k]));
        }
        due(BAD, x.rank(0, 6));
        due(BAD, x.rank(0, -1));
        due(BAD, x.rank(1, 0));
        due(BAD, x.rank(3, 0));
        x = atlas("a".repeat(240));
        due(239, x.rank(0, 0));
        due(0, x.rank(0, 239));
        due(117, x.rank(0, 122));

        promise(20);
        x = atlas("banana");
        due(3, x.common(0, 1, 3));
        due(3, x.common(0, 3, 1));
        due(0, x.common(0, 0, 1));
        due(4, x.common(0, 2, 2));
        due(2, x.common(0, 2, 4));
        due(BAD, x.common(0, 6, 0));
        due(BAD, x.common(0, 0, -1));
        due(BAD, x.common(1, 0, 0));

        promise(21);
        x = atlas("aabaaab");
        int[] borders = {0, 1, 0, 1, 2, 2, 3};
        for (int i = 1; i <= 7; i++) {
            due(borders[i - 1], x.border(0, i));
        }
        due(BAD, x.border(0, 0));
        due(BAD, x.border(0, 8));
        due(BAD, x.border(1, 1));
        due(239, atlas("a".repeat(240)).border(0, 240));
    }

    private static void matchingOne() {
        promise(22);
        UnitAtlas x = atlas("aabaaa", "aa", "", "aabaaab");
        due(0, x.find(0, 1, 0));
        due(3, x.find(0, 1, 1));
        due(4, x.find(0, 1, 2));
        due(NONE, x.find(0, 1, 3));
        due(NONE, x.find(0, 1, -1));
        due(6, x.find(0, 2, 6));
        due(NONE, x.find(0, 2, 7));
        due(NONE, x.find(0, 3, 0));
        due(0, x.find(0, 0, 0));
        due(NONE, x.find(2, 1, 0));
        due(BAD, x.find(0, 4, 0));
        due(BAD, x.find(4, 0, 0));

        promise(23);
        due(3, x.countOf(0, 1));
        due(7, x.countOf(0, 2));
        due(1, x.countOf(2, 2));
        due(0, x.countOf(1, 0));
        due(BAD, x.countOf(0, 4));
        due(BAD, x.countOf(-1, 0));

        promise(24);
        x = atlas("abc?bd", "?b", "ac", "", "xyz");
        due(0, x.wild(0, 1, '?', 0));
        due(2, x.wild(0, 1, '?', 1));
        due(3, x.wild(0, 1, '?', 2));
        due(NONE, x.wild(0, 1, '?', 3));
        due(NONE, x.wild(0, 1, '?', -1));
        due(3, x.wild(0, 1, 'q', 0));
        due(NONE, x.wild(0, 2, '?', 0));
        due(6, x.wild(0, 3, 'z', 6));
        due(0, x.wild(4, 4, 0, 0));
        due(BAD, x.wild(0, 1, -1, 0));
        due(BAD, x.wild(0, 1, 65536, 0));
        due(BAD, x.wild(5, 1, 1, 0));
        due(BAD, x.wild(0, 5, 1, 0));

        promise(25);
        x = atlas("abcabd", "abx", "", "zzzz");
        due(NONE, x.near(0, 1, 0, 0));
        due(0, x.near(0, 1, 1, 0));
        due(3, x.near(0, 1, 1, 1));
        due(NONE, x.near(0, 1, 1, 2));
        due(1, x.near(0, 1, 3, 1));
        due(NONE, x.near(0, 3, 3, 0));
        due(6, x.near(0, 2, 0, 6));
        due(NONE, x.near(0, 1, 3, -1));
        due(BAD, x.near(0, 1, 4, 0));
        due(BAD, x.near(0, 1, -1, 0));
        due(BAD, x.near(4, 1, 0, 0));
        due(BAD, x.near(0, 4, 0, 0));
    }

    private static void matchingMany() {
        promise(26);
        UnitAtlas x = atlas("ab", "", "c".repeat(40), "c".repeat(41));
        due(BAD, x.pattern(1));
        due(BAD, x.pattern(3));
        due(BAD, x.pattern(4));
        due(0, x.pattern(2));
        for (int q = 1; q < 16; q++) {
            due(q, x.pattern(0));
        }
        due(FULL, x.pattern(0));
        due(BAD, x.pattern(1));
        due(16, x.count(1));
        x.units(0, 1, 'z');
        due(15, x.matches(add(x, "ab")));

        promise(27);
        x = atlas("aab", "a", "ab", "aab", "");
        due(0, x.matches(0));
        x.pattern(1);
        x.pattern(2);
        x.pattern(1);
        x.pattern(3);
        due(6, x.matches(0));
        due(BAD, x.matches(5));

        promise(28);
        int[][] rows = {{0, 0}, {0, 2}, {0, 3}, {1, 0}, {1, 1}, {1, 2}};
        for (int k = 0; k < 6; k++) {
            due(rows[k][0], x.match(k, 0));
            due(rows[k][1], x.match(k, 1));
        }
        due(NONE, x.match(6, 0));
        due(NONE, x.match(-1, 1));
        due(BAD, x.match(0, 2));
        due(BAD, x.match(9, -1));
        x.remove(0, 0, 3);
        x.forget();
        due(3, x.match(2, 1));
        due(0, x.matches(4));
        due(NONE, x.match(0, 0));
        due(NONE, new UnitAtlas().match(0, 0));
        x = atlas("a".repeat(240), "a");
        for (int q = 0; q < 16; q++) {
            x.pattern(1);
        }
        due(3840, x.matches(0));
        due(239, x.match(3839, 0));
        due(15, x.match(3839, 1));

        promise(29);
        x = atlas("xabyab", "zabcxabab", "", "qq", "cdab", "abcd");
        due(3, x.longestCommon(0, 1, 0));
        due(0, x.longestCommon(0, 1, 1));
        due(4, x.longestCommon(0, 1, 2));
        due(2, x.longestCommon(4, 5, 0));
        due(0, x.longestCommon(4, 5, 1));
        due(2, x.longestCommon(4, 5, 2));
        for (int what = 0; what < 3; what++) {
            due(0, x.longestCommon(0, 2, what));
            due(0, x.longestCommon(3, 0, what));
        }
        due(6, x.longestCommon(0, 0, 0));
        due(BAD, x.longestCommon(0, 1, 3));
        due(BAD, x.longestCommon(0, 1, -1));
        due(BAD, x.longestCommon(6, 1, 0));
        due(BAD, x.longestCommon(0, 6, 0));

        promise(30);
        x = atlas("zzcd", "xabcd", "qcdab", "ab", "");
        due(3 + 2, x.ofMany(1, 0));
        due(2, x.ofMany(1, 1));
        due(0, x.ofMany(1, 2));
        due(2, x.ofMany(3, 0));
        due(1, x.ofMany(3, 1));
        due(1, x.ofMany(3, 2));
        due(0, x.ofMany(5, 0));
        due(0, x.ofMany(5, 1));
        due(0, x.ofMany(5, 2));
        due(NO, x.ofMany(6, 0));
        due(BAD, x.ofMany(6, 3));
        due(BAD, x.ofMany(0, 0));
        due(BAD, x.ofMany(1, -1));
        due(NO, new UnitAtlas().ofMany(1, 0));
        x.remove(1, 0, 5);
        due(2, x.ofMany(2, 0));
        due(2, x.ofMany(2, 1));
        due(3, x.ofMany(2, 2));
        x.undo();
        due(1, x.ofMany(3, 1));
        x = atlas("a".repeat(240));
        while (x.copy(0, 0, 240) >= 0) {
            continue;
        }
        due(240, x.ofMany(40, 0));
        due(0, x.ofMany(40, 1));
        due(0, x.ofMany(40, 2));
    }

    private static void periods() {
        promise(31);
        UnitAtlas x = atlas("abaabaab", "abcd");
        due(3, x.period(0, 0, 8));
        due(2, x.period(0, 0, 3));
        due(1, x.period(0, 2, 4));
        due(1, x.period(0, 7, 8));
        due(4, x.period(1, 0, 4));
        due(BAD, x.period(0, 3, 3));
        due(BAD, x.period(0, 4, 3));
        due(BAD, x.period(0, -1, 3));
        due(BAD, x.period(0, 0, 9));
        due(BAD, x.period(2, 0, 1));

        promise(32);
        x = atlas("abab", "ababa", "", "a", "aaaa", "abcabc");
        int[] roots = {2, 5, 0, 1, 1, 3};
        for (int t = 0; t < 6; t++) {
            due(roots[t], x.root(t));
        }
        due(BAD, x.root(6));

        promise(33);
        x = atlas("aaaa", "abab", "", "abc", "aabaab", "a".repeat(240));
        int[] squares = {4, 1, 0, 0, 3, 14400};
        for (int t = 0; t < 6; t++) {
            due(squares[t], x.squares(t));
        }
        due(BAD, x.squares(6));

        promise(34);
        x = atlas("aaaa", "abab", "", "aabaab", FIB, "a".repeat(240));
        int[] runs = {1, 1, 0, 3, 7, 1};
        for (int t = 0; t < 6; t++) {
            due(runs[t], x.runs(t));
        }
        due(BAD, x.runs(6));

        promise(35);
        due(0, x.run(0, 0));
        due(240, x.run(0, 1));
        due(1, x.run(0, 2));
        due(3, x.runs(3));
        due(BAD, x.runs(6));
        int[][] rows = {{0, 2, 1}, {0, 6, 3}, {3, 5, 1}};
        x.remove(3, 0, 6);
        for (int k = 0; k < 3; k++) {
            for (int what = 0; what < 3; what++) {
                due(rows[k][what], x.run(k, what));
            }
        }
        due(NONE, x.run(3, 0));
        due(NONE, x.run(-1, 2));
        due(BAD, x.run(0, 3));
        due(BAD, x.run(5, -1));
        due(NONE, new UnitAtlas().run(0, 0));
    }

    private static void mirrors() {
        promise(36);
        UnitAtlas x = atlas("abba", "", "a");
        int[] sizes = {1, 0, 1, 4, 1, 0, 1};
        for (int c = 0; c < 7; c++) {
            due(sizes[c], x.palindrome(0, c));
        }
        due(BAD, x.palindrome(0, 7));
        due(BAD, x.palindrome(0, -1));
        due(BAD, x.palindrome(1, 0));
        due(1, x.palindrome(2, 0));
        due(BAD, x.palindrome(2, 1));
        due(BAD, x.palindrome(3, 0));

        promise(37);
        x = atlas("abbac", "", "abc", "abacdc", "a".repeat(240), "aabbaab");
        int[] least = {2, 0, 3, 2, 1, 2};
        for (int t = 0; t < 6; t++) {
            due(least[t], x.palindromes(t));
        }
        due(BAD, x.palindromes(6));

        promise(38);
        x = atlas("cab", "", "abab", "bbab", "a".repeat(240));
        int[] turns = {1, NONE, 0, 2, 0};
        for (int t = 0; t < 5; t++) {
            due(turns[t], x.leastRotation(t));
        }
        due(BAD, x.leastRotation(5));

        promise(39);
        x = atlas("banana", "abc", "cba", "", "aaa");
        int[] starts = {0, 1, 3, 5, NONE};
        for (int k = 0; k < 5; k++) {
            due(starts[k], x.lyndon(0, k));
        }
        due(NONE, x.lyndon(0, -1));
        due(0, x.lyndon(1, 0));
        due(NONE, x.lyndon(1, 1));
        due(2, x.lyndon(2, 2));
        due(NONE, x.lyndon(3, 0));
        due(2, x.lyndon(4, 2));
        due(BAD, x.lyndon(5, 0));
        due(BAD, x.lyndon(5, -1));
    }

    private static void parts() {
        promise(40);
        UnitAtlas x = atlas("banana", "", "aaa", "abc", "a".repeat(240));
        int[] many = {15, 0, 3, 6, 240};
        for (int t = 0; t < 5; t++) {
            due(many[t], x.parts(t));
        }
        due(BAD, x.parts(5));

        promise(41);
        x = atlas("aba", "");
        String[] parts = {"a", "ab", "aba", "b", "ba"};
        for (int k = 0; k < 5; k++) {
            due(2 + k, x.nthPart(0, k));
            dueText(parts[k], x, 2 + k);
        }
        due(NO, x.nthPart(0, 5));
        due(NO, x.nthPart(0, -1));
        due(NO, x.nthPart(0, Integer.MAX_VALUE));
        due(NO, x.nthPart(1, 0));
        due(BAD, x.nthPart(9, 0));
        x = fullShelf("ab");
        due(FULL, x.nthPart(0, 0));
        due(FULL, x.nthPart(0, 99));
        due(FULL, x.nthPart(0, -1));
        due(BAD, x.nthPart(40, 0));

        promise(42);
        x = atlas("banana", "a", "aaa", "");
        int[] alone = {1, 4, 3, NONE, NONE, NONE};
        for (int i = 0; i < 6; i++) {
            due(alone[i], x.unique(0, i));
        }
        due(1, x.unique(1, 0));
        due(3, x.unique(2, 0));
        due(NONE, x.unique(2, 1));
        due(BAD, x.unique(0, 6));
        due(BAD, x.unique(0, -1));
        due(BAD, x.unique(3, 0));
        due(BAD, x.unique(4, 0));

        promise(43);
        x = atlas("banana", "abc", "aaa", "", "abab");
        int[] least = {2, 3, 1, 0, 2 - 1};
        for (int t = 0; t < 5; t++) {
            due(least[t], x.leastUnique(t));
        }
        due(BAD, x.leastUnique(5));

        promise(44);
        x = atlas("aab", "", "aabbab", "a", "a".repeat(240), "ba");
        due(6, x.absent(0));
        dueText("ba", x, 6);
        due(7, x.absent(2));
        dueText("aaa", x, 7);
        due(8, x.absent(3));
        dueText("aa", x, 8);
        due(9, x.absent(5));
        dueText("aa", x, 9);
        due(NO, x.absent(1));
        due(FULL, x.absent(4));
        due(BAD, x.absent(10));
        due(10, x.count(0));
        x.remove(4, 0, 1);
        due(10, x.absent(4));
        dueText("a".repeat(240), x, 10);
        due(FULL, fullShelf("").absent(0));
        due(FULL, fullShelf("a").absent(0));
        due(BAD, fullShelf("a").absent(40));
        StringBuilder unlike = new StringBuilder();
        for (int u = 240; u > 0; u--) {
            unlike.append((char) (u * 273));
        }
        x = atlas(unlike.toString());
        due(1, x.absent(0));
        dueText("\u0111\u0111", x, 1);
    }

    private static void covers() {
        promise(45);
        UnitAtlas x = atlas("aaab", "a", "aa", "ab", "b", "", "abx");
        due(0, x.cover(5));
        due(NO, x.cover(0));
        x.pattern(1);
        due(NO, x.cover(0));
        x.pattern(4);
        due(4, x.cover(0));
        x.pattern(3);
        due(3, x.cover(0));
        x.pattern(2);
        due(2, x.cover(0));
        due(NO, x.cover(6));
        due(BAD, x.cover(7));

        promise(46);
        // PATTERNS: a, b, ab, aa
        due(3, x.word(0));
        due(2, x.word(1));
        due(NONE, x.word(2));
        due(NONE, x.word(-1));
        x.forget();
        due(3, x.word(0));
        due(NO, x.cover(0));
        due(2, x.word(1));
        due(0, x.cover(5));
        due(NONE, x.word(0));
        due(NONE, new UnitAtlas().word(0));
        x = atlas("aaa", "aa", "a");
        x.pattern(1);
        x.pattern(2);
        x.pattern(2);
        x.pattern(1);
        due(2, x.cover(0));
        due(0, x.word(0));
        due(1, x.word(1));
        x = atlas("a".repeat(240), "a");
        x.pattern(1);
        due(240, x.cover(0));
        due(0, x.word(239));
        due(NONE, x.word(240));
    }

    private static void leastChanges() {
        promise(47);
        UnitAtlas x = atlas("kitten", "sitting", "", "abc", "a".repeat(240), "b".repeat(240));
        due(3, x.distance(0, 1));
        due(3, x.distance(1, 0));
        due(0, x.distance(3, 3));
        due(3, x.distance(2, 3));
        due(3, x.distance(3, 2));
        due(0, x.distance(2, 2));
        due(240, x.distance(4, 5));
        due(2, x.script(239, 0));
        due(239, x.script(239, 1));
        due('b', x.script(239, 2));
        due(240, x.distance(2, 5));
        due(0, x.script(239, 0));
        due(0, x.script(239, 1));
        due(BAD, x.distance(6, 0));
        due(BAD, x.distance(0, 6));

        promise(48);
        due(3, x.distance(0, 1));
        due(BAD, x.distance(0, 9));
        x.remove(1, 0, 7);
        int[][] steps = {{2, 0, 's'}, {2, 4, 'i'}, {0, 6, 'g'}};
        for (int k = 0; k < 3; k++) {
            for (int what = 0; what < 3; what++) {
                due(steps[k][what], x.script(k, what));
            }
        }
        due(NONE, x.script(3, 0));
        due(NONE, x.script(-1, 0));
        due(BAD, x.script(0, 3));
        due(BAD, x.script(9, -1));
        due(3, x.distance(3, 2));
        due(1, x.script(2, 0));
        due(2, x.script(2, 1));
        due(-1, x.script(2, 2));
        due(NONE, new UnitAtlas().script(0, 0));
        // CHANGED is taken ahead of OUT, OUT ahead of IN, where the rest is as short
        x = atlas("ab", "ba", "abc", "cab");
        due(2, x.distance(0, 1));
        due(2, x.script(0, 0));
        due(2, x.script(1, 0));
        due(2, x.distance(2, 3));
        due(0, x.script(0, 0));
        due('c', x.script(0, 2));
        due(1, x.script(1, 0));
        due(2, x.script(1, 1));

        promise(49);
        x = atlas("abcbdab", "bdcaba", "", "xyz");
        due(4, x.subsequence(0, 1));
        due(0, x.subsequence(0, 2));
        due(0, x.subsequence(0, 3));
        due(7, x.subsequence(0, 0));
        due(BAD, x.subsequence(4, 0));
        due(BAD, x.subsequence(0, 4));

        promise(50);
        due(4, x.subsequence(0, 1));
        due(BAD, x.subsequence(0, 9));
        x.remove(0, 0, 7);
        int[][] pairs = {{1, 0}, {2, 2}, {3, 4}, {5, 5}};
        for (int k = 0; k < 4; k++) {
            due(pairs[k][0], x.pair(k, 0));
            due(pairs[k][1], x.pair(k, 1));
        }
        due(NONE, x.pair(4, 0));
        due(NONE, x.pair(-1, 1));
        due(BAD, x.pair(0, 2));
        due(BAD, x.pair(0, -1));
        due(NONE, new UnitAtlas().pair(0, 0));
    }

    private static void squeezing() {
        promise(51);
        UnitAtlas x = atlas("ababab", "", "aaaaa", "abc");
        due(3, x.squeeze(0, 0));
        due(0, x.squeeze(1, 0));
        due(2, x.squeeze(2, 0));
        due(3, x.squeeze(3, 0));
        due(4, x.squeeze(0, 1));
        due(0, x.squeeze(1, 1));
        due(3, x.squeeze(2, 1));
        due(BAD, x.squeeze(0, 2));
        due(BAD, x.squeeze(0, -1));
        due(BAD, x.squeeze(4, 0));

        promise(52);
        int[][] copies = {{0, 'a', 1}, {0, 'b', 1}, {1, 0, 4}};
        int[][] phrases = {{0, 'a', 0}, {0, 'b', 0}, {1, 'b', 0}, {3, -1, 0}};
        for (int way = 0; way < 2; way++) {
            int[][] items = way == 0 ? copies : phrases;
            due(items.length, x.squeeze(0, way));
            due(BAD, x.squeeze(0, 2));
            for (int k = 0; k < items.length; k++) {
                for (int what = 0; what < 3; what++) {
                    due(items[k][what], x.squeezed(k, what));
                }
            }
            due(NONE, x.squeezed(items.length, 0));
            due(NONE, x.squeezed(-1, 0));
            due(BAD, x.squeezed(0, 3));
            due(BAD, x.squeezed(0, -1));
        }
        due(NONE, new UnitAtlas().squeezed(0, 0));
        due(BAD, new UnitAtlas().squeezed(0, 3));

        promise(53);
        due(4, x.expand());
        dueText("ababab", x, 4);
        x.squeeze(0, 0);
        x.remove(0, 0, 6);
        due(5, x.expand());
        dueText("ababab", x, 5);
        due(6, x.expand());
        due(NO, new UnitAtlas().expand());
        x = fullShelf("ab");
        due(FULL, x.expand());
        x.squeeze(0, 1);
        due(FULL, x.expand());
        x.undo();
        due(39, x.expand());
        dueText("ab", x, 39);
        x = atlas("a".repeat(240));
        x.squeeze(0, 0);
        due(1, x.expand());
        x.squeeze(0, 1);
        due(2, x.expand());
        due(0, x.order(0, 1, false));
        due(0, x.order(0, 2, false));
    }

    private static void sorting() {
        promise(54);
        UnitAtlas x = atlas("banana", "", "abc", "cba");
        due(4, x.sort(0));
        due(0, x.sort(1));
        due(1, x.sort(2));
        due(3, x.sort(3));
        due(BAD, x.sort(4));

        promise(55);
        due(BAD, new UnitAtlas().sorted(0));
        due(4, x.sort(0));
        due(BAD, x.sort(4));
        int[] lasts = {'a', 'n', 'n', 'b', -1, 'a', 'a'};
        for (int k = 0; k < 7; k++) {
            due(lasts[k], x.sorted(k));
        }
        due(BAD, x.sorted(7));
        due(BAD, x.sorted(-1));

        promise(56);
        due(NO, new UnitAtlas().unsort());
        x.remove(0, 0, 6);
        due(4, x.unsort());
        dueText("banana", x, 4);
        x.sort(1);
        due(5, x.unsort());
        dueText("", x, 5);
        x = fullShelf("\uFFFF\u0000\uFFFF");
        due(FULL, x.unsort());
        x.sort(0);
        due(FULL, x.unsort());
        x.undo();
        due(39, x.unsort());
        dueText("\uFFFF\u0000\uFFFF", x, 39);
    }

    private static void counting() {
        promise(57);
        UnitAtlas x = atlas("abc", "de");
        x.pattern(0);
        due(2, x.count(0));
        due(1, x.count(1));
        due(7, x.count(2));
        due(5, x.count(3));
        due(BAD, x.count(4));
        due(BAD, x.count(-1));

        promise(58);
        due(1, x.forget());
        due(0, x.count(1));
        due(0, x.forget());
        due(7, x.count(2));
        due(0, x.pattern(1));
        due(1, x.matches(1));
    }

    /** TEXTS of 240 UNITS: all alike, all unlike from 1000 on, those from the end on. */
    private static void fullTexts() {
        String unlike = "";
        for (int u = 0; u < 240; u++) {
            unlike += (char) (1000 + u);
        }
        UnitAtlas x = atlas("a".repeat(240), unlike, "b" + "a".repeat(239));
        x.reversed(1);
        dueText(new StringBuilder(unlike).reverse().toString(), x, 3);
        promise(13);
        due(240, x.points(1));
        promise(14);
        due(1239, x.pointAt(1, 239));
        due(NONE, x.pointAt(1, 240));
        promise(15);
        due(NONE, x.half(1, 0));
        promise(16);
        due(0, x.order(1, 1, false));
        due(0, x.order(1, 1, true));
        promise(17);
        due(1, x.equalParts(1, 0, 1, 0, 240));
        promise(18);
        due(239, x.suffix(1, 239));
        due(0, x.suffix(3, 239));
        promise(19);
        due(239, x.rank(1, 239));
        promise(20);
        due(240, x.common(0, 0, 0));
        due(1, x.common(0, 0, 239));
        promise(21);
        due(0, x.border(1, 240));
        promise(22);
        due(0, x.find(0, 0, 0));
        due(NONE, x.find(0, 0, 1));
        promise(23);
        due(1, x.countOf(1, 1));
        promise(24);
        due(0, x.wild(0, 2, 'b', 0));
        promise(25);
        due(0, x.near(0, 2, 1, 0));
        due(NONE, x.near(0, 1, 3, 0));
        promise(29);
        due(240, x.longestCommon(1, 1, 0));
        due(239, x.longestCommon(0, 2, 0));
        due(1, x.longestCommon(0, 2, 2));
        due(1, x.longestCommon(1, 3, 0));
        due(239, x.longestCommon(1, 3, 2));
        promise(30);
        due(239, x.ofMany(2, 0));
        due(0, x.ofMany(2, 1));
        due(0, x.ofMany(1, 1));
        due(0, x.ofMany(4, 0));
        promise(31);
        due(240, x.period(1, 0, 240));
        promise(32);
        due(240, x.root(1));
        promise(33);
        due(0, x.squares(1));
        promise(34);
        due(0, x.runs(1));
        due(1, x.runs(2));
        promise(36);
        due(240, x.palindrome(0, 239));
        due(1, x.palindrome(0, 478));
        promise(37);
        due(240, x.palindromes(1));
        due(2, x.palindromes(2));
        promise(38);
        due(1, x.leastRotation(2));
        due(239, x.leastRotation(3));
        promise(39);
        due(239, x.lyndon(3, 239));
        due(NONE, x.lyndon(3, 240));
        promise(40);
        due(28920, x.parts(1));
        promise(41);
        due(4, x.nthPart(1, 239));
        dueText(unlike, x, 4);
        due(5, x.nthPart(1, 28919));
        dueText("" + (char) 1239, x, 5);
        due(NO, x.nthPart(1, 28920));
        promise(42);
        due(1, x.unique(1, 239));
        promise(43);
        due(240, x.leastUnique(1));
        promise(47);
        due(240, x.distance(1, 0));
        due(1, x.distance(0, 2));
        promise(49);
        due(0, x.subsequence(0, 1));
        due(1, x.subsequence(1, 3));
        due(239, x.pair(0, 1));
        due(240, x.subsequence(1, 1));
        promise(50);
        due(239, x.pair(239, 1));
        for (int way = 0; way < 2; way++) {
            promise(51);
            due(240, x.squeeze(1, way));
            promise(53);
            due(6 + way, x.expand());
            dueText(unlike, x, 6 + way);
        }
        promise(54);
        due(240, x.sort(3));
        due(240, x.sort(0));
        promise(55);
        due(-1, x.sorted(240));
        promise(56);
        due(8, x.unsort());
        dueText("a".repeat(240), x, 8);
        x.sort(1);
        due(9, x.unsort());
        dueText(unlike, x, 9);
    }

    /** UNITS that were taken out leave nothing behind that could be looked at. */
    private static void takenOut() {
        UnitAtlas x = atlas("a\uD800\uDC00", "aaaa", "aaaaa", "ab");
        x.remove(0, 2, 1);
        x.remove(1, 2, 2);
        x.remove(2, 3, 2);
        promise(13);
        due(2, x.points(0));
        promise(14);
        due(0xD800, x.pointAt(0, 1));
        due(NONE, x.pointAt(0, 2));
        promise(15);
        due(1, x.half(0, 0));
        promise(16);
        due(-1, x.order(1, 2, false));
        due(-1, x.order(1, 2, true));
        due(1, x.order(2, 1, false));
        promise(20);
        due(1, x.common(1, 0, 1));
        promise(23);
        due(0, x.countOf(1, 2));
        promise(29);
        due(2, x.longestCommon(1, 2, 0));
        promise(36);
        due(1, x.palindrome(2, 0));
        due(2, x.palindrome(2, 3));
        promise(47);
        due(1, x.distance(1, 2));
        due(0, x.script(0, 0));
        due(2, x.script(0, 1));
        promise(49);
        due(2, x.subsequence(2, 1));
        due(1, x.subsequence(1, 3));
        promise(57);
        due(2 + 2 + 3 + 2, x.count(3));
        due(0, x.pattern(2));
        due(1, x.pattern(3));
        x.forget();
        promise(58);
        due(NO, x.cover(2));
        due(0, x.matches(2));
        x.copy(2, 0, 3);
        x.undo();
        promise(57);
        due(9, x.count(3));
        promise(30);
        due(1, x.ofMany(4, 0));
        due(NO, x.ofMany(5, 0));
    }

    public static void main(String[] args) {
        fullTexts();
        takenOut();
        making();
        undoing();
        looking();
        suffixes();
        matchingOne();
        matchingMany();
        periods();
        mirrors();
        parts();
        covers();
        leastChanges();
        squeezing();
        sorting();
        counting();
        System.out.println(wrong == 0 ? "all promises hold" : wrong + " answers are not as due");
        if (wrong != 0) {
            System.exit(1);
        }
    }
}
