/** Boundary cases of promises 51 to 58: squeezing and sorting with ways back, counting, forgetting. */
public final class WaysBackBoundsTest extends Bounds {

    // ---- 51: squeeze

    static void promise51_noUnitsAreNoItems() {
        rich().due(0, "squeeze", 2, 0).refused(NONE, "squeezed", 0, 0).due(0, "squeeze", 2, 1)
            .refused(NONE, "squeezed", 0, 0);
    }

    static void promise51_oneUnitIsOneItem() {
        rich().due(1, "squeeze", 3, 0).due(1, "squeeze", 3, 1);
    }

    static void promise51_anotherWayIsBad() {
        rich().refusedFor(BAD, 1, new int[] {-1, 2, 3, MIN, MAX}, "squeeze", 0, 0);
    }

    static void promise51_240LikeUnits() {
        start().alike('a', 240).due(2, "squeeze", 0, 0).due(22, "squeeze", 0, 1);
    }

    static void promise51_240UnlikeUnits() {
        start().rising(1000, 240).due(240, "squeeze", 0, 0).due(1239, "squeezed", 239, 1).due(240, "squeeze", 0, 1)
            .due(1239, "squeezed", 239, 1);
    }

    static void promise51_noSuchTextIsBad() {
        rich().noSuchText(0, "squeeze", 0, 0).noSuchText(0, "squeeze", 0, 1);
    }

    // ---- 52: squeezed

    private static Run items(Run run, int[][] rows) {
        for (int k = 0; k < rows.length; k++) {
            for (int what = 0; what < 3; what++) {
                run.due(rows[k][what], "squeezed", k, what);
            }
        }
        return run.due(NONE, "squeezed", rows.length, 0);
    }

    private static void squeezed(String units, int way, int[][] rows) {
        items(start().text(units).due(rows.length, "squeeze", 0, way), rows);
    }

    static void promise52_aheadOfTheFirstSqueezeThereIsNone() {
        start().text("a").refused(NONE, "squeezed", 0, 0).refused(NONE, "squeezed", 0, 2);
    }

    static void promise52_aCopyHasTwoUnitsAtLeast() {
        squeezed("aba", 0, new int[][] {{0, 'a', 1}, {0, 'b', 1}, {0, 'a', 1}});
        squeezed("abab", 0, new int[][] {{0, 'a', 1}, {0, 'b', 1}, {1, 0, 2}});
        squeezed("aa", 0, new int[][] {{0, 'a', 1}, {0, 'a', 1}});
    }

    static void promise52_aCopyMayReachIntoItself() {
        squeezed("aaa", 0, new int[][] {{0, 'a', 1}, {1, 0, 2}});
        squeezed("ababa", 0, new int[][] {{0, 'a', 1}, {0, 'b', 1}, {1, 0, 3}});
        items(start().alike('z', 240).due(2, "squeeze", 0, 0), new int[][] {{0, 'z', 1}, {1, 0, 239}});
    }

    static void promise52_aCopyIsTheGreatest() {
        squeezed("abxabcabc", 0,
            new int[][] {{0, 'a', 1}, {0, 'b', 1}, {0, 'x', 1}, {1, 0, 2}, {0, 'c', 1}, {1, 3, 3}});
    }

    static void promise52_aCopyIsOfTheLeastPlace() {
        squeezed("abxabyab", 0,
            new int[][] {{0, 'a', 1}, {0, 'b', 1}, {0, 'x', 1}, {1, 0, 2}, {0, 'y', 1}, {1, 0, 2}});
    }

    static void promise52_unitsAtTheEdgesByWay0() {
        squeezed("\u0000\uFFFF", 0, new int[][] {{0, 0, 1}, {0, 65535, 1}});
    }

    static void promise52_phraseWithoutAUnitAtTheEnd() {
        squeezed("aa", 1, new int[][] {{0, 'a', 0}, {1, -1, 0}});
        squeezed("abab", 1, new int[][] {{0, 'a', 0}, {0, 'b', 0}, {1, 'b', 0}});
        squeezed("ababab", 1, new int[][] {{0, 'a', 0}, {0, 'b', 0}, {1, 'b', 0}, {3, -1, 0}});
    }

    static void promise52_phrase0AheadOfANewUnit() {
        squeezed("abc", 1, new int[][] {{0, 'a', 0}, {0, 'b', 0}, {0, 'c', 0}});
    }

    static void promise52_theGreatestPhrase() {
        squeezed("aaaaaa", 1, new int[][] {{0, 'a', 0}, {1, 'a', 0}, {2, 'a', 0}});
        squeezed("aabaab", 1, new int[][] {{0, 'a', 0}, {1, 'b', 0}, {1, 'a', 0}, {0, 'b', 0}});
    }

    static void promise52_unitsAtTheEdgesByWay1() {
        squeezed("\u0000\uFFFF\u0000", 1, new int[][] {{0, 0, 0}, {0, 65535, 0}, {1, -1, 0}});
    }

    static void promise52_behindTheLastThereIsNone() {
        rich().due(2, "squeezed", 3, 2).refused(NONE, "squeezed", 4, 0).refused(NONE, "squeezed", 4, 2)
            .refused(NONE, "squeezed", MAX, 0);
    }

    static void promise52_kBelow0IsNone() {
        rich().refusedFor(NONE, 0, BELOW_0, "squeezed", 0, 0).refusedFor(NONE, 0, BELOW_0, "squeezed", 0, 2);
    }

    static void promise52_anotherWhatIsBad() {
        rich().refusedFor(BAD, 1, NO_WHAT_OF_3, "squeezed", 0, 0).due(4, "squeeze", 0, 1)
            .refusedFor(BAD, 1, NO_WHAT_OF_3, "squeezed", 0, 0);
    }

    static void promise52_badComesAheadOfNone() {
        rich().refused(BAD, "squeezed", 4, 3).refused(BAD, "squeezed", -1, -1);
        start().refused(BAD, "squeezed", 0, 3);
    }

    static void promise52_aBadSqueezeLeavesTheLatest() {
        int[][] rows = {{0, 'a', 1}, {0, 'b', 1}, {0, 'a', 1}, {1, 0, 2}};
        items(rich().refused(BAD, "squeeze", 1, 2).refused(BAD, "squeeze", 4, 1).refused(BAD, "squeeze", 4, 0), rows);
    }

    static void promise52_whatWasSqueezedStaysAsTheTextChanges() {
        int[][] rows = {{0, 'a', 1}, {0, 'b', 1}, {0, 'a', 1}, {1, 0, 2}};
        items(rich().due(0, "remove", 0, 0, 5).due(1, "undo").due(1, "undo"), rows);
    }

    // ---- 53: expand

    static void promise53_noneWasSqueezed() {
        start().refused(NO, "expand").text("a").refused(NO, "expand").refused(BAD, "squeeze", 0, 2).refused(NO, "expand");
        found().due(3, "sort", 0).refused(NO, "expand").refused(BAD, "squeeze", 4, 0).refused(NO, "expand");
    }

    static void promise53_noItemsAreATextOfNoUnits() {
        rich().due(0, "squeeze", 2, 0).due(4, "expand").holds(4, "").due(0, "squeeze", 2, 1).due(5, "expand").holds(5, "");
    }

    static void promise53_ofTheLatestSqueezeThatWasNotBad() {
        rich().refused(BAD, "squeeze", 1, 2).due(4, "expand").holds(4, "abaab").due(2, "squeeze", 1, 1).due(5, "expand")
            .holds(5, "ab").due(6, "expand").holds(6, "ab");
    }

    static void promise53_whatWasSqueezedStaysAsTheTextChanges() {
        rich().due(0, "remove", 0, 0, 5).due(4, "expand").holds(4, "abaab").due(5, "expand").holds(5, "abaab");
    }

    static void promise53_copiesThatReachIntoThemselves() {
        start().alike('z', 240).due(2, "squeeze", 0, 0).due(1, "expand").due(0, "order", 0, 1, false);
    }

    static void promise53_aPhraseWithoutAUnitAtTheEnd() {
        start().text("ababab").due(4, "squeeze", 0, 1).due(1, "expand").holds(1, "ababab").text("aa")
            .due(2, "squeeze", 2, 1).due(3, "expand").holds(3, "aa");
    }

    static void promise53_240Units() {
        start().alike('z', 240).due(22, "squeeze", 0, 1).due(1, "expand").due(0, "order", 0, 1, false)
            .rising(1000, 240).due(240, "squeeze", 2, 0).due(3, "expand").due(0, "order", 2, 3, false)
            .due(240, "squeeze", 2, 1).due(4, "expand").due(0, "order", 2, 4, false);
    }

    static void promise53_unitsAtTheEdges() {
        start().text("\u0000\uFFFF\u0000\uFFFF").due(3, "squeeze", 0, 0).due(1, "expand").holds(1, "\u0000\uFFFF\u0000\uFFFF")
            .due(3, "squeeze", 0, 1).due(2, "expand").holds(2, "\u0000\uFFFF\u0000\uFFFF");
    }

    static void promise53_the40thTextIsExpanded() {
        rich().until(39).due(39, "expand").holds(39, "abaab");
    }

    static void promise53_the41stTextIsFull() {
        richAndFull().refused(FULL, "expand").due(1, "undo").due(39, "expand");
    }

    static void promise53_fullComesAheadOfNo() {
        found().due(3, "sort", 0).until(40).refused(FULL, "expand").due(1, "undo").refused(NO, "expand");
    }

    // ---- 54: sort

    static void promise54_noUnitsStandAt0() {
        rich().due(0, "sort", 2).due(-1, "sorted", 0);
    }

    static void promise54_oneUnitStandsAt1() {
        rich().due(1, "sort", 3).due('a', "sorted", 0).due(-1, "sorted", 1);
    }

    static void promise54_theFirstAndTheLastOfTheRotations() {
        start().rising(1000, 240).due(1, "sort", 0).due(1, "reversed", 0).due(240, "sort", 1).alike('a', 240)
            .due(240, "sort", 2);
    }

    static void promise54_theEndIsLessThanUnit0() {
        start().text("\u0000").due(1, "sort", 0).due(0, "sorted", 0).due(-1, "sorted", 1).text("\u0000\u0000")
            .due(2, "sort", 1);
    }

    static void promise54_noSuchTextIsBad() {
        rich().noSuchText(0, "sort", 0);
    }

    // ---- 55: sorted

    static void promise55_noneWasSorted() {
        start().text("a").refused(BAD, "sorted", 0).refused(BAD, "sorted", -1);
    }

    static void promise55_theFirstAndTheLastRotation() {
        rich().due('b', "sorted", 0).due('b', "sorted", 1).due('a', "sorted", 2).due(-1, "sorted", 3).due('a', "sorted", 4)
            .due('a', "sorted", 5);
    }

    static void promise55_behindTheLastIsBad() {
        rich().refused(BAD, "sorted", 6).refused(BAD, "sorted", 241).refused(BAD, "sorted", MAX).due(0, "sort", 2)
            .due(-1, "sorted", 0).refused(BAD, "sorted", 1);
    }

    static void promise55_kBelow0IsBad() {
        rich().refusedFor(BAD, 0, BELOW_0, "sorted", 0);
    }

    static void promise55_240UnitsHave241Rotations() {
        start().alike('a', 240).due(240, "sort", 0).due('a', "sorted", 239).due(-1, "sorted", 240).refused(BAD, "sorted", 241);
        start().rising(1000, 240).due(1, "sort", 0).due(1239, "sorted", 0).due(-1, "sorted", 1).due(1238, "sorted", 240);
    }

    static void promise55_aBadSortLeavesTheLatest() {
        rich().refused(BAD, "sort", 4).refused(BAD, "sort", -1).due(-1, "sorted", 3).due('a', "sorted", 5);
    }

    static void promise55_whatWasSortedStaysAsTheTextChanges() {
        rich().due(0, "remove", 0, 0, 5).due('b', "sorted", 0).due(-1, "sorted", 3).due('a', "sorted", 5)
            .due(1, "undo").due(1, "undo").due('b', "sorted", 1);
    }

    // ---- 56: unsort

    static void promise56_noneWasSorted() {
        start().refused(NO, "unsort").text("a").refused(NO, "unsort").refused(BAD, "sort", 1).refused(NO, "unsort");
        found().due(4, "squeeze", 0, 0).refused(NO, "unsort").refused(BAD, "sort", 4).refused(NO, "unsort");
    }

    static void promise56_aSortedTextOfNoUnits() {
        rich().due(0, "sort", 2).due(4, "unsort").holds(4, "");
    }

    static void promise56_aSortedTextOfOneUnit() {
        rich().due(1, "sort", 3).due(4, "unsort").holds(4, "a");
    }

    static void promise56_ofTheLatestSortThatWasNotBad() {
        rich().refused(BAD, "sort", 4).due(4, "unsort").holds(4, "abaab").due(1, "sort", 1).due(5, "unsort").holds(5, "ab");
    }

    static void promise56_whatWasSortedStaysAsTheTextChanges() {
        rich().due(0, "remove", 0, 0, 5).due(4, "unsort").holds(4, "abaab").due(5, "unsort").holds(5, "abaab");
    }

    static void promise56_240Units() {
        start().alike('a', 240).due(240, "sort", 0).due(1, "unsort").due(0, "order", 0, 1, false).rising(1000, 240)
            .due(1, "sort", 2).due(3, "unsort").due(0, "order", 2, 3, false).due(4, "reversed", 2).due(240, "sort", 4)
            .due(5, "unsort").due(0, "order", 4, 5, false);
    }

    static void promise56_unitsAtTheEdges() {
        start().text("\uFFFF\u0000\u0000\uFFFF\u7FFF\u8000").due(5, "sort", 0).due(1, "unsort")
            .holds(1, "\uFFFF\u0000\u0000\uFFFF\u7FFF\u8000");
    }

    static void promise56_the40thTextIsUnsorted() {
        rich().until(39).due(39, "unsort").holds(39, "abaab");
    }

    static void promise56_the41stTextIsFull() {
        richAndFull().refused(FULL, "unsort").due(1, "undo").due(39, "unsort");
    }

    static void promise56_fullComesAheadOfNo() {
        found().due(4, "squeeze", 0, 0).until(40).refused(FULL, "unsort").due(1, "undo").refused(NO, "unsort");
    }

    // ---- 57: count

    static void promise57_fromNoneTo40Texts() {
        start().due(0, "count", 0).until(40).due(40, "count", 0).due(FULL, "text").due(40, "count", 0).due(1, "undo")
            .due(39, "count", 0);
    }

    static void promise57_fromNoneTo16Patterns() {
        Run run = start().text("a").due(0, "count", 1);
        for (int q = 0; q < 16; q++) {
            run.due(q, "pattern", 0).due(q + 1, "count", 1);
        }
        run.due(FULL, "pattern", 0).due(16, "count", 1).due(16, "forget").due(0, "count", 1);
    }

    static void promise57_fromNoneTo20Changes() {
        Run run = start().due(0, "count", 2);
        for (int n = 1; n <= 22; n++) {
            run.due(n - 1, "text").due(Math.min(n, 20), "count", 2);
        }
        run.due(1, "undo").due(19, "count", 2);
    }

    static void promise57_fromNoneToAllUnits() {
        Run run = start().due(0, "count", 3).text("").due(0, "count", 3).due(1, "undo").alike('a', 240).due(240, "count", 3);
        for (int t = 1; t < 40; t++) {
            run.due(t, "copy", 0, 0, 240);
        }
        run.due(9600, "count", 3).due(1, "undo").due(9360, "count", 3).due(239, "remove", 0, 0, 1).due(9359, "count", 3);
    }

    static void promise57_unitsOfATextTakenBackDoNotCount() {
        rich().due(8, "count", 3).text("xyz").due(11, "count", 3).due(1, "undo").due(1, "undo").due(8, "count", 3);
    }

    static void promise57_anotherWhatIsBad() {
        rich().refusedFor(BAD, 0, new int[] {-1, 4, 5, MIN, MAX}, "count", 0);
    }

    // ---- 58: forget

    static void promise58_noneThereAre0() {
        start().due(0, "forget");
        rich().due(2, "forget").due(0, "forget");
    }

    static void promise58_all16Go() {
        Run run = start().text("a");
        for (int q = 0; q < 16; q++) {
            run.due(q, "pattern", 0);
        }
        run.due(16, "forget").due(0, "count", 1).due(0, "matches", 0).due(NO, "cover", 0).due(0, "pattern", 0)
            .due(1, "matches", 0);
    }

    static void promise58_newPatternsAreNumberedFrom0On() {
        rich().due(2, "forget").due(0, "pattern", 3).due(3, "matches", 0).due(0, "match", 0, 1).due(NO, "cover", 0);
    }

    static void promise58_whatCoverFoundStays() {
        rich().due(2, "forget").due(0, "word", 0).due(1, "word", 1).due(0, "word", 2).due(NONE, "word", 3);
    }

    static void promise58_whatMatchesFoundStays() {
        rich().due(2, "forget").due(0, "match", 0, 0).due(1, "match", 1, 1).due(3, "match", 4, 0).due(NONE, "match", 5, 0);
    }

    static void promise58_itIsNoChange() {
        rich().due(2, "forget").due(8, "count", 2).due(1, "undo").due(0, "count", 1).due(7, "count", 2);
    }

    public static void main(String[] args) throws IllegalAccessException {
        check(WaysBackBoundsTest.class, 51, 58);
    }
}
