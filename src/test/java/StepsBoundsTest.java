/** Boundary cases of promises 47 to 50: DISTANCE and its SCRIPT, the greatest SUBSEQUENCE and its pairs. */
public final class StepsBoundsTest extends Bounds {

    // ---- 47: distance

    static void promise47_noUnitsToNoUnits() {
        rich().due(0, "distance", 2, 2).refused(NONE, "script", 0, 0);
    }

    static void promise47_noUnitsToAText() {
        rich().due(5, "distance", 2, 0).alike('a', 240).due(240, "distance", 2, 4);
    }

    static void promise47_aTextToNoUnits() {
        rich().due(5, "distance", 0, 2).alike('a', 240).due(240, "distance", 4, 2);
    }

    static void promise47_likeTexts() {
        rich().due(0, "distance", 0, 0).due(4, "copy", 0, 0, 5).due(0, "distance", 0, 4).rising(1000, 240)
            .due(0, "distance", 5, 5);
    }

    static void promise47_oneStepAtTheEnds() {
        start().text("abc").text("xabc").text("abcx").text("xbc").text("abx").due(1, "distance", 0, 1)
            .due(1, "distance", 0, 2).due(1, "distance", 0, 3).due(1, "distance", 0, 4).due(1, "distance", 1, 0)
            .due(1, "distance", 2, 0);
    }

    static void promise47_textsOf240Unlike() {
        start().alike('a', 240).alike('b', 240).due(240, "distance", 0, 1).due(239, "script", 239, 1)
            .due(NONE, "script", 240, 0);
    }

    static void promise47_textsOf240MovedByOne() {
        start().rising(1000, 240).rising(1001, 240).due(2, "distance", 0, 1).due(1, "script", 0, 0).due(0, "script", 1, 0)
            .due(240, "script", 1, 1).due(1240, "script", 1, 2);
    }

    static void promise47_anEarlierPairLeavesNothing() {
        start().text("xyz").text("abc").text("a").text("b").due(3, "distance", 0, 1).due(1, "distance", 2, 3)
            .due(3, "distance", 1, 0).due(1, "distance", 3, 2).due(0, "distance", 2, 2);
    }

    static void promise47_whatWasTakenOutIsNotCompared() {
        start().text("abc").text("abc").due(2, "remove", 1, 2, 1).due(1, "distance", 0, 1).due(1, "script", 0, 0)
            .due(2, "script", 0, 1).due(1, "distance", 1, 0).due(0, "script", 0, 0).due('c', "script", 0, 2);
    }

    static void promise47_noSuchTextTIsBad() {
        rich().noSuchText(0, "distance", 0, 1);
    }

    static void promise47_noSuchTextSIsBad() {
        rich().noSuchText(1, "distance", 0, 1);
    }

    // ---- 48: script

    private static Run steps(Run run, int[][] rows) {
        for (int k = 0; k < rows.length; k++) {
            for (int what = 0; what < 3; what++) {
                run.due(rows[k][what], "script", k, what);
            }
        }
        return run.due(NONE, "script", rows.length, 0);
    }

    private static void script(String t, String s, int[][] rows) {
        steps(start().text(t).text(s).due(rows.length, "distance", 0, 1), rows);
    }

    static void promise48_aheadOfTheFirstDistanceThereIsNone() {
        start().text("a").text("b").refused(NONE, "script", 0, 0).refused(NONE, "script", 0, 2);
    }

    static void promise48_outHasNoUnitThatComes() {
        script("abc", "", new int[][] {{1, 0, -1}, {1, 1, -1}, {1, 2, -1}});
    }

    static void promise48_inBehindTheEndIsAtLength() {
        script("", "xy", new int[][] {{0, 0, 'x'}, {0, 0, 'y'}});
        script("ab", "abx", new int[][] {{0, 2, 'x'}});
    }

    static void promise48_changedTellsTheUnitThatComes() {
        script("a", "\u0000", new int[][] {{2, 0, 0}});
        script("a", "\uFFFF", new int[][] {{2, 0, 65535}});
    }

    static void promise48_likeUnitsAreNoSteps() {
        script("abc", "axc", new int[][] {{2, 1, 'x'}});
    }

    static void promise48_likeUnitsAreTakenAtOnce() {
        script("aab", "ab", new int[][] {{1, 1, -1}});
        script("ab", "aab", new int[][] {{0, 1, 'a'}});
    }

    static void promise48_changedComesAheadOfOut() {
        script("ab", "c", new int[][] {{2, 0, 'c'}, {1, 1, -1}});
    }

    static void promise48_changedComesAheadOfIn() {
        script("c", "ab", new int[][] {{2, 0, 'a'}, {0, 1, 'b'}});
    }

    static void promise48_outComesAheadOfIn() {
        script("abab", "baba", new int[][] {{1, 0, -1}, {0, 4, 'a'}});
        script("abcd", "cdab", new int[][] {{2, 0, 'c'}, {2, 1, 'd'}, {2, 2, 'a'}, {2, 3, 'b'}});
    }

    static void promise48_behindTheLastThereIsNone() {
        rich().due(4, "script", 2, 1).refused(NONE, "script", 3, 0).refused(NONE, "script", 3, 2)
            .refused(NONE, "script", MAX, 1);
    }

    static void promise48_kBelow0IsNone() {
        rich().refusedFor(NONE, 0, BELOW_0, "script", 0, 0).refusedFor(NONE, 0, BELOW_0, "script", 0, 2);
    }

    static void promise48_anotherWhatIsBad() {
        rich().refusedFor(BAD, 1, NO_WHAT_OF_3, "script", 0, 0);
    }

    static void promise48_badComesAheadOfNone() {
        rich().refused(BAD, "script", 3, 3).refused(BAD, "script", -1, -1);
        start().refused(BAD, "script", 0, 3);
    }

    static void promise48_aBadDistanceLeavesTheLatest() {
        steps(rich().refused(BAD, "distance", 0, 4).refused(BAD, "distance", -1, 0),
            new int[][] {{1, 2, -1}, {1, 3, -1}, {1, 4, -1}});
    }

    static void promise48_aDistanceOf0IsTheLatest() {
        rich().due(0, "distance", 0, 0).refused(NONE, "script", 0, 0);
    }

    static void promise48_whatWasFoundStaysAsTextsChange() {
        steps(rich().due(0, "remove", 0, 0, 5).due(1, "remove", 1, 0, 1).due(0, "subsequence", 2, 2),
            new int[][] {{1, 2, -1}, {1, 3, -1}, {1, 4, -1}});
    }

    // ---- 49: subsequence

    static void promise49_aTextOfNoUnitsHasNoPairs() {
        rich().due(0, "subsequence", 2, 0).due(0, "subsequence", 0, 2).due(0, "subsequence", 2, 2)
            .refused(NONE, "pair", 0, 0);
    }

    static void promise49_withoutLikeUnitsThereAreNone() {
        start().text("abc").text("xyz").due(0, "subsequence", 0, 1);
    }

    static void promise49_aTextWithItself() {
        rich().due(5, "subsequence", 0, 0).rising(1000, 240).due(240, "subsequence", 4, 4).due(239, "pair", 239, 0)
            .due(239, "pair", 239, 1).refused(NONE, "pair", 240, 0);
    }

    static void promise49_240LikeUnits() {
        start().alike('a', 240).alike('a', 239).due(239, "subsequence", 0, 1).due(238, "pair", 238, 0)
            .due(239, "subsequence", 1, 0);
    }

    static void promise49_pairsRiseInBoth() {
        start().text("ab").text("ba").due(1, "subsequence", 0, 1).rising(1000, 240).due(3, "reversed", 2)
            .due(1, "subsequence", 2, 3);
    }

    static void promise49_anEarlierPairLeavesNothing() {
        start().text("xyz").text("abc").text("ax").text("ba").due(3, "distance", 0, 1).due(1, "subsequence", 2, 3)
            .due(3, "subsequence", 0, 0).due(0, "subsequence", 0, 1).due(1, "subsequence", 2, 3);
        start().text("xxxx").text("yyyy").text("aya").text("xa").due(4, "distance", 0, 1).due(1, "subsequence", 2, 3)
            .due(0, "pair", 0, 0).due(1, "pair", 0, 1);
    }

    static void promise49_240UnitsWithoutALikeOne() {
        start().alike('a', 240).text("xyz").due(0, "subsequence", 0, 1).due(0, "subsequence", 1, 0);
    }

    static void promise49_whatWasTakenOutIsNotPaired() {
        start().text("abc").text("abc").due(2, "remove", 1, 2, 1).due(2, "subsequence", 0, 1).due(2, "subsequence", 1, 0);
    }

    static void promise49_noSuchTextTIsBad() {
        rich().noSuchText(0, "subsequence", 0, 1);
    }

    static void promise49_noSuchTextSIsBad() {
        rich().noSuchText(1, "subsequence", 0, 1);
    }

    // ---- 50: pair

    private static Run pairs(Run run, int[][] rows) {
        for (int k = 0; k < rows.length; k++) {
            run.due(rows[k][0], "pair", k, 0).due(rows[k][1], "pair", k, 1);
        }
        return run.due(NONE, "pair", rows.length, 0);
    }

    private static void greatest(String t, String s, int[][] rows) {
        pairs(start().text(t).text(s).due(rows.length, "subsequence", 0, 1), rows);
    }

    static void promise50_aheadOfTheFirstSubsequenceThereIsNone() {
        start().text("a").refused(NONE, "pair", 0, 0).refused(NONE, "pair", 0, 1);
    }

    static void promise50_theLeastPlaceInTheFirstText() {
        greatest("ab", "ba", new int[][] {{0, 1}});
        greatest("aaa", "a", new int[][] {{0, 0}});
        greatest("xab", "ab", new int[][] {{1, 0}, {2, 1}});
    }

    static void promise50_thenTheLeastPlaceInTheSecondText() {
        greatest("a", "xaa", new int[][] {{0, 1}});
        greatest("ab", "aabb", new int[][] {{0, 0}, {1, 2}});
    }

    static void promise50_thenTheNextPairs() {
        greatest("abba", "aba", new int[][] {{0, 0}, {1, 1}, {3, 2}});
        greatest("abcb", "acbb", new int[][] {{0, 0}, {1, 2}, {3, 3}});
        greatest("abcd", "acbd", new int[][] {{0, 0}, {1, 2}, {3, 3}});
    }

    static void promise50_aLeastPlaceDoesNotCostAPair() {
        greatest("cab", "abc", new int[][] {{1, 0}, {2, 1}});
    }

    static void promise50_behindTheLastThereIsNone() {
        rich().due(1, "pair", 1, 0).refused(NONE, "pair", 2, 0).refused(NONE, "pair", 2, 1).refused(NONE, "pair", MAX, 0);
    }

    static void promise50_kBelow0IsNone() {
        rich().refusedFor(NONE, 0, BELOW_0, "pair", 0, 0).refusedFor(NONE, 0, BELOW_0, "pair", 0, 1);
    }

    static void promise50_anotherWhatIsBad() {
        rich().refusedFor(BAD, 1, NO_WHAT_OF_2, "pair", 0, 0);
    }

    static void promise50_badComesAheadOfNone() {
        rich().refused(BAD, "pair", 2, 2).refused(BAD, "pair", -1, -1);
        start().refused(BAD, "pair", 0, 2);
    }

    static void promise50_aBadSubsequenceLeavesTheLatest() {
        pairs(rich().refused(BAD, "subsequence", 0, 4).refused(BAD, "subsequence", -1, 0), new int[][] {{0, 0}, {1, 1}});
    }

    static void promise50_aSubsequenceWithoutPairsIsTheLatest() {
        rich().due(0, "subsequence", 0, 2).refused(NONE, "pair", 0, 0);
    }

    static void promise50_whatWasFoundStaysAsTextsChange() {
        pairs(rich().due(0, "remove", 0, 0, 5).due(0, "distance", 2, 2).due(1, "undo").due(1, "undo"),
            new int[][] {{0, 0}, {1, 1}});
    }

    public static void main(String[] args) throws IllegalAccessException {
        check(StepsBoundsTest.class, 47, 50);
    }
}
