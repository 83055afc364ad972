/** Boundary cases of promises 31 to 39: periods, roots, squares, runs, palindromes, rotations, LYNDON texts. */
public final class FormsBoundsTest extends Bounds {

    // ---- 31: period

    static void promise31_onePartOfOneUnit() {
        rich().due(1, "period", 0, 0, 1).due(1, "period", 0, 4, 5).due(1, "period", 3, 0, 1);
    }

    static void promise31_aPartOfNoUnitsIsBad() {
        rich().refused(BAD, "period", 0, 0, 0).refused(BAD, "period", 0, 3, 3).refused(BAD, "period", 0, 5, 5)
            .refused(BAD, "period", 2, 0, 0);
    }

    static void promise31_theLengthIsOne() {
        rich().due(2, "period", 0, 0, 2).rising(1000, 240).due(240, "period", 4, 0, 240);
    }

    static void promise31_theWholeText() {
        rich().due(3, "period", 0, 0, 5).alike('a', 240).due(1, "period", 4, 0, 240);
    }

    static void promise31_whatIsAroundThePartDoesNotCount() {
        rich().due(1, "period", 0, 2, 4).due(3, "period", 0, 1, 5).due(2, "period", 0, 0, 3);
    }

    static void promise31_fromBelow0IsBad() {
        rich().refusedFor(BAD, 1, BELOW_0, "period", 0, 0, 3);
    }

    static void promise31_toBehindTheEndIsBad() {
        rich().refusedFor(BAD, 2, new int[] {6, 240, 241, MAX}, "period", 0, 0, 0).refused(BAD, "period", 2, 0, 1);
    }

    static void promise31_fromAboveToIsBad() {
        rich().refused(BAD, "period", 0, 3, 2).refused(BAD, "period", 0, 5, 0).refused(BAD, "period", 0, 0, -1)
            .refused(BAD, "period", 0, MAX, MIN);
    }

    static void promise31_noSuchTextIsBad() {
        rich().noSuchText(0, "period", 0, 0, 1);
    }

    // ---- 32: root

    static void promise32_noUnitsHaveTheRoot0() {
        rich().due(0, "root", 2);
    }

    static void promise32_oneUnitHasTheRoot1() {
        rich().due(1, "root", 3);
    }

    static void promise32_aTextThatIsOneCopy() {
        rich().due(5, "root", 0).due(2, "root", 1).rising(1000, 240).due(240, "root", 4);
    }

    static void promise32_copiesHaveToBeWhole() {
        start().text("ababa").due(5, "root", 0).text("abab").due(2, "root", 1).text("aabaa").due(5, "root", 2);
    }

    static void promise32_240LikeUnits() {
        start().alike('a', 240).due(1, "root", 0).rising(1000, 120).due(240, "append", 1, 1, 0, 120).due(120, "root", 1);
    }

    static void promise32_noSuchTextIsBad() {
        rich().noSuchText(0, "root", 0);
    }

    // ---- 33: squares

    static void promise33_noUnitsAndOneUnitHaveNone() {
        rich().due(0, "squares", 2).due(0, "squares", 3);
    }

    static void promise33_twoUnits() {
        start().text("aa").due(1, "squares", 0).text("ab").due(0, "squares", 1);
    }

    static void promise33_theWholeTextIsOne() {
        start().text("abab").due(1, "squares", 0).rising(1000, 120).due(240, "append", 1, 1, 0, 120).due(1, "squares", 1);
    }

    static void promise33_oneUnitLessIsNone() {
        start().text("aba").due(0, "squares", 0).text("abcab").due(0, "squares", 1);
    }

    static void promise33_behindAnotherUnit() {
        start().text("xaa").due(1, "squares", 0).text("xabab").due(1, "squares", 1).text("xyaaxyaa").due(3, "squares", 2);
    }

    static void promise33_eachPlaceAndEachPCounts() {
        start().text("aaa").due(2, "squares", 0).text("aaaa").due(4, "squares", 1).text("ababa").due(2, "squares", 2);
    }

    static void promise33_240Units() {
        start().alike('a', 240).due(14400, "squares", 0).rising(1000, 240).due(0, "squares", 1);
    }

    static void promise33_noSuchTextIsBad() {
        rich().noSuchText(0, "squares", 0);
    }

    // ---- 34: runs

    static void promise34_noUnitsAndOneUnitHaveNone() {
        rich().due(0, "runs", 2).due(0, "runs", 3);
    }

    static void promise34_twicePIsEnough() {
        start().text("aa").due(1, "runs", 0).text("abab").due(1, "runs", 1).text("abcabc").due(1, "runs", 2);
    }

    static void promise34_oneUnitLessIsNone() {
        start().text("a").due(0, "runs", 0).text("aba").due(0, "runs", 1).text("abcab").due(0, "runs", 2);
    }

    static void promise34_onlyTheLeastPeriodCounts() {
        start().text("aaaa").due(1, "runs", 0).due(1, "run", 0, 2).text("abababab").due(1, "runs", 1).due(2, "run", 0, 2);
    }

    static void promise34_onlyTheGreatestPartCounts() {
        start().text("ababa").due(1, "runs", 0).due(0, "run", 0, 0).due(5, "run", 0, 1).due(NONE, "run", 1, 0);
    }

    static void promise34_oneBehindTheOther() {
        start().text("aabb").due(2, "runs", 0).due(0, "run", 0, 0).due(2, "run", 0, 1).due(2, "run", 1, 0).due(4, "run", 1, 1);
    }

    static void promise34_240Units() {
        start().alike('a', 240).due(1, "runs", 0).due(240, "run", 0, 1).rising(1000, 240).due(0, "runs", 1)
            .rising(1000, 120).due(240, "append", 2, 2, 0, 120).due(1, "runs", 2).due(120, "run", 0, 2);
    }

    static void promise34_aRunOfEachTwoUnitsIn240() {
        StringBuilder pairs = new StringBuilder();
        for (int n = 0; n < 120; n++) {
            pairs.append((char) (1000 + n)).append((char) (1000 + n));
        }
        start().text(pairs.toString()).due(120, "runs", 0).due(238, "run", 119, 0).due(240, "run", 119, 1)
            .due(1, "run", 119, 2).due(NONE, "run", 120, 0);
    }

    static void promise34_noSuchTextIsBad() {
        rich().noSuchText(0, "runs", 0);
    }

    // ---- 35: run

    static void promise35_aheadOfTheFirstRunsThereIsNone() {
        start().text("aa").refused(NONE, "run", 0, 0).refused(NONE, "run", 0, 2);
    }

    static void promise35_beginningEndAndPeriod() {
        rich().due(2, "run", 0, 0).due(4, "run", 0, 1).due(1, "run", 0, 2);
    }

    private static void runs(String units, int[][] rows) {
        Run run = start().text(units).due(rows.length, "runs", 0);
        for (int k = 0; k < rows.length; k++) {
            for (int what = 0; what < 3; what++) {
                run.due(rows[k][what], "run", k, what);
            }
        }
    }

    static void promise35_byBeginnings() {
        runs("ababcc", new int[][] {{0, 4, 2}, {4, 6, 1}});
        runs("ccabab", new int[][] {{0, 2, 1}, {2, 6, 2}});
    }

    static void promise35_thenByPeriods() {
        runs("aabaab", new int[][] {{0, 2, 1}, {0, 6, 3}, {3, 5, 1}});
    }

    static void promise35_behindTheLastThereIsNone() {
        rich().refused(NONE, "run", 1, 0).refused(NONE, "run", 1, 2).refused(NONE, "run", MAX, 1);
    }

    static void promise35_kBelow0IsNone() {
        rich().refusedFor(NONE, 0, BELOW_0, "run", 0, 0).refusedFor(NONE, 0, BELOW_0, "run", 0, 2);
    }

    static void promise35_anotherWhatIsBad() {
        rich().refusedFor(BAD, 1, NO_WHAT_OF_3, "run", 0, 0);
    }

    static void promise35_badComesAheadOfNone() {
        rich().refused(BAD, "run", 1, 3).refused(BAD, "run", -1, -1);
        start().refused(BAD, "run", 0, 3);
    }

    static void promise35_aBadRunsLeavesTheLatest() {
        rich().refused(BAD, "runs", 4).due(2, "run", 0, 0);
    }

    static void promise35_aRunsWithoutRunsIsTheLatest() {
        rich().due(0, "runs", 1).refused(NONE, "run", 0, 0);
    }

    static void promise35_whatWasFoundStaysAsTheTextChanges() {
        rich().due(0, "remove", 0, 0, 5).due(2, "run", 0, 0).due(4, "run", 0, 1).due(1, "undo").due(1, "undo")
            .due(1, "run", 0, 2);
    }

    // ---- 36: palindrome

    static void promise36_theFirstAndTheLastCentre() {
        rich().due(1, "palindrome", 0, 0).due(1, "palindrome", 0, 8).due(1, "palindrome", 3, 0);
    }

    static void promise36_aCentreBelow0IsBad() {
        rich().refusedFor(BAD, 1, BELOW_0, "palindrome", 0, 0);
    }

    static void promise36_aCentreBehindTheLastIsBad() {
        rich().refusedFor(BAD, 1, new int[] {9, 10, MAX}, "palindrome", 0, 0).refused(BAD, "palindrome", 3, 1);
    }

    static void promise36_aTextOfNoUnitsHasNoCentre() {
        rich().refused(BAD, "palindrome", 2, 0).refused(BAD, "palindrome", 2, -1).refused(BAD, "palindrome", 2, -2);
    }

    static void promise36_betweenUnlikeUnitsItHasNoUnits() {
        rich().due(0, "palindrome", 0, 1).due(0, "palindrome", 0, 7);
    }

    static void promise36_betweenLikeUnits() {
        rich().due(4, "palindrome", 0, 5).text("aa").due(2, "palindrome", 4, 1);
    }

    static void promise36_itEndsWhereTheTextDoes() {
        start().text("abaxx").due(3, "palindrome", 0, 2).text("xxaba").due(3, "palindrome", 1, 6).text("aba")
            .due(3, "palindrome", 2, 2).text("aaaa").due(2, "palindrome", 3, 1).due(3, "palindrome", 3, 4);
    }

    static void promise36_240LikeUnits() {
        start().alike('a', 240).due(240, "palindrome", 0, 239).due(239, "palindrome", 0, 238).due(1, "palindrome", 0, 478)
            .due(2, "palindrome", 0, 477).refused(BAD, "palindrome", 0, 479);
    }

    static void promise36_whatWasTakenOutIsNotSeen() {
        start().text("aaaa").due(3, "remove", 0, 3, 1).due(2, "palindrome", 0, 3).due(1, "palindrome", 0, 4);
    }

    static void promise36_noSuchTextIsBad() {
        rich().noSuchText(0, "palindrome", 0, 0);
    }

    // ---- 37: palindromes

    static void promise37_noUnitsAreNone() {
        rich().due(0, "palindromes", 2);
    }

    static void promise37_oneUnitIsOne() {
        rich().due(1, "palindromes", 3);
    }

    static void promise37_unlikeUnitsAreOneEach() {
        rich().due(2, "palindromes", 1).rising(1000, 240).due(240, "palindromes", 4);
    }

    static void promise37_aWholeTextMayBeOne() {
        start().text("aba").due(1, "palindromes", 0).text("abba").due(1, "palindromes", 1).alike('a', 240)
            .due(1, "palindromes", 2);
    }

    static void promise37_theGreatestFirstIsNotAlwaysLeast() {
        start().text("aaba").due(2, "palindromes", 0).text("aabaab").due(2, "palindromes", 1).text("abbab")
            .due(2, "palindromes", 2);
    }

    static void promise37_noSuchTextIsBad() {
        rich().noSuchText(0, "palindromes", 0);
    }

    // ---- 38: leastRotation

    static void promise38_noUnitsHaveNone() {
        rich().refused(NONE, "leastRotation", 2);
    }

    static void promise38_oneUnitHasOne() {
        rich().due(0, "leastRotation", 3);
    }

    static void promise38_ofLikeOnesTheLeastPlace() {
        start().text("abab").due(0, "leastRotation", 0).text("baba").due(1, "leastRotation", 1).alike('a', 240)
            .due(0, "leastRotation", 2);
    }

    static void promise38_itGoesOnFromTheEndToTheBeginning() {
        start().text("aba").due(2, "leastRotation", 0).text("abaa").due(2, "leastRotation", 1)
            .text("bab").due(1, "leastRotation", 2).text("baca").due(3, "leastRotation", 3)
            .text("caba").due(1, "leastRotation", 4);
    }

    static void promise38_theLeastSuffixNeedNotBeginIt() {
        start().text("cabca").due(4, "suffix", 0, 0).due(1, "leastRotation", 0).text("abacab").due(4, "leastRotation", 1)
            .text("aabaaab").due(3, "leastRotation", 2);
    }

    static void promise38_240UnitsThatFall() {
        start().rising(1000, 240).due(0, "leastRotation", 0).due(1, "reversed", 0).due(239, "leastRotation", 1);
    }

    static void promise38_240UnitsThatComeAgain() {
        Run run = start().text("ba");
        for (int size = 2; size < 240; size = Math.min(2 * size, 240)) {
            run.call("append", 0, 0, 0, Math.min(size, 240 - size));
        }
        run.due(240, "length", 0).due(1, "leastRotation", 0);
    }

    static void promise38_noSuchTextIsBad() {
        rich().noSuchText(0, "leastRotation", 0);
    }

    // ---- 39: lyndon

    static void promise39_noUnitsHaveNone() {
        rich().refused(NONE, "lyndon", 2, 0).refused(NONE, "lyndon", 2, -1);
    }

    static void promise39_oneUnitIsOne() {
        rich().due(0, "lyndon", 3, 0).refused(NONE, "lyndon", 3, 1);
    }

    static void promise39_aWholeTextMayBeOne() {
        rich().due(0, "lyndon", 1, 0).refused(NONE, "lyndon", 1, 1).rising(1000, 240).due(0, "lyndon", 4, 0)
            .refused(NONE, "lyndon", 4, 1);
    }

    static void promise39_behindTheLastThereIsNone() {
        rich().due(0, "lyndon", 0, 0).due(2, "lyndon", 0, 1).refused(NONE, "lyndon", 0, 2).refused(NONE, "lyndon", 0, MAX);
    }

    static void promise39_kBelow0IsNone() {
        rich().refusedFor(NONE, 1, BELOW_0, "lyndon", 0, 0);
    }

    static void promise39_likeOnesFollowOneAnother() {
        start().text("abab").due(0, "lyndon", 0, 0).due(2, "lyndon", 0, 1).due(NONE, "lyndon", 0, 2).alike('a', 240)
            .due(1, "lyndon", 1, 1).due(239, "lyndon", 1, 239).due(NONE, "lyndon", 1, 240);
    }

    static void promise39_240UnitsThatFall() {
        start().rising(1000, 240).due(1, "reversed", 0).due(239, "lyndon", 1, 239).due(NONE, "lyndon", 1, 240);
    }

    static void promise39_badComesAheadOfNone() {
        rich().refused(BAD, "lyndon", 4, -1).refused(BAD, "lyndon", -1, MAX);
    }

    static void promise39_noSuchTextIsBad() {
        rich().noSuchText(0, "lyndon", 0, 0);
    }

    public static void main(String[] args) throws IllegalAccessException {
        check(FormsBoundsTest.class, 31, 39);
    }
}
