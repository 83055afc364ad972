/** Boundary cases of promises 18 to 21: SUFFIXES, their order, COMMON, BORDERS. */
public final class OrderBoundsTest extends Bounds {

    // ---- 18: suffix

    static void promise18_theFirstAndTheLastByOrder() {
        rich().due(2, "suffix", 0, 0).due(1, "suffix", 0, 4);
    }

    static void promise18_behindTheLastThereIsNone() {
        rich().refused(NONE, "suffix", 0, 5).refused(NONE, "suffix", 0, 240).refused(NONE, "suffix", 0, MAX);
    }

    static void promise18_kBelow0IsNone() {
        rich().refusedFor(NONE, 1, BELOW_0, "suffix", 0, 0);
    }

    static void promise18_aTextOfNoUnitsHasNone() {
        rich().refused(NONE, "suffix", 2, 0).refused(NONE, "suffix", 2, -1);
    }

    static void promise18_aTextOfOneUnitHasOne() {
        rich().due(0, "suffix", 3, 0).refused(NONE, "suffix", 3, 1);
    }

    static void promise18_whatAnotherBeginsWithIsLess() {
        start().alike('a', 240).due(239, "suffix", 0, 0).due(1, "suffix", 0, 238).due(0, "suffix", 0, 239)
            .due(NONE, "suffix", 0, 240);
    }

    static void promise18_theEndIsLessThanUnit0() {
        start().text("\u0000\u0000\u0000").due(2, "suffix", 0, 0).due(1, "suffix", 0, 1).due(0, "suffix", 0, 2);
    }

    static void promise18_unitsAreNumbersFrom0To65535() {
        start().text("\uFFFF\u8000\u7FFF\u0100\u00FF\u0000").due(5, "suffix", 0, 0).due(4, "suffix", 0, 1)
            .due(3, "suffix", 0, 2).due(2, "suffix", 0, 3).due(1, "suffix", 0, 4).due(0, "suffix", 0, 5);
    }

    static void promise18_240UnlikeUnits() {
        start().rising(1000, 240).due(0, "suffix", 0, 0).due(239, "suffix", 0, 239).due(1, "reversed", 0)
            .due(239, "suffix", 1, 0).due(0, "suffix", 1, 239);
    }

    static void promise18_aChangedTextIsOrderedAnew() {
        rich().due(2, "suffix", 0, 0).due(6, "insert", 0, 0, 'A').due(0, "suffix", 0, 0).due(1, "undo")
            .due(2, "suffix", 0, 0).due(0, "suffix", 1, 0).due(2, "suffix", 0, 0);
    }

    static void promise18_badComesAheadOfNone() {
        rich().refused(BAD, "suffix", 4, -1).refused(BAD, "suffix", -1, MAX);
    }

    static void promise18_noSuchTextIsBad() {
        rich().noSuchText(0, "suffix", 0, 0);
    }

    // ---- 19: rank

    static void promise19_theLeastAndTheGreatest() {
        rich().due(0, "rank", 0, 2).due(4, "rank", 0, 1);
    }

    static void promise19_theFirstAndTheLastPlace() {
        rich().due(2, "rank", 0, 0).due(3, "rank", 0, 4).due(0, "rank", 3, 0);
    }

    static void promise19_thePlaceAtLengthIsBad() {
        rich().refused(BAD, "rank", 0, 5).refused(BAD, "rank", 3, 1).refused(BAD, "rank", 0, 240).refused(BAD, "rank", 0, MAX);
    }

    static void promise19_placesBelow0AreBad() {
        rich().refusedFor(BAD, 1, BELOW_0, "rank", 0, 0);
    }

    static void promise19_aTextOfNoUnitsHasNoPlace() {
        rich().refused(BAD, "rank", 2, 0);
    }

    static void promise19_240LikeUnits() {
        start().alike('a', 240).due(239, "rank", 0, 0).due(0, "rank", 0, 239).due(BAD, "rank", 0, 240);
    }

    static void promise19_noSuchTextIsBad() {
        rich().noSuchText(0, "rank", 0, 0);
    }

    // ---- 20: common

    static void promise20_onePlaceHasAllOfItsSuffix() {
        rich().due(5, "common", 0, 0, 0).due(1, "common", 0, 4, 4).due(1, "common", 3, 0, 0)
            .alike('a', 240).due(240, "common", 4, 0, 0);
    }

    static void promise20_itEndsWithTheText() {
        rich().due(2, "common", 0, 0, 3).due(2, "common", 0, 3, 0).due(1, "common", 0, 1, 4)
            .alike('a', 240).due(1, "common", 4, 0, 239).due(1, "common", 4, 239, 0).due(239, "common", 4, 0, 1);
    }

    static void promise20_unlikeUnitsHaveNothingInCommon() {
        rich().due(0, "common", 0, 0, 1).due(0, "common", 0, 4, 0);
    }

    static void promise20_whatWasTakenOutIsNotCompared() {
        start().alike('a', 10).due(2, "remove", 0, 2, 8).due(1, "common", 0, 0, 1).due(1, "common", 0, 1, 0);
    }

    static void promise20_aPlaceAtLengthIsBad() {
        rich().refused(BAD, "common", 0, 5, 0).refused(BAD, "common", 0, 0, 5).refused(BAD, "common", 0, 5, 5)
            .refused(BAD, "common", 0, MAX, 0).refused(BAD, "common", 0, 0, MAX);
    }

    static void promise20_placesBelow0AreBad() {
        rich().refusedFor(BAD, 1, BELOW_0, "common", 0, 0, 0).refusedFor(BAD, 2, BELOW_0, "common", 0, 0, 0)
            .refused(BAD, "common", 0, -1, -1);
    }

    static void promise20_aTextOfNoUnitsHasNoPlace() {
        rich().refused(BAD, "common", 2, 0, 0);
    }

    static void promise20_noSuchTextIsBad() {
        rich().noSuchText(0, "common", 0, 0, 0);
    }

    // ---- 21: border

    static void promise21_oneUnitHasTheBorder0() {
        rich().due(0, "border", 0, 1).due(0, "border", 3, 1);
    }

    static void promise21_theWholeText() {
        rich().due(2, "border", 0, 5).due(0, "border", 1, 2);
    }

    static void promise21_itIsBelowI() {
        start().alike('a', 240).due(1, "border", 0, 2).due(2, "border", 0, 3).due(239, "border", 0, 240);
    }

    static void promise21_withoutOneItIs0() {
        start().rising(1000, 240).due(0, "border", 0, 2).due(0, "border", 0, 240);
    }

    static void promise21_theGreatestOfSeveral() {
        start().text("abacaba").due(3, "border", 0, 7).due(1, "border", 0, 5).text("aabaaa").due(2, "border", 1, 5)
            .due(2, "border", 1, 6);
    }

    static void promise21_ofEachBeginning() {
        int[] borders = {0, 1, 0, 1, 2, 2, 3};
        Run run = start().text("aabaaab");
        for (int i = 1; i <= 7; i++) {
            run.due(borders[i - 1], "border", 0, i);
        }
        start().text("abcabb").due(2, "border", 0, 5).due(0, "border", 0, 6);
    }

    static void promise21_i0IsBad() {
        rich().refused(BAD, "border", 0, 0).refused(BAD, "border", 2, 0);
    }

    static void promise21_iBelow0IsBad() {
        rich().refusedFor(BAD, 1, BELOW_0, "border", 0, 0);
    }

    static void promise21_iAboveLengthIsBad() {
        rich().refused(BAD, "border", 0, 6).refused(BAD, "border", 2, 1).refused(BAD, "border", 0, 240)
            .refused(BAD, "border", 0, 241).refused(BAD, "border", 0, MAX);
    }

    static void promise21_noSuchTextIsBad() {
        rich().noSuchText(0, "border", 0, 1);
    }

    public static void main(String[] args) throws IllegalAccessException {
        check(OrderBoundsTest.class, 18, 21);
    }
}
