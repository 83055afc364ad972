/** Boundary cases of promises 40 to 46: different parts, what is absent, covers. */
public final class PartsBoundsTest extends Bounds {

    // ---- 40: parts

    static void promise40_noUnitsHaveNone() {
        rich().due(0, "parts", 2);
    }

    static void promise40_oneUnitHasOne() {
        rich().due(1, "parts", 3);
    }

    static void promise40_eachIsCountedOnce() {
        rich().due(11, "parts", 0).alike('a', 240).due(240, "parts", 4);
    }

    static void promise40_allUnlike() {
        rich().due(3, "parts", 1).rising(1000, 240).due(28920, "parts", 4);
    }

    static void promise40_noSuchTextIsBad() {
        rich().noSuchText(0, "parts", 0);
    }

    // ---- 41: nthPart

    static void promise41_theFirstAndTheLastByOrder() {
        rich().due(4, "nthPart", 0, 0).holds(4, "a").due(5, "nthPart", 0, 10).holds(5, "baab").due(6, "nthPart", 3, 0)
            .holds(6, "a");
    }

    static void promise41_oneBehindTheLastIsNo() {
        rich().refused(NO, "nthPart", 0, 11).refused(NO, "nthPart", 3, 1).refused(NO, "nthPart", 0, MAX);
    }

    static void promise41_kBelow0IsNo() {
        rich().refusedFor(NO, 1, BELOW_0, "nthPart", 0, 0);
    }

    static void promise41_noUnitsHaveNone() {
        rich().refused(NO, "nthPart", 2, 0).refused(NO, "nthPart", 2, -1);
    }

    static void promise41_whatAnotherBeginsWithComesAhead() {
        String[] parts = {"a", "aa", "aab", "ab", "aba", "abaa", "abaab", "b", "ba", "baa", "baab"};
        Run run = rich();
        for (int k = 0; k < parts.length; k++) {
            run.due(4 + k, "nthPart", 0, k).holds(4 + k, parts[k]);
        }
    }

    static void promise41_240Units() {
        start().alike('a', 240).due(1, "nthPart", 0, 239).due(240, "length", 1).due(2, "nthPart", 0, 0).holds(2, "a")
            .refused(NO, "nthPart", 0, 240);
        start().rising(1000, 240).due(1, "nthPart", 0, 239).due(0, "order", 0, 1, false).due(2, "nthPart", 0, 240)
            .holds(2, "\u03E9").due(3, "nthPart", 0, 28919).holds(3, "\u04D7").refused(NO, "nthPart", 0, 28920);
    }

    static void promise41_the40thTextIsAPart() {
        rich().until(39).due(39, "nthPart", 0, 3).holds(39, "ab");
    }

    static void promise41_the41stTextIsFull() {
        richAndFull().refused(FULL, "nthPart", 0, 0).refused(FULL, "nthPart", 0, 10);
    }

    static void promise41_fullComesAheadOfNo() {
        richAndFull().refused(FULL, "nthPart", 0, 11).refused(FULL, "nthPart", 0, -1).refused(FULL, "nthPart", 2, 0);
    }

    static void promise41_badComesAheadOfFullAndNo() {
        richAndFull().refused(BAD, "nthPart", 40, 0).refused(BAD, "nthPart", -1, -1);
        rich().refused(BAD, "nthPart", 4, -1);
    }

    static void promise41_noSuchTextIsBad() {
        rich().noSuchText(0, "nthPart", 0, 0);
    }

    // ---- 42: unique

    static void promise42_oneUnitMayBeEnough() {
        rich().due(1, "unique", 1, 0).due(1, "unique", 1, 1).due(1, "unique", 3, 0);
    }

    static void promise42_allFromThePlaceOnMayBeNeeded() {
        start().text("aba").due(2, "unique", 0, 0).due(1, "unique", 0, 1).text("aaa").due(3, "unique", 1, 0)
            .alike('a', 240).due(240, "unique", 2, 0);
    }

    static void promise42_allOccurElsewhere() {
        rich().refused(NONE, "unique", 0, 3).refused(NONE, "unique", 0, 4).alike('a', 240).refused(NONE, "unique", 4, 1)
            .refused(NONE, "unique", 4, 239);
    }

    static void promise42_theLastPlace() {
        start().text("aab").due(1, "unique", 0, 2).text("baa").due(NONE, "unique", 1, 2).rising(1000, 240)
            .due(1, "unique", 2, 239);
    }

    static void promise42_whatOverlapsIsElsewhereToo() {
        start().text("aaab").due(3, "unique", 0, 0).due(3, "unique", 0, 1).due(2, "unique", 0, 2);
    }

    static void promise42_thePlaceAtLengthIsBad() {
        rich().refused(BAD, "unique", 0, 5).refused(BAD, "unique", 3, 1).refused(BAD, "unique", 0, MAX);
    }

    static void promise42_placesBelow0AreBad() {
        rich().refusedFor(BAD, 1, BELOW_0, "unique", 0, 0);
    }

    static void promise42_aTextOfNoUnitsHasNoPlace() {
        rich().refused(BAD, "unique", 2, 0);
    }

    static void promise42_noSuchTextIsBad() {
        rich().noSuchText(0, "unique", 0, 0);
    }

    // ---- 43: leastUnique

    static void promise43_noUnitsHaveNone() {
        rich().due(0, "leastUnique", 2);
    }

    static void promise43_oneUnitHasOne() {
        rich().due(1, "leastUnique", 3);
    }

    static void promise43_onlyTheWholeText() {
        start().alike('a', 240).due(1, "leastUnique", 0).text("aa").due(1, "leastUnique", 1);
    }

    static void promise43_eachUnitAlone() {
        start().rising(1000, 240).due(240, "leastUnique", 0);
    }

    static void promise43_whatHasALesserOneDoesNotCount() {
        rich().due(2, "leastUnique", 0).text("aba").due(1, "leastUnique", 4).text("abab").due(1, "leastUnique", 5)
            .text("aab").due(2, "leastUnique", 6);
    }

    static void promise43_noSuchTextIsBad() {
        rich().noSuchText(0, "leastUnique", 0);
    }

    // ---- 44: absent

    static void promise44_noUnitsAreNo() {
        rich().refused(NO, "absent", 2);
    }

    static void promise44_oneUnit() {
        rich().due(4, "absent", 3).holds(4, "aa");
    }

    static void promise44_onlyUnitsThatTheTextHas() {
        rich().due(4, "absent", 0).holds(4, "bb").text("zx").due(6, "absent", 5).holds(6, "xx");
    }

    static void promise44_theLeastOfTheShortest() {
        start().text("aabb").due(1, "absent", 0).holds(1, "ba").text("aabba").due(3, "absent", 2).holds(3, "aaa")
            .text("baabb").due(5, "absent", 4).holds(5, "aaa").text("\uFFFF\u8000\u7FFF").due(7, "absent", 6)
            .holds(7, "\u7FFF\u7FFF");
    }

    static void promise44_unitsThatFall() {
        start().text("baab").due(1, "absent", 0).holds(1, "bb");
        start().text("cbaabacbbcc").due(1, "absent", 0).holds(1, "ca");
    }

    static void promise44_manyLikeUnits() {
        start().alike('a', 200).alike('b', 40).due(240, "append", 0, 1, 0, 40).due(2, "absent", 0).holds(2, "ba");
    }

    static void promise44_240UnlikeUnits() {
        start().rising(1000, 240).due(1, "absent", 0).holds(1, "\u03E8\u03E8").due(2, "reversed", 0).due(3, "absent", 2)
            .holds(3, "\u03E8\u03E8");
    }

    static void promise44_239LikeUnitsLack240() {
        start().alike('a', 239).due(1, "absent", 0).due(240, "length", 1).due(1, "order", 1, 0, false);
    }

    static void promise44_240LikeUnitsLack241WhichIsFull() {
        rich().alike('a', 240).refused(FULL, "absent", 4).due(5, "count", 0);
    }

    static void promise44_the40thTextIsAbsent() {
        rich().until(39).due(39, "absent", 0).holds(39, "bb");
    }

    static void promise44_the41stTextIsFull() {
        richAndFull().refused(FULL, "absent", 0).refused(FULL, "absent", 3);
    }

    static void promise44_fullComesAheadOfNo() {
        richAndFull().refused(FULL, "absent", 2);
    }

    static void promise44_badComesAheadOfFull() {
        richAndFull().refused(BAD, "absent", 40).refused(BAD, "absent", -1);
    }

    static void promise44_noSuchTextIsBad() {
        rich().noSuchText(0, "absent", 0);
    }

    // ---- 45: cover

    static void promise45_noUnitsNeedNoPattern() {
        rich().due(0, "cover", 2).due(2, "forget").due(0, "cover", 2);
        start().text("").due(0, "cover", 0);
    }

    static void promise45_withoutPatternsItIsNo() {
        rich().due(2, "forget").refused(NO, "cover", 0).refused(NO, "cover", 3);
    }

    static void promise45_oneUnitLeftOverIsNo() {
        rich().text("abac").refused(NO, "cover", 4).text("cab").refused(NO, "cover", 5).text("acab").refused(NO, "cover", 6);
    }

    static void promise45_aPatternThatReachesBeyondTheEndIsNo() {
        start().text("aba").text("ab").due(0, "pattern", 1).refused(NO, "cover", 0);
    }

    static void promise45_oneWholePattern() {
        rich().due(1, "cover", 1).due(1, "cover", 3).alike('z', 40).due(2, "pattern", 4).due(1, "cover", 4);
    }

    static void promise45_theLeastNumber() {
        start().text("aaaa").text("a").text("aaa").text("aa").due(0, "pattern", 1).due(4, "cover", 0)
            .due(1, "pattern", 2).due(2, "cover", 0).due(0, "word", 0).due(2, "pattern", 3).due(2, "cover", 0);
    }

    static void promise45_240Units() {
        start().alike('a', 240).text("a").alike('a', 40).due(0, "pattern", 1).due(240, "cover", 0).due(0, "word", 239)
            .due(NONE, "word", 240).due(1, "pattern", 2).due(6, "cover", 0).due(1, "word", 5).due(NONE, "word", 6);
    }

    static void promise45_aPatternMayBeUsedOftenOrNotAtAll() {
        start().text("ababab").text("ab").text("zz").due(0, "pattern", 2).due(1, "pattern", 1).due(3, "cover", 0)
            .due(1, "word", 0).due(1, "word", 2);
    }

    static void promise45_noSuchTextIsBad() {
        rich().noSuchText(0, "cover", 0);
    }

    // ---- 46: word

    static void promise46_aheadOfTheFirstCoverThereIsNone() {
        start().text("a").due(0, "pattern", 0).refused(NONE, "word", 0);
    }

    static void promise46_theFirstAndTheLast() {
        rich().due(0, "word", 0).due(1, "word", 1).due(0, "word", 2);
    }

    static void promise46_behindTheLastThereIsNone() {
        rich().refused(NONE, "word", 3).refused(NONE, "word", 240).refused(NONE, "word", MAX);
    }

    static void promise46_kBelow0IsNone() {
        rich().refusedFor(NONE, 0, BELOW_0, "word", 0);
    }

    static void promise46_ofTheLeastOnesTheFirstPatternIsLeast() {
        start().text("aaa").text("aa").text("a").due(0, "pattern", 2).due(1, "pattern", 1).due(2, "cover", 0)
            .due(0, "word", 0).due(1, "word", 1).due(2, "forget").due(0, "pattern", 1).due(1, "pattern", 2)
            .due(2, "cover", 0).due(0, "word", 0).due(1, "word", 1);
    }

    static void promise46_thenTheSecondPatternIsLeast() {
        start().text("xaaa").text("x").text("aa").text("a").due(0, "pattern", 3).due(1, "pattern", 2).due(2, "pattern", 1)
            .due(3, "cover", 0).due(2, "word", 0).due(0, "word", 1).due(1, "word", 2);
    }

    static void promise46_ofLikePatternsTheLeastNumber() {
        rich().due(2, "pattern", 1).due(3, "pattern", 3).due(3, "cover", 0).due(0, "word", 0).due(1, "word", 1)
            .due(0, "word", 2);
    }

    static void promise46_aLeastNumberGoesAheadOfALeastFirstPattern() {
        start().text("abc").text("a").text("b").text("c").text("abc").due(0, "pattern", 1).due(1, "pattern", 2)
            .due(2, "pattern", 3).due(3, "pattern", 4).due(1, "cover", 0).due(3, "word", 0).due(NONE, "word", 1);
    }

    static void promise46_aCoverThatIsNoOrBadLeavesTheLatest() {
        rich().text("z").refused(NO, "cover", 4).refused(BAD, "cover", 5).due(0, "word", 2).due(NONE, "word", 3);
    }

    static void promise46_aCoverOfNoUnitsIsTheLatest() {
        rich().due(0, "cover", 2).refused(NONE, "word", 0);
    }

    static void promise46_whatWasFoundStaysAsTextsAndPatternsGo() {
        rich().due(0, "remove", 0, 0, 5).due(2, "forget").due(0, "word", 0).due(1, "word", 1).due(0, "word", 2)
            .due(1, "undo").refused(NO, "cover", 0).due(1, "word", 1);
    }

    public static void main(String[] args) throws IllegalAccessException {
        check(PartsBoundsTest.class, 40, 46);
    }
}
