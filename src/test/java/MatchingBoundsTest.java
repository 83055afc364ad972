/** Boundary cases of promises 22 to 30: matching of one and of many, what TEXTS have in common. */
public final class MatchingBoundsTest extends Bounds {

    // ---- 22: find

    static void promise22_theFirstAndTheLastPlace() {
        rich().due(0, "find", 0, 1, 0).due(3, "find", 0, 1, 1);
    }

    static void promise22_behindTheLastThereIsNone() {
        rich().refused(NONE, "find", 0, 1, 2).refused(NONE, "find", 0, 1, MAX);
    }

    static void promise22_kBelow0IsNone() {
        rich().refusedFor(NONE, 2, BELOW_0, "find", 0, 1, 0);
    }

    static void promise22_noUnitsOccurAtAllPlacesAndBehind() {
        rich().due(0, "find", 0, 2, 0).due(4, "find", 0, 2, 4).due(5, "find", 0, 2, 5).refused(NONE, "find", 0, 2, 6);
        start().alike('a', 240).text("").due(240, "find", 0, 1, 240).due(NONE, "find", 0, 1, 241);
    }

    static void promise22_noUnitsOccurOnceInNoUnits() {
        rich().due(0, "find", 2, 2, 0).refused(NONE, "find", 2, 2, 1);
    }

    static void promise22_aTextOccursOnceInItself() {
        rich().due(0, "find", 0, 0, 0).refused(NONE, "find", 0, 0, 1);
        start().alike('a', 240).due(0, "find", 0, 0, 0).due(NONE, "find", 0, 0, 1);
    }

    static void promise22_aLongerTextOccursNowhere() {
        rich().refused(NONE, "find", 1, 0, 0).refused(NONE, "find", 2, 3, 0);
        start().alike('a', 239).alike('a', 240).due(NONE, "find", 0, 1, 0).due(1, "find", 1, 0, 1);
    }

    static void promise22_placesMayOverlap() {
        start().alike('a', 5).text("aaa").due(0, "find", 0, 1, 0).due(1, "find", 0, 1, 1).due(2, "find", 0, 1, 2)
            .due(NONE, "find", 0, 1, 3);
    }

    static void promise22_whatWasTakenOutIsNotFound() {
        start().text("aaaa").text("aaa").due(2, "remove", 0, 2, 2).due(NONE, "find", 0, 1, 0);
    }

    static void promise22_badComesAheadOfNone() {
        rich().refused(BAD, "find", 4, 0, -1).refused(BAD, "find", 0, 4, MAX);
    }

    static void promise22_noSuchTextTIsBad() {
        rich().noSuchText(0, "find", 0, 1, 0);
    }

    static void promise22_noSuchTextPIsBad() {
        rich().noSuchText(1, "find", 0, 1, 0);
    }

    // ---- 23: countOf

    static void promise23_noUnitsOccurOnceMoreThanLength() {
        rich().due(6, "countOf", 0, 2).due(2, "countOf", 3, 2);
        start().alike('a', 240).text("").due(241, "countOf", 0, 1);
    }

    static void promise23_noUnitsOccurOnceInNoUnits() {
        rich().due(1, "countOf", 2, 2);
    }

    static void promise23_aTextOccursOnceInItself() {
        rich().due(1, "countOf", 0, 0);
    }

    static void promise23_aLongerTextOccursNowhere() {
        rich().due(0, "countOf", 1, 0).due(0, "countOf", 2, 3);
    }

    static void promise23_placesMayOverlap() {
        start().alike('a', 240).text("a").text("aa").due(240, "countOf", 0, 1).due(239, "countOf", 0, 2);
    }

    static void promise23_atTheFirstAndTheLastPlace() {
        start().text("abcab").text("ab").text("abc").text("cab").due(2, "countOf", 0, 1).due(1, "countOf", 0, 2)
            .due(1, "countOf", 0, 3);
    }

    static void promise23_oneUnlikeUnitIsTooMuch() {
        start().text("aabbb").text("ab").text("aaa").text("bbb").due(1, "countOf", 0, 1).due(0, "countOf", 0, 2)
            .due(1, "countOf", 0, 3);
    }

    static void promise23_noSuchTextTIsBad() {
        rich().noSuchText(0, "countOf", 0, 1);
    }

    static void promise23_noSuchTextPIsBad() {
        rich().noSuchText(1, "countOf", 0, 1);
    }

    // ---- 24: wild

    static void promise24_theSignInTIsLikeAny() {
        start().text("x?c").text("xb").due(0, "wild", 0, 1, '?', 0).due(NONE, "wild", 0, 1, '?', 1);
    }

    static void promise24_theSignInPIsLikeAny() {
        start().text("xbc").text("?c").due(1, "wild", 0, 1, '?', 0).due(NONE, "wild", 0, 1, '?', 1);
    }

    static void promise24_allUnitsAreTheSign() {
        rich().text("???").due(0, "wild", 0, 4, '?', 0).due(2, "wild", 0, 4, '?', 2).refused(NONE, "wild", 0, 4, '?', 3);
    }

    static void promise24_theSignIsNotLikeNoUnit() {
        rich().text("?").text("??").refused(NONE, "wild", 2, 4, '?', 0).refused(NONE, "wild", 4, 5, '?', 0)
            .refused(NONE, "wild", 0, 4, '?', 5);
    }

    static void promise24_aSignThatIsNowhereHelpsNothing() {
        rich().due(0, "wild", 0, 1, '?', 0).due(3, "wild", 0, 1, '?', 1).refused(NONE, "wild", 0, 1, '?', 2);
    }

    static void promise24_otherUnitsBesideTheSignCount() {
        start().text("a?c").text("?xd").due(NONE, "wild", 0, 1, '?', 0);
    }

    static void promise24_theLeastAndTheGreatestSign() {
        start().text("\u0000b").text("ab").due(0, "wild", 0, 1, 0, 0).due(NONE, "wild", 0, 1, 1, 0)
            .text("a\uFFFF").due(0, "wild", 2, 1, 65535, 0).due(NONE, "wild", 2, 1, 65534, 0);
    }

    static void promise24_noUnitIsBad() {
        rich().refusedFor(BAD, 2, NO_UNITS, "wild", 0, 1, 0, 0);
    }

    static void promise24_noUnitsOccurAtAllPlacesAndBehind() {
        rich().due(0, "wild", 0, 2, 'a', 0).due(5, "wild", 0, 2, 'a', 5).refused(NONE, "wild", 0, 2, 'a', 6)
            .due(0, "wild", 2, 2, 'a', 0).refused(NONE, "wild", 2, 2, 'a', 1);
    }

    static void promise24_kBelow0IsNone() {
        rich().refusedFor(NONE, 3, BELOW_0, "wild", 0, 1, 'a', 0);
    }

    static void promise24_badComesAheadOfNone() {
        rich().refused(BAD, "wild", 0, 1, -1, -1).refused(BAD, "wild", 0, 1, 65536, MAX).refused(BAD, "wild", 4, 1, 'a', -1);
    }

    static void promise24_noSuchTextTIsBad() {
        rich().noSuchText(0, "wild", 0, 1, 'a', 0);
    }

    static void promise24_noSuchTextPIsBad() {
        rich().noSuchText(1, "wild", 0, 1, 'a', 0);
    }

    // ---- 25: near

    static void promise25_noChangeIsAsFind() {
        rich().due(0, "near", 0, 1, 0, 0).due(3, "near", 0, 1, 0, 1).refused(NONE, "near", 0, 1, 0, 2);
    }

    static void promise25_threeChangesAreTheMost() {
        start().text("aaaaa").text("bbba").text("bbbb").due(0, "near", 0, 1, 3, 0).due(1, "near", 0, 1, 3, 1)
            .due(NONE, "near", 0, 1, 3, 2).due(NONE, "near", 0, 2, 3, 0);
    }

    static void promise25_oneMoreThanSoManyIsTooMuch() {
        start().text("aaa").text("bba").due(NONE, "near", 0, 1, 0, 0).due(NONE, "near", 0, 1, 1, 0)
            .due(0, "near", 0, 1, 2, 0).due(0, "near", 0, 1, 3, 0);
    }

    static void promise25_fewerThanSoManyAreEnough() {
        rich().due(0, "near", 0, 0, 3, 0).due(0, "near", 3, 3, 3, 0).due(1, "near", 0, 1, 2, 1);
    }

    static void promise25_unitsAreNotLeftOut() {
        rich().refused(NONE, "near", 1, 0, 3, 0).refused(NONE, "near", 2, 3, 3, 0).refused(NONE, "near", 0, 1, 3, 4);
    }

    static void promise25_changesBelow0AreBad() {
        rich().refusedFor(BAD, 2, BELOW_0, "near", 0, 1, 0, 0);
    }

    static void promise25_changesAbove3AreBad() {
        rich().refusedFor(BAD, 2, new int[] {4, 5, MAX}, "near", 0, 1, 0, 0);
    }

    static void promise25_noUnitsOccurAtAllPlacesAndBehind() {
        rich().due(5, "near", 0, 2, 3, 5).refused(NONE, "near", 0, 2, 3, 6).due(0, "near", 2, 2, 0, 0);
    }

    static void promise25_kBelow0IsNone() {
        rich().refusedFor(NONE, 3, BELOW_0, "near", 0, 1, 1, 0).refused(NONE, "near", 0, 1, 1, MAX);
    }

    static void promise25_badComesAheadOfNone() {
        rich().refused(BAD, "near", 0, 1, 4, -1).refused(BAD, "near", 0, 1, -1, MAX).refused(BAD, "near", 4, 1, 0, -1);
    }

    static void promise25_noSuchTextTIsBad() {
        rich().noSuchText(0, "near", 0, 1, 0, 0);
    }

    static void promise25_noSuchTextPIsBad() {
        rich().noSuchText(1, "near", 0, 1, 0, 0);
    }

    // ---- 26: pattern

    static void promise26_oneUnitIsTheFewest() {
        rich().due(2, "pattern", 3).due(3, "count", 1);
    }

    static void promise26_noUnitsAreBad() {
        rich().refused(BAD, "pattern", 2);
    }

    static void promise26_40UnitsAreTheMost() {
        rich().alike('z', 40).due(2, "pattern", 4).due(1, "matches", 4).due(2, "match", 0, 1);
    }

    static void promise26_41UnitsAreBad() {
        rich().alike('z', 41).refused(BAD, "pattern", 4).alike('z', 240).refused(BAD, "pattern", 5);
    }

    static void promise26_the16thPatternIsTaken() {
        Run run = start().text("a");
        for (int q = 0; q < 15; q++) {
            run.due(q, "pattern", 0);
        }
        run.due(15, "pattern", 0).due(16, "count", 1).due(16, "matches", 0).due(15, "match", 15, 1);
    }

    private static Run full() {
        Run run = rich();
        for (int q = 2; q < 16; q++) {
            run.due(q, "pattern", 0);
        }
        return run;
    }

    static void promise26_the17thPatternIsFull() {
        full().refused(FULL, "pattern", 0).refused(FULL, "pattern", 1);
    }

    static void promise26_badComesAheadOfFull() {
        full().refused(BAD, "pattern", 2).refused(BAD, "pattern", 4).alike('z', 41).refused(BAD, "pattern", 4);
    }

    static void promise26_forgetLeavesRoomFrom0On() {
        full().due(16, "forget").due(0, "pattern", 1).due(1, "pattern", 0).due(2, "count", 1);
    }

    static void promise26_likePatternsHaveNumbersOfTheirOwn() {
        rich().due(2, "pattern", 1).due(7, "matches", 0).due(0, "match", 0, 1).due(1, "match", 1, 1).due(2, "match", 2, 1);
    }

    static void promise26_aPatternStaysAsItsTextChanges() {
        rich().due(3, "units", 1, 1, 'z').due(0, "remove", 3, 0, 1).due(5, "matches", 0).due(1, "undo").due(1, "undo")
            .due(5, "matches", 0);
    }

    static void promise26_aPatternStaysAsItsTextIsTakenBack() {
        start().text("a").due(0, "pattern", 0).due(1, "undo").due(1, "undo").due(0, "count", 0).due(1, "count", 1)
            .text("ba").due(1, "matches", 0);
    }

    static void promise26_40TextsMakeNoPatternFull() {
        richAndFull().due(2, "pattern", 0);
    }

    static void promise26_noSuchTextIsBad() {
        rich().noSuchText(0, "pattern", 0);
    }

    // ---- 27: matches

    static void promise27_withoutPatternsThereAreNone() {
        rich().due(2, "forget").due(0, "matches", 0).due(0, "matches", 2);
    }

    static void promise27_aTextOfNoUnitsHasNone() {
        rich().due(0, "matches", 2);
    }

    static void promise27_aLongerPatternDoesNotMatch() {
        rich().due(1, "matches", 3).due(2, "forget").due(0, "pattern", 0).due(0, "matches", 1).due(1, "matches", 0);
    }

    static void promise27_atTheFirstAndTheLastPlace() {
        start().text("abcab").text("ab").text("b").due(0, "pattern", 1).due(1, "pattern", 2).due(4, "matches", 0)
            .due(0, "match", 0, 0).due(3, "match", 2, 0).due(4, "match", 3, 0);
    }

    static void promise27_16PatternsAtEachOf240Places() {
        Run run = start().alike('a', 240).text("a");
        for (int q = 0; q < 16; q++) {
            run.due(q, "pattern", 1);
        }
        run.due(3840, "matches", 0).due(0, "match", 0, 0).due(15, "match", 15, 1).due(1, "match", 16, 0)
            .due(239, "match", 3839, 0).due(15, "match", 3839, 1).due(NONE, "match", 3840, 0);
    }

    static void promise27_patternsOf40UnitsIn240() {
        start().alike('a', 240).alike('a', 40).due(0, "pattern", 1).due(201, "matches", 0).due(200, "match", 200, 0);
    }

    static void promise27_noSuchTextIsBad() {
        rich().noSuchText(0, "matches", 0);
    }

    // ---- 28: match

    static void promise28_aheadOfTheFirstMatchesThereIsNone() {
        start().text("a").due(0, "pattern", 0).refused(NONE, "match", 0, 0).refused(NONE, "match", 0, 1);
    }

    static void promise28_byPlacesThenByPatterns() {
        int[][] rows = {{0, 0}, {0, 1}, {2, 1}, {3, 0}, {3, 1}};
        Run run = rich();
        for (int k = 0; k < 5; k++) {
            run.due(rows[k][0], "match", k, 0).due(rows[k][1], "match", k, 1);
        }
    }

    static void promise28_behindTheLastThereIsNone() {
        rich().refused(NONE, "match", 5, 0).refused(NONE, "match", 5, 1).refused(NONE, "match", MAX, 0);
    }

    static void promise28_kBelow0IsNone() {
        rich().refusedFor(NONE, 0, BELOW_0, "match", 0, 0).refusedFor(NONE, 0, BELOW_0, "match", 0, 1);
    }

    static void promise28_anotherWhatIsBad() {
        rich().refusedFor(BAD, 1, NO_WHAT_OF_2, "match", 0, 0);
    }

    static void promise28_badComesAheadOfNone() {
        rich().refused(BAD, "match", 5, 2).refused(BAD, "match", -1, -1);
        start().refused(BAD, "match", 0, 2);
    }

    static void promise28_aBadMatchesLeavesTheLatest() {
        rich().refused(BAD, "matches", 4).due(3, "match", 4, 0).due(1, "match", 4, 1);
    }

    static void promise28_aMatchesWithoutMatchesIsTheLatest() {
        rich().due(0, "matches", 2).refused(NONE, "match", 0, 0).due(5, "matches", 0).due(0, "match", 0, 0);
    }

    static void promise28_whatWasFoundStaysAsTextsAndPatternsChange() {
        rich().due(0, "remove", 0, 0, 5).due(2, "pattern", 1).due(3, "match", 3, 0).due(0, "match", 3, 1)
            .due(3, "forget").due(1, "match", 4, 1).due(1, "undo").due(NONE, "match", 5, 0);
    }

    // ---- 29: longestCommon

    private static void longest(String t, String s, int size, int here, int there) {
        start().text(t).text(s).due(size, "longestCommon", 0, 1, 0).due(here, "longestCommon", 0, 1, 1)
            .due(there, "longestCommon", 0, 1, 2);
    }

    static void promise29_withoutLikeUnitsNoUnitsAreTheLongest() {
        longest("abc", "xyz", 0, 0, 0);
    }

    static void promise29_aTextOfNoUnits() {
        longest("", "abc", 0, 0, 0);
        longest("abc", "", 0, 0, 0);
        longest("", "", 0, 0, 0);
    }

    static void promise29_aWholeText() {
        longest("xxab", "ab", 2, 2, 0);
        longest("ab", "xxab", 2, 0, 2);
        rich().due(5, "longestCommon", 0, 0, 0).due(0, "longestCommon", 0, 0, 1).due(0, "longestCommon", 0, 0, 2);
        longest(Run.row(1000, 240), Run.row(1000, 240), 240, 0, 0);
    }

    static void promise29_ofSeveralTheLeastPlaceInT() {
        longest("cdab", "abcd", 2, 0, 2);
        longest("xcdab", "abcd", 2, 1, 2);
    }

    static void promise29_theLeastPlaceOfItInS() {
        longest("xab", "yabzab", 2, 1, 1);
        longest("abab", "zab", 2, 0, 1);
    }

    static void promise29_oneUnitAtTheEnds() {
        longest("xxxa", "yyya", 1, 3, 3);
        longest("axxx", "yyya", 1, 0, 3);
        longest(Run.row(1000, 240), Run.row(1239, 240), 1, 239, 0);
    }

    static void promise29_inTheMiddleOfBoth() {
        longest("xaby", "zzabw", 2, 1, 2);
        longest("xabyabc", "zabcw", 3, 4, 1);
    }

    static void promise29_anEarlierPairLeavesNothing() {
        start().text("aaaa").text("xa").text("ba").text("q").due(4, "longestCommon", 0, 0, 0)
            .due(1, "longestCommon", 0, 1, 0).due(1, "longestCommon", 2, 1, 1).due(0, "longestCommon", 3, 1, 1)
            .due(1, "longestCommon", 2, 1, 2).due(0, "longestCommon", 3, 1, 2).due(0, "longestCommon", 3, 1, 0);
    }

    static void promise29_anotherWhatIsBad() {
        rich().refusedFor(BAD, 2, NO_WHAT_OF_3, "longestCommon", 0, 1, 0);
    }

    static void promise29_noSuchTextTIsBad() {
        rich().noSuchText(0, "longestCommon", 0, 1, 0).noSuchText(0, "longestCommon", 0, 1, 2);
    }

    static void promise29_noSuchTextSIsBad() {
        rich().noSuchText(1, "longestCommon", 0, 1, 0).noSuchText(1, "longestCommon", 0, 1, 2);
    }

    // ---- 30: ofMany

    private static Run ofMany(Run run, int many, int size, int text, int place) {
        return run.due(size, "ofMany", many, 0).due(text, "ofMany", many, 1).due(place, "ofMany", many, 2);
    }

    static void promise30_ofOneText() {
        ofMany(rich(), 1, 5, 0, 0);
    }

    static void promise30_ofAllTexts() {
        ofMany(rich(), 4, 0, 0, 0);
        ofMany(start().text("xab").text("ab").text("abz"), 3, 2, 0, 1);
    }

    static void promise30_moreThanThereAreIsNo() {
        rich().refused(NO, "ofMany", 5, 0).refused(NO, "ofMany", 41, 1).refused(NO, "ofMany", MAX, 2);
    }

    static void promise30_withoutTextsItIsNo() {
        start().refused(NO, "ofMany", 1, 0).refused(NO, "ofMany", 40, 2);
    }

    static void promise30_manyBelow1IsBad() {
        rich().refusedFor(BAD, 0, new int[] {0, -1, MIN}, "ofMany", 0, 0);
        start().refused(BAD, "ofMany", 0, 0);
    }

    static void promise30_anotherWhatIsBad() {
        rich().refusedFor(BAD, 1, NO_WHAT_OF_3, "ofMany", 1, 0);
    }

    static void promise30_badComesAheadOfNo() {
        rich().refused(BAD, "ofMany", 5, 3).refused(BAD, "ofMany", MAX, -1);
    }

    static void promise30_onlyTextsOfNoUnits() {
        ofMany(start().text(""), 1, 0, 0, 0);
        ofMany(start().text("").text(""), 2, 0, 0, 0);
    }

    static void promise30_noUnitsOccurInTheFirstText() {
        ofMany(start().text("a").text("b"), 2, 0, 0, 0);
    }

    static void promise30_inMoreThanSoMany() {
        ofMany(start().text("x").text("yab").text("zab").text("ab"), 2, 2, 1, 1);
    }

    static void promise30_twiceInOneTextIsInOne() {
        ofMany(start().text("abab").text("c"), 2, 0, 0, 0);
        ofMany(start().text("abab").text("xa"), 2, 1, 0, 0);
    }

    static void promise30_ofSeveralTheLeast() {
        ofMany(start().text("zyab").text("zy").text("ab"), 2, 2, 0, 2);
        ofMany(start().text("\uFFFF").text("\u8000").text("\u7FFF").text("\u0001"), 1, 1, 3, 0);
        ofMany(start().text("\u0001").text("\u0000"), 1, 1, 1, 0);
    }

    static void promise30_theFirstTextAndTheLeastPlace() {
        ofMany(start().text("q").text("cabxab").text("ab"), 2, 2, 1, 1);
        ofMany(start().text("zab").text("abzabz"), 2, 3, 0, 0);
    }

    static void promise30_theFirstTextMayGoOnWithMore() {
        ofMany(start().text("xabz").text("aba"), 2, 2, 0, 1);
        ofMany(start().text("abcaba"), 1, 6, 0, 0);
        ofMany(start().text("abzaby").text("abx"), 2, 2, 0, 0);
    }

    static void promise30_nothingGoesFromOneTextIntoTheNext() {
        ofMany(start().text("a").text("b").text("ab"), 2, 1, 0, 0);
        ofMany(start().text("xa").text("bx").text("ya").text("bx"), 2, 2, 1, 0);
    }

    static void promise30_40TextsOf240() {
        Run run = start().alike('a', 240);
        for (int t = 1; t < 40; t++) {
            run.due(t, "copy", 0, 0, 240);
        }
        ofMany(ofMany(run, 40, 240, 0, 0), 1, 240, 0, 0).refused(NO, "ofMany", 41, 0);
        ofMany(run.due(239, "remove", 0, 0, 1), 39, 240, 1, 0);
        ofMany(run, 40, 239, 0, 0);
    }

    static void promise30_40TextsOf240OneOfThemUnlike() {
        Run run = start().alike('a', 240);
        for (int t = 1; t < 39; t++) {
            run.due(t, "copy", 0, 0, 240);
        }
        ofMany(ofMany(run.alike('b', 240), 40, 0, 0, 0), 39, 240, 0, 0);
    }

    static void promise30_aChangedTextIsSeen() {
        Run run = ofMany(start().text("ab").text("abc"), 2, 2, 0, 0).due(3, "units", 0, 1, 'c');
        ofMany(ofMany(run, 2, 3, 0, 0).due(1, "undo"), 2, 2, 0, 0);
    }

    static void promise30_aTextTakenBackIsNotSeen() {
        Run run = start().text("ab").text("xyz").due(1, "undo").due(1, "undo");
        ofMany(run, 1, 2, 0, 0).refused(NO, "ofMany", 2, 0);
    }

    public static void main(String[] args) throws IllegalAccessException {
        check(MatchingBoundsTest.class, 22, 30);
    }
}
