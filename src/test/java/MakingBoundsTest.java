/** Boundary cases of promises 1 to 10: a new object, making and changing TEXTS, taking back. */
public final class MakingBoundsTest extends Bounds {

    // ---- 1: a new object

    static void promise1_aNewObjectHasNoTexts() {
        start().due(0, "count", 0).due(0, "count", 3).refused(BAD, "length", 0).refused(BAD, "at", 0, 0);
    }

    static void promise1_aNewObjectHasNoPatterns() {
        start().due(0, "count", 1).due(0, "forget").text("a").due(0, "matches", 0).due(NO, "cover", 0);
    }

    static void promise1_aNewObjectHasNoChanges() {
        start().due(0, "count", 2).refused(NO, "undo");
    }

    static void promise1_nothingHasBeenFoundInANewObject() {
        start().refused(NONE, "match", 0, 0).refused(NONE, "run", 0, 0).refused(NONE, "word", 0)
            .refused(NONE, "script", 0, 0).refused(NONE, "pair", 0, 0).refused(NONE, "squeezed", 0, 0)
            .refused(BAD, "sorted", 0).refused(NO, "expand").refused(NO, "unsort");
    }

    static void promise1_twoObjectsHaveNothingInCommon() {
        Run one = rich();
        Run other = start().due(0, "count", 0).due(0, "count", 1).due(0, "count", 2).due(NONE, "match", 0, 0);
        other.text("zz").due(1, "runs", 0).due(0, "pattern", 0);
        one.due(4, "count", 0).due(2, "count", 1).due(8, "count", 2).holds(0, "abaab").due(2, "run", 0, 0);
    }

    static void promise1_the512thCallIsAnsweredAsTheFirst() {
        Run run = rich();
        while (run.room() > 3) {
            run.due(4, "copy", 0, 1, 4).due(1, "undo");
        }
        while (run.room() > 1) {
            run.due(5, "length", 0);
        }
        run.due(2, "ofMany", 2, 0);
    }

    // ---- 2: text

    static void promise2_textsAreNumberedFrom0On() {
        start().due(0, "text").due(1, "text").due(2, "text").due(3, "count", 0);
    }

    static void promise2_aNewTextHasNoUnits() {
        rich().due(4, "text").due(0, "length", 4).due(8, "count", 3);
    }

    static void promise2_aNewTextHasNothingOfOneThatWasTakenBack() {
        rich().due(4, "text").due(0, "length", 4).due(1, "units", 4, 1, 'q').holds(4, "q");
    }

    static void promise2_the40thTextIsMade() {
        rich().until(39).due(39, "text").due(40, "count", 0).due(0, "length", 39).due(1, "units", 39, 1, 'q');
    }

    static void promise2_the41stTextIsFull() {
        richAndFull().refused(FULL, "text").due(40, "count", 0);
    }

    static void promise2_aTextTakenBackLeavesRoomForOne() {
        richAndFull().due(1, "undo").due(39, "text").refused(FULL, "text");
    }

    // ---- 3: units

    static void promise3_oneUnitIsTheFewest() {
        rich().due(1, "units", 2, 1, 'q').holds(2, "q");
    }

    static void promise3_fourUnitsAreTheMost() {
        rich().due(4, "units", 2, 4, 0x0071_0072_0073_0074L).holds(2, "qrst");
    }

    static void promise3_noUnitsAreBad() {
        rich().refused(BAD, "units", 0, 0, 5);
    }

    static void promise3_fiveUnitsAreBad() {
        rich().refused(BAD, "units", 0, 5, 5);
    }

    static void promise3_anotherNFarOutIsBad() {
        rich().refusedFor(BAD, 1, new int[] {-1, -4, MIN, 16, 257, MAX}, "units", 0, 0, 5);
    }

    static void promise3_onlyTheLowestBitsAreTaken() {
        long w = 0x1111_2222_3333_4444L;
        rich().due(1, "units", 2, 1, w).due(3, "units", 2, 2, w).due(6, "units", 2, 3, w).due(10, "units", 2, 4, w)
            .holds(2, "\u4444" + "\u3333\u4444" + "\u2222\u3333\u4444" + "\u1111\u2222\u3333\u4444");
    }

    static void promise3_aWordBelow0IsTakenByItsBits() {
        rich().due(4, "units", 2, 4, -1L).due(8, "units", 2, 4, Long.MIN_VALUE).due(10, "units", 2, 2, -2L)
            .holds(2, "\uFFFF\uFFFF\uFFFF\uFFFF" + "\u8000\u0000\u0000\u0000" + "\uFFFF\uFFFE");
    }

    static void promise3_theLeastAndTheGreatestUnit() {
        rich().due(2, "units", 2, 2, 0x0000_FFFFL).due(0, "at", 2, 0).due(65535, "at", 2, 1);
    }

    static void promise3_noSuchTextIsBad() {
        rich().noSuchText(0, "units", 0, 1, 5);
    }

    static void promise3_240UnitsAreTaken() {
        for (int n = 1; n <= 4; n++) {
            rich().alike('a', 240 - n).due(240, "units", 4, n, 5).due(5, "at", 4, 239);
        }
    }

    static void promise3_above240IsFull() {
        for (int n = 1; n <= 4; n++) {
            rich().alike('a', 241 - n).refused(FULL, "units", 4, n, 5).due(241 - n, "length", 4);
        }
    }

    static void promise3_aTextOf240IsFull() {
        rich().alike('a', 240).refused(FULL, "units", 4, 1, 5).refused(FULL, "units", 4, 4, 5);
    }

    static void promise3_badComesAheadOfFull() {
        rich().alike('a', 240).refused(BAD, "units", 4, 0, 5).refused(BAD, "units", 4, 5, 5);
    }

    static void promise3_40TextsMakeNoTextFull() {
        richAndFull().due(1, "units", 39, 1, 5);
    }

    // ---- 4: point

    static void promise4_theLeastPointIsOneUnit() {
        rich().due(1, "point", 2, 0).holds(2, "\u0000");
    }

    static void promise4_pointFFFFIsOneUnit() {
        rich().due(1, "point", 2, 0xFFFF).holds(2, "\uFFFF");
    }

    static void promise4_point10000IsTwoUnits() {
        rich().due(2, "point", 2, 0x10000).holds(2, "\uD800\uDC00");
    }

    static void promise4_theGreatestPointIsTwoUnits() {
        rich().due(2, "point", 2, 0x10FFFF).holds(2, "\uDBFF\uDFFF");
    }

    static void promise4_whereTheSecondUnitTurnsOver() {
        rich().due(2, "point", 2, 0x103FF).due(4, "point", 2, 0x10400).holds(2, "\uD800\uDFFF\uD801\uDC00");
    }

    static void promise4_halvesAreOneUnitEach() {
        rich().due(1, "point", 2, 0xD800).due(2, "point", 2, 0xDFFF).due(3, "point", 2, 0xDBFF)
            .holds(2, "\uD800\uDFFF\uDBFF");
    }

    static void promise4_below0IsBad() {
        rich().refusedFor(BAD, 1, BELOW_0, "point", 0, 0);
    }

    static void promise4_above10FFFFIsBad() {
        rich().refusedFor(BAD, 1, new int[] {0x110000, 0x110001, MAX}, "point", 0, 0);
    }

    static void promise4_noSuchTextIsBad() {
        rich().noSuchText(0, "point", 0, 5);
    }

    static void promise4_the240thUnitIsTaken() {
        rich().alike('a', 239).due(240, "point", 4, 0xFFFF).due(0xFFFF, "at", 4, 239);
        rich().alike('a', 238).due(240, "point", 4, 0x10000).due(0xDC00, "at", 4, 239);
    }

    static void promise4_theSecondUnitAbove240IsFull() {
        rich().alike('a', 239).refused(FULL, "point", 4, 0x10000).due(239, "length", 4);
    }

    static void promise4_aTextOf240IsFull() {
        rich().alike('a', 240).refused(FULL, "point", 4, 0).refused(FULL, "point", 4, 0x10FFFF);
    }

    static void promise4_badComesAheadOfFull() {
        rich().alike('a', 240).refused(BAD, "point", 4, -1).refused(BAD, "point", 4, 0x110000);
    }

    // ---- 5: copy

    static void promise5_aWholeTextIsCopied() {
        rich().due(4, "copy", 0, 0, 5).holds(4, "abaab");
    }

    static void promise5_aTextOfNoUnitsIsCopied() {
        rich().due(4, "copy", 2, 0, 0).holds(4, "");
    }

    static void promise5_aTextOf240IsCopied() {
        rich().rising(1000, 240).due(5, "copy", 4, 0, 240).due(0, "order", 4, 5, false).due(240, "length", 5);
    }

    static void promise5_partsOfNoUnitsAreCopied() {
        rich().due(4, "copy", 0, 0, 0).due(5, "copy", 0, 3, 3).due(6, "copy", 0, 5, 5)
            .holds(4, "").holds(5, "").holds(6, "");
    }

    static void promise5_theFirstAndTheLastUnitAreCopied() {
        rich().due(4, "copy", 0, 0, 1).due(5, "copy", 0, 4, 5).holds(4, "a").holds(5, "b");
    }

    static void promise5_fromBelow0IsBad() {
        rich().refusedFor(BAD, 1, BELOW_0, "copy", 0, 0, 2);
    }

    static void promise5_toBehindTheEndIsBad() {
        rich().refusedFor(BAD, 2, new int[] {6, 7, 240, 241, MAX}, "copy", 0, 0, 0).refused(BAD, "copy", 2, 0, 1);
    }

    static void promise5_fromAboveToIsBad() {
        rich().refused(BAD, "copy", 0, 1, 0).refused(BAD, "copy", 0, 5, 4).refused(BAD, "copy", 0, 0, -1)
            .refused(BAD, "copy", 0, MAX, MIN);
    }

    static void promise5_aPartOfNoUnitsBehindTheEndIsBad() {
        rich().refused(BAD, "copy", 0, 6, 6).refused(BAD, "copy", 0, -1, -1).refused(BAD, "copy", 2, 1, 1);
    }

    static void promise5_noSuchTextIsBad() {
        rich().noSuchText(0, "copy", 0, 0, 0);
    }

    static void promise5_the40thTextIsACopy() {
        rich().until(39).due(39, "copy", 0, 0, 5).holds(39, "abaab");
    }

    static void promise5_the41stTextIsFull() {
        richAndFull().refused(FULL, "copy", 0, 0, 5).refused(FULL, "copy", 2, 0, 0);
    }

    static void promise5_badComesAheadOfFull() {
        richAndFull().refused(BAD, "copy", 0, 0, 6).refused(BAD, "copy", 40, 0, 0).refused(BAD, "copy", 0, 3, 2);
    }

    static void promise5_theCopyStaysAsTheTextChanges() {
        rich().due(4, "copy", 0, 0, 5).due(0, "remove", 0, 0, 5).holds(4, "abaab")
            .due(4, "remove", 4, 0, 1).holds(0, "");
    }

    // ---- 6: append

    static void promise6_aWholeTextIsAppended() {
        rich().due(7, "append", 1, 0, 0, 5).holds(1, "ababaab").holds(0, "abaab");
    }

    static void promise6_aTextOfNoUnitsTakesAPart() {
        rich().due(2, "append", 2, 0, 3, 5).holds(2, "ab");
    }

    static void promise6_partsOfNoUnitsAddNothing() {
        rich().due(2, "append", 1, 0, 0, 0).due(2, "append", 1, 0, 5, 5).due(2, "append", 1, 2, 0, 0).holds(1, "ab");
    }

    static void promise6_aTextIsAppendedToItselfAsItIs() {
        rich().due(10, "append", 0, 0, 0, 5).holds(0, "abaababaab").due(11, "append", 0, 0, 9, 10)
            .due(22, "append", 0, 0, 0, 11).holds(0, "abaababaabb" + "abaababaabb");
    }

    static void promise6_fromBelow0IsBad() {
        rich().refusedFor(BAD, 2, BELOW_0, "append", 1, 0, 0, 2);
    }

    static void promise6_toBehindTheEndOfSIsBad() {
        rich().refusedFor(BAD, 3, new int[] {6, 240, MAX}, "append", 1, 0, 0, 0).refused(BAD, "append", 0, 1, 0, 3)
            .refused(BAD, "append", 0, 2, 0, 1);
    }

    static void promise6_fromAboveToIsBad() {
        rich().refused(BAD, "append", 1, 0, 1, 0).refused(BAD, "append", 1, 0, 5, 4)
            .refused(BAD, "append", 1, 0, 0, -1).refused(BAD, "append", 1, 0, MAX, MIN);
    }

    static void promise6_aPartOfNoUnitsBehindTheEndIsBad() {
        rich().refused(BAD, "append", 0, 1, 3, 3).refused(BAD, "append", 0, 1, -1, -1);
    }

    static void promise6_noSuchTextTIsBad() {
        rich().noSuchText(0, "append", 0, 1, 0, 0);
    }

    static void promise6_noSuchTextSIsBad() {
        rich().noSuchText(1, "append", 0, 1, 0, 0);
    }

    static void promise6_240UnitsAreTaken() {
        rich().alike('z', 235).due(240, "append", 4, 0, 0, 5).due('b', "at", 4, 239);
        rich().rising(1000, 120).due(240, "append", 4, 4, 0, 120).due(1000, "at", 4, 120).due(1119, "at", 4, 239);
    }

    static void promise6_above240IsFull() {
        rich().alike('z', 236).refused(FULL, "append", 4, 0, 0, 5).due(236, "length", 4);
        rich().alike('z', 121).refused(FULL, "append", 4, 4, 0, 120);
        rich().alike('z', 240).refused(FULL, "append", 4, 4, 0, 240).refused(FULL, "append", 4, 3, 0, 1);
    }

    static void promise6_aFullTextTakesAPartOfNoUnits() {
        rich().alike('z', 240).due(240, "append", 4, 0, 2, 2).due(240, "append", 4, 4, 240, 240);
    }

    static void promise6_badComesAheadOfFull() {
        rich().alike('z', 240).refused(BAD, "append", 4, 0, 0, 6).refused(BAD, "append", 4, 4, 0, 241)
            .refused(BAD, "append", 4, 5, 0, 0);
    }

    // ---- 7: reversed

    static void promise7_aTextOfNoUnitsIsReversed() {
        rich().due(4, "reversed", 2).holds(4, "");
    }

    static void promise7_aTextOfOneUnitIsReversed() {
        rich().due(4, "reversed", 3).holds(4, "a");
    }

    static void promise7_aTextOf240IsReversed() {
        rich().rising(1000, 240).due(5, "reversed", 4).due(240, "length", 5).due(1239, "at", 5, 0)
            .due(1000, "at", 5, 239).due(6, "reversed", 5).due(0, "order", 4, 6, false);
    }

    static void promise7_unitsAreTurnedNotPoints() {
        rich().due(2, "point", 2, 0x10000).due(4, "reversed", 2).holds(4, "\uDC00\uD800").holds(2, "\uD800\uDC00");
    }

    static void promise7_noSuchTextIsBad() {
        rich().noSuchText(0, "reversed", 0);
    }

    static void promise7_the40thTextIsAReversal() {
        rich().until(39).due(39, "reversed", 0).holds(39, "baaba");
    }

    static void promise7_the41stTextIsFull() {
        richAndFull().refused(FULL, "reversed", 0).refused(FULL, "reversed", 2);
    }

    static void promise7_badComesAheadOfFull() {
        richAndFull().refused(BAD, "reversed", 40).refused(BAD, "reversed", -1);
    }

    // ---- 8: insert

    static void promise8_aheadOfPlace0() {
        rich().due(6, "insert", 0, 0, 'z').holds(0, "zabaab");
    }

    static void promise8_aheadOfTheLastPlace() {
        rich().due(6, "insert", 0, 4, 'z').holds(0, "abaazb");
    }

    static void promise8_behindTheLastUnit() {
        rich().due(6, "insert", 0, 5, 'z').holds(0, "abaabz");
    }

    static void promise8_intoATextOfNoUnits() {
        rich().due(1, "insert", 2, 0, 'z').holds(2, "z");
    }

    static void promise8_aPlaceBehindLengthIsBad() {
        rich().refusedFor(BAD, 1, new int[] {6, 7, 240, 241, MAX}, "insert", 0, 0, 'z').refused(BAD, "insert", 2, 1, 'z');
    }

    static void promise8_aPlaceBelow0IsBad() {
        rich().refusedFor(BAD, 1, BELOW_0, "insert", 0, 0, 'z');
    }

    static void promise8_theLeastAndTheGreatestUnit() {
        rich().due(1, "insert", 2, 0, 0).due(2, "insert", 2, 1, 65535).holds(2, "\u0000\uFFFF");
    }

    static void promise8_noUnitIsBad() {
        rich().refusedFor(BAD, 2, NO_UNITS, "insert", 0, 0, 0);
    }

    static void promise8_noSuchTextIsBad() {
        rich().noSuchText(0, "insert", 0, 0, 5);
    }

    static void promise8_the240thUnitIsTaken() {
        rich().alike('a', 239).due(240, "insert", 4, 0, 'z').due('z', "at", 4, 0).due('a', "at", 4, 239);
        rich().alike('a', 239).due(240, "insert", 4, 239, 'z').due('z', "at", 4, 239);
    }

    static void promise8_the241stUnitIsFull() {
        rich().alike('a', 240).refused(FULL, "insert", 4, 0, 'z').refused(FULL, "insert", 4, 240, 'z');
    }

    static void promise8_badComesAheadOfFull() {
        rich().alike('a', 240).refused(BAD, "insert", 4, 241, 'z').refused(BAD, "insert", 4, -1, 'z')
            .refused(BAD, "insert", 4, 0, 65536).refused(BAD, "insert", 4, 0, -1);
    }

    // ---- 9: remove

    static void promise9_noUnitsGo() {
        rich().due(5, "remove", 0, 0, 0).due(5, "remove", 0, 4, 0).due(5, "remove", 0, 5, 0).due(0, "remove", 2, 0, 0)
            .holds(0, "abaab");
    }

    static void promise9_allUnitsGo() {
        rich().due(0, "remove", 0, 0, 5).holds(0, "").refused(BAD, "at", 0, 0);
        rich().alike('a', 240).due(0, "remove", 4, 0, 240).due(0, "length", 4);
    }

    static void promise9_theFirstUnitGoes() {
        rich().due(4, "remove", 0, 0, 1).holds(0, "baab");
    }

    static void promise9_theLastUnitGoes() {
        rich().due(4, "remove", 0, 4, 1).holds(0, "abaa").refused(BAD, "at", 0, 4);
    }

    static void promise9_oneMoreThanThereAreIsBad() {
        rich().refused(BAD, "remove", 0, 0, 6).refused(BAD, "remove", 0, 4, 2).refused(BAD, "remove", 0, 5, 1)
            .refused(BAD, "remove", 2, 0, 1);
        rich().alike('a', 240).refused(BAD, "remove", 4, 0, 241).refused(BAD, "remove", 4, 240, 1);
    }

    static void promise9_farTooManyAreBad() {
        rich().refused(BAD, "remove", 0, 1, MAX).refused(BAD, "remove", 0, MAX, MAX).refused(BAD, "remove", 0, MAX, 1)
            .refused(BAD, "remove", 0, 5, MAX);
    }

    static void promise9_nBelow0IsBad() {
        rich().refusedFor(BAD, 2, BELOW_0, "remove", 0, 3, 0).refused(BAD, "remove", 0, 5, -5)
            .refused(BAD, "remove", 0, 6, -1);
    }

    static void promise9_aPlaceBelow0IsBad() {
        rich().refusedFor(BAD, 1, BELOW_0, "remove", 0, 0, 0).refused(BAD, "remove", 0, -1, 1)
            .refused(BAD, "remove", 0, MIN, MAX);
    }

    static void promise9_aPlaceBehindLengthIsBad() {
        rich().refused(BAD, "remove", 0, 6, 0).refused(BAD, "remove", 2, 1, 0).refused(BAD, "remove", 0, MAX, 0);
    }

    static void promise9_noSuchTextIsBad() {
        rich().noSuchText(0, "remove", 0, 0, 0);
    }

    // ---- 10: undo

    static void promise10_noneIsKept() {
        start().refused(NO, "undo").text("").due(1, "undo").refused(NO, "undo").due(0, "count", 2);
        Run run = rich();
        for (int n = 8; n > 0; n--) {
            run.due(n, "count", 2).due(1, "undo");
        }
        run.refused(NO, "undo").due(0, "count", 0).due(2, "count", 1);
    }

    static void promise10_eachKindOfChangeIsTakenBack() {
        rich().takenBack("text").takenBack("units", 0, 4, 5).takenBack("point", 0, 0x10000)
            .takenBack("copy", 0, 1, 4).takenBack("append", 0, 0, 0, 5).takenBack("reversed", 0)
            .takenBack("insert", 0, 0, 'z').takenBack("remove", 0, 1, 3).takenBack("nthPart", 0, 6)
            .takenBack("absent", 0).takenBack("expand").takenBack("unsort");
    }

    static void promise10_eachKindOfChangeIsKept() {
        rich().due(4, "text").due(9, "count", 2).due(6, "units", 0, 1, 5).due(10, "count", 2)
            .due(7, "point", 0, 5).due(11, "count", 2).due(5, "copy", 0, 0, 1).due(12, "count", 2)
            .due(8, "append", 0, 3, 0, 1).due(13, "count", 2).due(6, "reversed", 0).due(14, "count", 2)
            .due(9, "insert", 0, 0, 5).due(15, "count", 2).due(8, "remove", 0, 0, 1).due(16, "count", 2)
            .due(7, "nthPart", 0, 0).due(17, "count", 2).due(8, "absent", 0).due(18, "count", 2)
            .due(9, "expand").due(19, "count", 2).due(10, "unsort").due(20, "count", 2);
    }

    static void promise10_aChangeOfNoUnitsIsKept() {
        rich().due(5, "remove", 0, 2, 0).due(9, "count", 2).due(5, "append", 0, 1, 1, 1).due(10, "count", 2)
            .due(1, "undo").due(1, "undo").due(8, "count", 2).holds(0, "abaab").due(4, "count", 0);
    }

    static void promise10_otherCallsAreNoChanges() {
        rich().due(2, "pattern", 0).due(11, "parts", 0).due(2, "squeeze", 1, 1).due(1, "sort", 1).due(6, "matches", 0)
            .due(3, "forget").due(8, "count", 2).due(1, "undo").due(7, "count", 2);
    }

    static void promise10_aRefusedCallIsNotWhatIsTakenBack() {
        rich().due(6, "units", 0, 1, 'z').due(BAD, "units", 0, 5, 'y').due(BAD, "copy", 0, 0, 9).due(NO, "absent", 2)
            .due(NO, "nthPart", 0, 99).due(9, "count", 2).due(1, "undo").holds(0, "abaab").due(8, "count", 2);
    }

    static void promise10_20ChangesAreKept() {
        Run run = start().rising('a', 0);
        for (int n = 1; n < 20; n++) {
            run.due(n, "units", 0, 1, 'a');
        }
        run.due(20, "count", 2);
        for (int n = 18; n >= 0; n--) {
            run.due(1, "undo").due(n, "length", 0);
        }
        run.due(1, "undo").due(0, "count", 0).refused(NO, "undo");
    }

    static void promise10_the21stChangeBehindIsLost() {
        Run run = start().rising('a', 0);
        for (int n = 1; n <= 20; n++) {
            run.due(n, "units", 0, 1, 'a');
        }
        run.due(20, "count", 2);
        for (int n = 19; n >= 0; n--) {
            run.due(1, "undo").due(n, "length", 0);
        }
        run.refused(NO, "undo").due(1, "count", 0).due(0, "count", 2);
    }

    static void promise10_theLatest20AreKeptBehindManyMore() {
        Run run = start().text("");
        for (int n = 1; n <= 67; n++) {
            run.due(n, "units", 0, 1, n);
        }
        for (int n = 20; n > 0; n--) {
            run.due(n, "count", 2).due(1, "undo");
        }
        run.refused(NO, "undo").holds(0, Run.row(1, 47));
    }

    static void promise10_changesBehindAnUndoTakeItsPlace() {
        Run run = start().text("");
        for (int n = 1; n <= 25; n++) {
            run.due(n, "units", 0, 1, n);
        }
        for (int n = 0; n < 10; n++) {
            run.due(1, "undo");
        }
        run.due(10, "count", 2).holds(0, Run.row(1, 15));
        for (int n = 16; n <= 27; n++) {
            run.due(n, "units", 0, 1, 100 + n);
        }
        run.due(20, "count", 2);
        for (int n = 26; n >= 7; n--) {
            run.due(1, "undo").due(n, "length", 0);
        }
        run.refused(NO, "undo").holds(0, Run.row(1, 7));
    }

    static void promise10_anUndoIsNoChange() {
        rich().due(1, "undo").due(7, "count", 2).due(1, "undo").due(6, "count", 2).due(3, "count", 0);
    }

    static void promise10_aTextOf240ComesBack() {
        start().rising(1000, 240).due(0, "remove", 0, 0, 240).due(1, "undo").holds(0, Run.row(1000, 240))
            .due(239, "remove", 0, 100, 1).due(1, "undo").due(1100, "at", 0, 100).due(240, "length", 0);
    }

    static void promise10_patternsAndWhatWasFoundStay() {
        rich().due(2, "pattern", 0).due(6, "matches", 0).due(1, "undo").due(1, "undo").due(1, "undo").due(3, "count", 1)
            .due(2, "match", 2, 1).due(2, "run", 0, 0).due(0, "word", 0).due(1, "script", 0, 0).due(0, "pair", 0, 0)
            .due(1, "squeezed", 3, 0).due('b', "sorted", 0);
    }

    public static void main(String[] args) throws IllegalAccessException {
        check(MakingBoundsTest.class, 1, 10);
    }
}
