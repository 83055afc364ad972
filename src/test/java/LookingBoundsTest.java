/** Boundary cases of promises 11 to 17: UNITS, POINTS and HALVES of TEXTS, their order, equal parts. */
public final class LookingBoundsTest extends Bounds {

    /** The UNITS at the edges of those that make pairs. */
    private static final String EDGES = "\uD7FF\uD800\uDBFF\uDC00\uDFFF\uE000";

    // ---- 11: at

    static void promise11_theFirstAndTheLastPlace() {
        rich().due('a', "at", 0, 0).due('b', "at", 0, 4).due('a', "at", 3, 0);
    }

    static void promise11_thePlaceAtLengthIsBad() {
        rich().refused(BAD, "at", 0, 5).refused(BAD, "at", 3, 1);
    }

    static void promise11_placesFartherOnAreBad() {
        rich().refusedFor(BAD, 1, new int[] {6, 239, 240, 241, MAX}, "at", 0, 0);
    }

    static void promise11_placesBelow0AreBad() {
        rich().refusedFor(BAD, 1, BELOW_0, "at", 0, 0);
    }

    static void promise11_aTextOfNoUnitsHasNoPlace() {
        rich().refused(BAD, "at", 2, 0);
    }

    static void promise11_the240thPlaceIsTheLast() {
        rich().rising(1000, 240).due(1239, "at", 4, 239).refused(BAD, "at", 4, 240);
    }

    static void promise11_placesThatWereTakenOutAreBad() {
        rich().due(2, "remove", 0, 2, 3).due('b', "at", 0, 1).refused(BAD, "at", 0, 2).refused(BAD, "at", 0, 4);
    }

    static void promise11_theLeastAndTheGreatestUnit() {
        rich().text("\u0000\uFFFF\u7FFF\u8000").due(0, "at", 4, 0).due(65535, "at", 4, 1).due(32767, "at", 4, 2)
            .due(32768, "at", 4, 3);
    }

    static void promise11_noSuchTextIsBad() {
        rich().noSuchText(0, "at", 0, 0);
    }

    // ---- 12: length

    static void promise12_noUnits() {
        rich().due(0, "length", 2);
    }

    static void promise12_240Units() {
        rich().alike('a', 240).due(240, "length", 4);
    }

    static void promise12_aPointOfTwoUnitsCountsTwice() {
        rich().due(2, "point", 2, 0x10FFFF).due(2, "length", 2);
    }

    static void promise12_noSuchTextIsBad() {
        rich().noSuchText(0, "length", 0);
    }

    static void promise12_the40thTextIsTheLast() {
        richAndFull().due(0, "length", 39).refused(BAD, "length", 40);
    }

    // ---- 13: points

    static void promise13_noUnitsAreNoPoints() {
        rich().due(0, "points", 2);
    }

    static void promise13_whichTwoUnitsAreOnePoint() {
        for (char first : EDGES.toCharArray()) {
            for (char second : EDGES.toCharArray()) {
                boolean high = first == 0xD800 || first == 0xDBFF;
                boolean low = second == 0xDC00 || second == 0xDFFF;
                start().text("" + first + second).due(high && low ? 1 : 2, "points", 0);
            }
        }
    }

    static void promise13_aFirstUnitOfAPairAtTheEndIsOnePoint() {
        start().text("a\uD800").due(2, "points", 0).text("\uDBFF").due(1, "points", 1);
    }

    static void promise13_aSecondUnitThatWasTakenOutIsNotSeen() {
        start().text("a\uD800\uDC00").due(2, "points", 0).due(2, "remove", 0, 2, 1).due(2, "points", 0)
            .due(0xD800, "pointAt", 0, 1);
    }

    static void promise13_pairsAreTakenFromTheLeft() {
        start().text("\uD800\uD800\uDC00").due(2, "points", 0).text("\uD800\uDC00\uDC00").due(2, "points", 1)
            .text("\uD800\uDC00\uD800\uDC00").due(2, "points", 2).text("\uDC00\uD800\uDC00\uD800").due(3, "points", 3);
    }

    static void promise13_240UnitsMayBe120Points() {
        Run run = start().text("\uD800\uDC00");
        for (int size = 2; size < 240; size = Math.min(2 * size, 240)) {
            run.call("append", 0, 0, 0, Math.min(size, 240 - size));
        }
        run.due(240, "length", 0).due(120, "points", 0).due(0x10000, "pointAt", 0, 119).due(NONE, "pointAt", 0, 120);
    }

    static void promise13_240UnitsMayBe240Points() {
        start().alike(0xD800, 240).due(240, "points", 0).alike(0xFFFF, 240).due(240, "points", 1);
    }

    static void promise13_noSuchTextIsBad() {
        rich().noSuchText(0, "points", 0);
    }

    // ---- 14: pointAt

    static void promise14_thePairsAtTheEdges() {
        start().text("\uD800\uDC00\uD800\uDFFF\uDBFF\uDC00\uDBFF\uDFFF").due(0x10000, "pointAt", 0, 0)
            .due(0x103FF, "pointAt", 0, 1).due(0x10FC00, "pointAt", 0, 2).due(0x10FFFF, "pointAt", 0, 3);
    }

    static void promise14_everyOtherUnitIsOneOfItself() {
        start().text("\u0000\uD7FF\uDC00\uE000\uFFFF\uDFFF\uD800").due(0, "pointAt", 0, 0)
            .due(0xD7FF, "pointAt", 0, 1).due(0xDC00, "pointAt", 0, 2).due(0xE000, "pointAt", 0, 3)
            .due(0xFFFF, "pointAt", 0, 4).due(0xDFFF, "pointAt", 0, 5).due(0xD800, "pointAt", 0, 6);
    }

    static void promise14_whatComesBehindAPairIsCountedOn() {
        start().text("a\uD800\uDC00b").due('a', "pointAt", 0, 0).due(0x10000, "pointAt", 0, 1).due('b', "pointAt", 0, 2)
            .due(NONE, "pointAt", 0, 3);
    }

    static void promise14_behindTheLastPointThereIsNone() {
        rich().due('b', "pointAt", 0, 4).refused(NONE, "pointAt", 0, 5).refused(NONE, "pointAt", 0, MAX)
            .text("\uD800\uDC00").refused(NONE, "pointAt", 4, 1);
    }

    static void promise14_kBelow0IsNone() {
        rich().refusedFor(NONE, 1, BELOW_0, "pointAt", 0, 0);
    }

    static void promise14_aTextOfNoUnitsHasNone() {
        rich().refused(NONE, "pointAt", 2, 0).refused(NONE, "pointAt", 2, -1);
    }

    static void promise14_badComesAheadOfNone() {
        rich().refused(BAD, "pointAt", 4, 0).refused(BAD, "pointAt", -1, -1).refused(BAD, "pointAt", 4, MAX);
    }

    static void promise14_noSuchTextIsBad() {
        rich().noSuchText(0, "pointAt", 0, 0);
    }

    // ---- 15: half

    static void promise15_whichUnitsAreHalves() {
        for (char unit : EDGES.toCharArray()) {
            boolean half = unit >= 0xD800 && unit <= 0xDFFF;
            start().text("" + unit).due(half ? 0 : NONE, "half", 0, 0).text("a" + unit + "a")
                .due(half ? 1 : NONE, "half", 1, 0);
        }
    }

    static void promise15_unitsOfAPairAreNoHalves() {
        start().text("\uD800\uDC00\uDBFF\uDFFF").refused(NONE, "half", 0, 0);
    }

    static void promise15_halvesBesideAPair() {
        start().text("\uD800\uD800\uDC00\uDC00").due(0, "half", 0, 0).due(3, "half", 0, 1).refused(NONE, "half", 0, 2);
    }

    static void promise15_turnedUnitsAreTwoHalves() {
        start().text("\uDFFF\uDBFF").due(0, "half", 0, 0).due(1, "half", 0, 1).refused(NONE, "half", 0, 2);
    }

    static void promise15_aHalfAtTheEndOf240() {
        start().alike('a', 239).due(240, "units", 0, 1, 0xD800).due(239, "half", 0, 0);
        start().alike(0xDC00, 240).due(239, "half", 0, 239).due(NONE, "half", 0, 240);
    }

    static void promise15_whatWasTakenOutMakesNoPair() {
        start().text("\uD800\uDC00").due(NONE, "half", 0, 0).due(1, "remove", 0, 1, 1).due(0, "half", 0, 0);
    }

    static void promise15_kBelow0IsNone() {
        rich().text("\uD800").refusedFor(NONE, 1, BELOW_0, "half", 4, 0);
    }

    static void promise15_withoutHalvesThereIsNone() {
        rich().refused(NONE, "half", 0, 0).refused(NONE, "half", 2, 0).refused(NONE, "half", 0, MAX);
    }

    static void promise15_badComesAheadOfNone() {
        rich().refused(BAD, "half", 4, -1).refused(BAD, "half", -1, MAX);
    }

    static void promise15_noSuchTextIsBad() {
        rich().noSuchText(0, "half", 0, 0);
    }

    // ---- 16: order

    private static void ordered(String less, String more, boolean byPoints) {
        start().text(less).text(more).due(-1, "order", 0, 1, byPoints).due(1, "order", 1, 0, byPoints)
            .due(0, "order", 0, 0, byPoints).due(0, "order", 1, 1, byPoints);
    }

    static void promise16_noUnitsAreLessThanAny() {
        ordered("", "\u0000", false);
        ordered("", "\u0000", true);
    }

    static void promise16_noUnitsAreTheSameAsNoUnits() {
        start().text("").text("").due(0, "order", 0, 1, false).due(0, "order", 0, 1, true);
    }

    static void promise16_whatTheOtherBeginsWithIsLess() {
        ordered("ab", "ab\u0000", false);
        ordered("ab", "ab\u0000", true);
        ordered(Run.row(1000, 239), Run.row(1000, 240), false);
        ordered(Run.row(1000, 239), Run.row(1000, 240), true);
    }

    static void promise16_theFirstUnlikeUnitDecides() {
        ordered("abzz", "acaa", false);
        ordered("a", "b", true);
        ordered("azzz", "b", false);
        ordered("azzz", "b", true);
    }

    static void promise16_unitsAreComparedAsNumbersFrom0To65535() {
        ordered("\u0000", "\uFFFF", false);
        ordered("\u7FFF", "\u8000", false);
        ordered("\u7FFF", "\u8000", true);
        ordered("\uFFFE", "\uFFFF", true);
    }

    static void promise16_pairsAreMoreByPointsAndLessByUnits() {
        ordered("\uD800\uDC00", "\uE000", false);
        ordered("\uE000", "\uD800\uDC00", true);
        ordered("\uDBFF\uDFFF", "\uFFFF", false);
        ordered("\uFFFF", "\uD800\uDC00", true);
    }

    static void promise16_aHalfIsLessThanAPairThatItBegins() {
        ordered("\uD800", "\uD800\uDC00", false);
        ordered("\uD800", "\uD800\uDC00", true);
        ordered("\uD800\uE000", "\uD800\uDC00", true);
        ordered("\uD800\uDC00", "\uD800\uE000", false);
        ordered("\uDC00", "\uD800\uDC00", true);
    }

    static void promise16_behindLikePairs() {
        ordered("\uD800\uDC00\uFFFF", "\uD800\uDC00\uD800\uDC00", true);
        ordered("\uD800\uDC00", "\uD800\uDC01", true);
        ordered("\uD800\uDC00", "\uD800\uDC00\uDC00", true);
    }

    static void promise16_textsOf240UnlikeInTheLastUnit() {
        ordered(Run.row(1000, 239) + "a", Run.row(1000, 239) + "b", false);
        ordered(Run.row(1000, 239) + "a", Run.row(1000, 239) + "b", true);
    }

    static void promise16_whatWasTakenOutIsNotCompared() {
        for (boolean byPoints : new boolean[] {false, true}) {
            start().text("abz").text("aba").due(2, "remove", 0, 2, 1).due(-1, "order", 0, 1, byPoints)
                .due(1, "order", 1, 0, byPoints).text("abz").due(-1, "order", 0, 2, byPoints);
        }
    }

    static void promise16_likeTextsAreTheSame() {
        rich().due(4, "copy", 0, 0, 5).due(0, "order", 0, 4, false).due(0, "order", 4, 0, true);
    }

    static void promise16_noSuchTextTIsBad() {
        rich().noSuchText(0, "order", 0, 1, false).noSuchText(0, "order", 0, 1, true);
    }

    static void promise16_noSuchTextSIsBad() {
        rich().noSuchText(1, "order", 0, 1, false).noSuchText(1, "order", 0, 1, true);
    }

    // ---- 17: equalParts

    static void promise17_noUnitsAreTheSame() {
        rich().due(1, "equalParts", 0, 0, 1, 1, 0).due(1, "equalParts", 0, 5, 1, 2, 0).due(1, "equalParts", 2, 0, 2, 0, 0)
            .due(1, "equalParts", 0, 1, 2, 0, 0);
    }

    static void promise17_wholeTexts() {
        rich().due(1, "equalParts", 0, 0, 0, 0, 5).due(1, "equalParts", 1, 0, 0, 3, 2);
        start().rising(1000, 240).due(1, "copy", 0, 0, 240).due(1, "equalParts", 0, 0, 1, 0, 240)
            .due(239, "remove", 1, 239, 1).due(240, "units", 1, 1, 'z').due(0, "equalParts", 0, 0, 1, 0, 240)
            .due(1, "equalParts", 0, 0, 1, 0, 239);
    }

    static void promise17_theFirstOrTheLastUnitIsAnother() {
        start().text("abc").text("xbc").text("abx").due(0, "equalParts", 0, 0, 1, 0, 3)
            .due(0, "equalParts", 0, 0, 2, 0, 3).due(1, "equalParts", 0, 1, 1, 1, 2).due(1, "equalParts", 0, 0, 2, 0, 2);
    }

    static void promise17_partsOfOneTextMayOverlap() {
        start().text("aaab").due(1, "equalParts", 0, 0, 0, 1, 2).due(0, "equalParts", 0, 0, 0, 1, 3);
    }

    static void promise17_notSoManyInTAreBad() {
        rich().refused(BAD, "equalParts", 1, 0, 0, 0, 3).refused(BAD, "equalParts", 1, 2, 0, 0, 1)
            .refused(BAD, "equalParts", 1, 1, 0, 0, MAX).refused(BAD, "equalParts", 2, 0, 0, 0, 1);
    }

    static void promise17_notSoManyInSAreBad() {
        rich().refused(BAD, "equalParts", 0, 0, 1, 0, 3).refused(BAD, "equalParts", 0, 0, 1, 2, 1)
            .refused(BAD, "equalParts", 0, 1, 1, 1, MAX).refused(BAD, "equalParts", 0, 0, 2, 0, 1);
    }

    static void promise17_badThoughUnitsAheadAreUnlike() {
        start().text("abc").text("xb").refused(BAD, "equalParts", 0, 0, 1, 0, 3);
    }

    static void promise17_nBelow0IsBad() {
        rich().refusedFor(BAD, 4, BELOW_0, "equalParts", 0, 1, 1, 1, 0);
    }

    static void promise17_placesBelow0AreBad() {
        rich().refusedFor(BAD, 1, BELOW_0, "equalParts", 0, 0, 1, 0, 0)
            .refusedFor(BAD, 3, BELOW_0, "equalParts", 0, 0, 1, 0, 0).refused(BAD, "equalParts", 0, MIN, 1, 0, MAX);
    }

    static void promise17_placesBehindLengthAreBad() {
        rich().refusedFor(BAD, 1, new int[] {6, MAX}, "equalParts", 0, 0, 1, 0, 0)
            .refusedFor(BAD, 3, new int[] {3, MAX}, "equalParts", 0, 0, 1, 0, 0);
    }

    static void promise17_noSuchTextTIsBad() {
        rich().noSuchText(0, "equalParts", 0, 0, 1, 0, 0);
    }

    static void promise17_noSuchTextSIsBad() {
        rich().noSuchText(2, "equalParts", 0, 0, 1, 0, 0);
    }

    public static void main(String[] args) throws IllegalAccessException {
        check(LookingBoundsTest.class, 11, 17);
    }
}
