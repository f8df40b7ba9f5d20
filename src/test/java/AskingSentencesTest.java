/** Promises 23 to 38, sentence by sentence: what is asked of sheets. */
public final class AskingSentencesTest {
    private static final Class<?> INDEX = Case.INDEX;
    private static final Class<?> ARGUMENT = Case.ARGUMENT;
    private static final int LOWEST = Case.LOWEST;
    private static final int HIGHEST = Case.HIGHEST;
    /** The full word of twos. */
    private static final String TWOS = twos();

    private static String a(int many) {
        return Case.a(many);
    }

    private static String b(int many) {
        return Case.b(many);
    }

    private static String twos() {
        StringBuilder word = new StringBuilder();
        for (int place = 0; place < 64; place++) {
            word.append(Integer.bitCount(place) % 2 == 0 ? 'a' : 'b');
        }
        return word.toString();
    }

    private interface Asked {
        Object of(Wordgarden garden, int sheet);
    }

    /** The answer for the word is the same, whichever sheet it is on. */
    private static void of(String word, Asked asked, Object due) {
        for (int sheet = 0; sheet < 3; sheet++) {
            int on = sheet;
            Case.onSheet(on, word).tells(g -> asked.of(g, on), due);
        }
    }

    // Promise 23: length

    static void p23_ofAnEmptyOne() {
        of("", Wordgarden::length, 0);
    }

    static void p23_ofOneBetween() {
        of("b", Wordgarden::length, 1);
        of("abb", Wordgarden::length, 3);
    }

    static void p23_ofAFullOne() {
        of(a(63), Wordgarden::length, 63);
        of(a(64), Wordgarden::length, 64);
    }

    static void p23_noSheetBelow0() {
        Case.on("b").fails(INDEX, g -> g.length(-1)).fails(INDEX, g -> g.length(LOWEST));
    }

    static void p23_noSheetAbove2() {
        Case.on("b").fails(INDEX, g -> g.length(3)).fails(INDEX, g -> g.length(HIGHEST));
    }

    // Promise 24: isB

    static void p24_trueIfABStandsThere() {
        of("aba", (g, sheet) -> g.isB(sheet, 1), true);
    }

    static void p24_falseIfAnAStandsThere() {
        of("bab", (g, sheet) -> g.isB(sheet, 1), false);
    }

    static void p24_place0() {
        of("baa", (g, sheet) -> g.isB(sheet, 0), true);
        of("abb", (g, sheet) -> g.isB(sheet, 0), false);
    }

    static void p24_theLastPlace() {
        of("aab", (g, sheet) -> g.isB(sheet, 2), true);
        of("bba", (g, sheet) -> g.isB(sheet, 2), false);
    }

    static void p24_place63OfAFullOne() {
        of(a(63) + "b", (g, sheet) -> g.isB(sheet, 63), true);
        of(b(63) + "a", (g, sheet) -> g.isB(sheet, 63), false);
    }

    static void p24_placeLengthIsNotLet() {
        Case.on("aab").fails(INDEX, g -> g.isB(0, 3)).fails(INDEX, g -> g.isB(0, 4)).fails(INDEX, g -> g.isB(0, 63))
                .fails(INDEX, g -> g.isB(0, HIGHEST));
    }

    static void p24_place64OfAFullOneIsNotLet() {
        Case.on(a(64)).fails(INDEX, g -> g.isB(0, 64)).fails(INDEX, g -> g.isB(0, 65));
    }

    static void p24_placeBelow0IsNotLet() {
        Case.on("aab").fails(INDEX, g -> g.isB(0, -1)).fails(INDEX, g -> g.isB(0, LOWEST));
    }

    static void p24_anEmptyOneHasNoPlace() {
        Case.on("").fails(INDEX, g -> g.isB(0, 0));
    }

    static void p24_whatWasCutOffIsNoPlace() {
        Case.on("bbb").acts(g -> g.cutTo(0, 1), 3, 0, "b").fails(INDEX, g -> g.isB(0, 1)).fails(INDEX, g -> g.isB(0, 2));
    }

    static void p24_noSheetBelow0() {
        Case.on("b").fails(INDEX, g -> g.isB(-1, 0)).fails(INDEX, g -> g.isB(LOWEST, 0));
    }

    static void p24_noSheetAbove2() {
        Case.on("b").fails(INDEX, g -> g.isB(3, 0)).fails(INDEX, g -> g.isB(HIGHEST, 0));
    }

    // Promise 25: text

    static void p25_signsAsAAndB() {
        of("abbab", Wordgarden::text, "abbab");
    }

    static void p25_ofAnEmptyOne() {
        of("", Wordgarden::text, "");
    }

    static void p25_ofAFullOne() {
        of(TWOS, Wordgarden::text, TWOS);
    }

    static void p25_noSheetBelow0() {
        Case.on("b").fails(INDEX, g -> g.text(-1)).fails(INDEX, g -> g.text(LOWEST));
    }

    static void p25_noSheetAbove2() {
        Case.on("b").fails(INDEX, g -> g.text(3)).fails(INDEX, g -> g.text(HIGHEST));
    }

    // Promise 26: count

    static void p26_bsAreCounted() {
        of("abbab", (g, sheet) -> g.count(sheet, true), 3);
    }

    static void p26_otherwiseAs() {
        of("abbab", (g, sheet) -> g.count(sheet, false), 2);
    }

    static void p26_ofAnEmptyOne() {
        of("", (g, sheet) -> g.count(sheet, true), 0);
        of("", (g, sheet) -> g.count(sheet, false), 0);
    }

    static void p26_ofAFullOne() {
        of(b(64), (g, sheet) -> g.count(sheet, true), 64);
        of(b(64), (g, sheet) -> g.count(sheet, false), 0);
        of(a(64), (g, sheet) -> g.count(sheet, true), 0);
        of(a(64), (g, sheet) -> g.count(sheet, false), 64);
    }

    static void p26_whatWasCutOffDoesNotCount() {
        Case.on("bbb").acts(g -> g.cutTo(0, 1), 3, 0, "b").tells(g -> g.count(0, true), 1).tells(g -> g.count(0, false), 0);
    }

    static void p26_noSheetBelow0() {
        Case.on("b").fails(INDEX, g -> g.count(-1, true)).fails(INDEX, g -> g.count(LOWEST, false));
    }

    static void p26_noSheetAbove2() {
        Case.on("b").fails(INDEX, g -> g.count(3, true)).fails(INDEX, g -> g.count(HIGHEST, false));
    }

    // Promise 27: find

    static void p27_theLeastPlace() {
        Case.on("abaabaab", "aab", "").tells(g -> g.find(0, 1, 0), 2);
    }

    static void p27_fromThatPlaceOn() {
        Case.on("abaabaab", "aab", "").tells(g -> g.find(0, 1, 2), 2).tells(g -> g.find(0, 1, 3), 5)
                .tells(g -> g.find(0, 1, 5), 5);
    }

    static void p27_minus1IfThereIsNone() {
        Case.on("abaabaab", "aab", "bb").tells(g -> g.find(0, 1, 6), -1).tells(g -> g.find(0, 2, 0), -1);
    }

    static void p27_atPlace0() {
        Case.on("abb", "ab", "").tells(g -> g.find(0, 1, 0), 0).tells(g -> g.find(0, 1, 1), -1);
    }

    static void p27_onesThatLapOver() {
        Case.on("aaaa", "aa", "").tells(g -> g.find(0, 1, 1), 1).tells(g -> g.find(0, 1, 2), 2).tells(g -> g.find(0, 1, 3), -1);
    }

    static void p27_theRingIsNotMeant() {
        Case.on("baa", "ab", "").tells(g -> g.find(0, 1, 0), -1).tells(g -> g.find(0, 1, 2), -1);
    }

    static void p27_fromLengthIsLet() {
        Case.on("abb", "b", "").tells(g -> g.find(0, 1, 3), -1);
    }

    static void p27_anEmptyOneStandsAtEachPlace() {
        Case.on("abb", "", "").tells(g -> g.find(0, 1, 0), 0).tells(g -> g.find(0, 1, 1), 1).tells(g -> g.find(0, 1, 2), 2)
                .tells(g -> g.find(0, 1, 3), 3);
    }

    static void p27_inAnEmptyOne() {
        Case.on("", "", "a").tells(g -> g.find(0, 1, 0), 0).tells(g -> g.find(0, 0, 0), 0).tells(g -> g.find(0, 2, 0), -1);
    }

    static void p27_aLongerOneIsNotThere() {
        Case.on("ab", "abb", "").tells(g -> g.find(0, 1, 0), -1);
        Case.on("ab", "ab" + a(62), "").tells(g -> g.find(0, 1, 0), -1);
    }

    static void p27_theSameSheetIsLet() {
        Case.on("abb").tells(g -> g.find(0, 0, 0), 0).tells(g -> g.find(0, 0, 1), -1).tells(g -> g.find(0, 0, 3), -1);
    }

    static void p27_inAFullOne() {
        Case.on(a(63) + "b", "b", a(63) + "b").tells(g -> g.find(0, 1, 0), 63).tells(g -> g.find(0, 1, 64), -1)
                .tells(g -> g.find(0, 2, 0), 0).tells(g -> g.find(0, 0, 0), 0);
    }

    static void p27_theLastFullPlaceOfAnEmptyOne() {
        Case.on(a(64), "", "").tells(g -> g.find(0, 1, 64), 64).fails(INDEX, g -> g.find(0, 1, 65));
    }

    static void p27_whatWasCutOffIsNotFound() {
        Case.on("abab", "ab", "").acts(g -> g.cutTo(0, 3), 4, 0, "aba").tells(g -> g.find(0, 1, 1), -1);
    }

    static void p27_fromBelow0IsNotLet() {
        Case.on("abb").fails(INDEX, g -> g.find(0, 1, -1)).fails(INDEX, g -> g.find(0, 1, LOWEST));
    }

    static void p27_fromAboveLengthIsNotLet() {
        Case.on("abb").fails(INDEX, g -> g.find(0, 1, 4)).fails(INDEX, g -> g.find(0, 1, 64))
                .fails(INDEX, g -> g.find(0, 1, HIGHEST));
        Case.on("").fails(INDEX, g -> g.find(0, 1, 1));
    }

    static void p27_lengthIsThatOfSheetNotOfOther() {
        Case.on("a", "abb", "").fails(INDEX, g -> g.find(0, 1, 2)).tells(g -> g.find(1, 0, 3), -1);
    }

    static void p27_sheets0To2AreLet() {
        Case.on("ab", "b", "aab").tells(g -> g.find(0, 1, 0), 1).tells(g -> g.find(2, 0, 0), 1).tells(g -> g.find(1, 2, 0), -1)
                .tells(g -> g.find(2, 1, 0), 2);
    }

    static void p27_noSheetBelow0() {
        Case.on("b").fails(INDEX, g -> g.find(-1, 0, 0)).fails(INDEX, g -> g.find(LOWEST, 0, 0));
    }

    static void p27_noSheetAbove2() {
        Case.on("b").fails(INDEX, g -> g.find(3, 0, 0)).fails(INDEX, g -> g.find(HIGHEST, 0, 0));
    }

    static void p27_noOtherBelow0() {
        Case.on("b").fails(INDEX, g -> g.find(0, -1, 0)).fails(INDEX, g -> g.find(0, LOWEST, 0));
    }

    static void p27_noOtherAbove2() {
        Case.on("b").fails(INDEX, g -> g.find(0, 3, 0)).fails(INDEX, g -> g.find(0, HIGHEST, 0));
    }

    // Promise 28: findLast

    static void p28_theGreatestPlace() {
        Case.on("abaabaab", "aab", "").tells(g -> g.findLast(0, 1, 8), 5);
    }

    static void p28_upToThatPlace() {
        Case.on("abaabaab", "aab", "").tells(g -> g.findLast(0, 1, 5), 5).tells(g -> g.findLast(0, 1, 4), 2)
                .tells(g -> g.findLast(0, 1, 2), 2);
    }

    static void p28_minus1IfThereIsNone() {
        Case.on("abaabaab", "aab", "bb").tells(g -> g.findLast(0, 1, 1), -1).tells(g -> g.findLast(0, 2, 8), -1);
    }

    static void p28_atPlace0() {
        Case.on("abb", "ab", "").tells(g -> g.findLast(0, 1, 0), 0).tells(g -> g.findLast(0, 1, 3), 0);
        Case.on("bab", "ab", "").tells(g -> g.findLast(0, 1, 0), -1);
    }

    static void p28_onesThatLapOver() {
        Case.on("aaaa", "aa", "").tells(g -> g.findLast(0, 1, 4), 2).tells(g -> g.findLast(0, 1, 1), 1);
    }

    static void p28_theRingIsNotMeant() {
        Case.on("baa", "ab", "").tells(g -> g.findLast(0, 1, 3), -1).tells(g -> g.findLast(0, 1, 2), -1);
    }

    static void p28_fromLengthIsLet() {
        Case.on("abb", "b", "").tells(g -> g.findLast(0, 1, 3), 2);
    }

    static void p28_anEmptyOneStandsAtEachPlace() {
        Case.on("abb", "", "").tells(g -> g.findLast(0, 1, 0), 0).tells(g -> g.findLast(0, 1, 1), 1)
                .tells(g -> g.findLast(0, 1, 2), 2).tells(g -> g.findLast(0, 1, 3), 3);
    }

    static void p28_inAnEmptyOne() {
        Case.on("", "", "a").tells(g -> g.findLast(0, 1, 0), 0).tells(g -> g.findLast(0, 0, 0), 0)
                .tells(g -> g.findLast(0, 2, 0), -1);
    }

    static void p28_aLongerOneIsNotThere() {
        Case.on("ab", "abb", "").tells(g -> g.findLast(0, 1, 2), -1);
    }

    static void p28_theSameSheetIsLet() {
        Case.on("abb").tells(g -> g.findLast(0, 0, 3), 0).tells(g -> g.findLast(0, 0, 0), 0);
    }

    static void p28_inAFullOne() {
        Case.on("b" + a(62) + "b", "b", "").tells(g -> g.findLast(0, 1, 64), 63).tells(g -> g.findLast(0, 1, 63), 63)
                .tells(g -> g.findLast(0, 1, 62), 0).tells(g -> g.findLast(0, 0, 64), 0);
    }

    static void p28_theLastFullPlaceOfAnEmptyOne() {
        Case.on(a(64), "", "").tells(g -> g.findLast(0, 1, 64), 64).fails(INDEX, g -> g.findLast(0, 1, 65));
    }

    static void p28_whatWasCutOffIsNotFound() {
        Case.on("abab", "ab", "").acts(g -> g.cutTo(0, 3), 4, 0, "aba").tells(g -> g.findLast(0, 1, 3), 0);
    }

    static void p28_fromBelow0IsNotLet() {
        Case.on("abb").fails(INDEX, g -> g.findLast(0, 1, -1)).fails(INDEX, g -> g.findLast(0, 1, LOWEST));
    }

    static void p28_fromAboveLengthIsNotLet() {
        Case.on("abb").fails(INDEX, g -> g.findLast(0, 1, 4)).fails(INDEX, g -> g.findLast(0, 1, 64))
                .fails(INDEX, g -> g.findLast(0, 1, HIGHEST));
        Case.on("").fails(INDEX, g -> g.findLast(0, 1, 1));
    }

    static void p28_lengthIsThatOfSheetNotOfOther() {
        Case.on("a", "abb", "").fails(INDEX, g -> g.findLast(0, 1, 2)).tells(g -> g.findLast(1, 0, 3), 0);
    }

    static void p28_sheets0To2AreLet() {
        Case.on("ab", "b", "aab").tells(g -> g.findLast(0, 1, 2), 1).tells(g -> g.findLast(2, 0, 3), 1)
                .tells(g -> g.findLast(1, 2, 1), -1).tells(g -> g.findLast(2, 1, 3), 2);
    }

    static void p28_noSheetBelow0() {
        Case.on("b").fails(INDEX, g -> g.findLast(-1, 0, 0)).fails(INDEX, g -> g.findLast(LOWEST, 0, 0));
    }

    static void p28_noSheetAbove2() {
        Case.on("b").fails(INDEX, g -> g.findLast(3, 0, 0)).fails(INDEX, g -> g.findLast(HIGHEST, 0, 0));
    }

    static void p28_noOtherBelow0() {
        Case.on("b").fails(INDEX, g -> g.findLast(0, -1, 0)).fails(INDEX, g -> g.findLast(0, LOWEST, 0));
    }

    static void p28_noOtherAbove2() {
        Case.on("b").fails(INDEX, g -> g.findLast(0, 3, 0)).fails(INDEX, g -> g.findLast(0, HIGHEST, 0));
    }

    // Promise 29: order

    static void p29_anAAtTheFirstUnlikePlaceStandsAhead() {
        Case.on("abab", "abba", "").tells(g -> g.order(0, 1), -1).tells(g -> g.order(1, 0), 1);
    }

    static void p29_theFirstUnlikePlaceDecidesNotLength() {
        Case.on("b", "abb", "").tells(g -> g.order(0, 1), 1).tells(g -> g.order(1, 0), -1);
    }

    static void p29_otherwiseTheShorterOne() {
        Case.on("ab", "aba", "abb").tells(g -> g.order(0, 1), -1).tells(g -> g.order(1, 0), 1)
                .tells(g -> g.order(0, 2), -1).tells(g -> g.order(2, 0), 1);
    }

    static void p29_0IfBothAreTheSame() {
        Case.on("abb", "abb", "").tells(g -> g.order(0, 1), 0).tells(g -> g.order(1, 0), 0);
    }

    static void p29_theSameSheetIsLet() {
        Case.on("abb", "", a(64)).tells(g -> g.order(0, 0), 0).tells(g -> g.order(1, 1), 0).tells(g -> g.order(2, 2), 0);
    }

    static void p29_anEmptyOneStandsAhead() {
        Case.on("", "a", "b").tells(g -> g.order(0, 1), -1).tells(g -> g.order(0, 2), -1).tells(g -> g.order(1, 0), 1)
                .tells(g -> g.order(2, 0), 1);
    }

    static void p29_bothEmpty() {
        Case.on("", "", "").tells(g -> g.order(0, 1), 0);
    }

    static void p29_fullOnes() {
        Case.on(a(64), a(63) + "b", a(63)).tells(g -> g.order(0, 1), -1).tells(g -> g.order(1, 0), 1)
                .tells(g -> g.order(2, 0), -1).tells(g -> g.order(0, 2), 1);
        Case.on("b" + a(63), "b" + a(63), "").tells(g -> g.order(0, 1), 0);
    }

    static void p29_longBehindShortAnswersJust1() {
        Case.on("a", a(64), "").tells(g -> g.order(1, 0), 1).tells(g -> g.order(0, 1), -1);
    }

    static void p29_whatWasCutOffDoesNotCount() {
        Case.on("abb", "aba", "").acts(g -> g.cutTo(0, 2), 3, 0, "ab").tells(g -> g.order(0, 1), -1)
                .tells(g -> g.order(1, 0), 1).acts(g -> g.cutTo(1, 2), 3, 1, "ab").tells(g -> g.order(0, 1), 0);
    }

    static void p29_noSheetBelow0() {
        Case.on("b").fails(INDEX, g -> g.order(-1, 0)).fails(INDEX, g -> g.order(LOWEST, 0));
    }

    static void p29_noSheetAbove2() {
        Case.on("b").fails(INDEX, g -> g.order(3, 0)).fails(INDEX, g -> g.order(HIGHEST, 0)).fails(INDEX, g -> g.order(3, 3));
    }

    static void p29_noOtherBelow0() {
        Case.on("b").fails(INDEX, g -> g.order(0, -1)).fails(INDEX, g -> g.order(0, LOWEST)).fails(INDEX, g -> g.order(-1, -1));
    }

    static void p29_noOtherAbove2() {
        Case.on("b").fails(INDEX, g -> g.order(0, 3)).fails(INDEX, g -> g.order(0, HIGHEST));
    }

    // Promise 30: isMirrored

    static void p30_theSameAsItIsTurned() {
        of("abba", Wordgarden::isMirrored, true);
        of("ababa", Wordgarden::isMirrored, true);
    }

    static void p30_anotherWordTurned() {
        of("ab", Wordgarden::isMirrored, false);
        of("abaab", Wordgarden::isMirrored, false);
        of("abbbaa", Wordgarden::isMirrored, false);
    }

    static void p30_onlyTheInnermostPairIsUnlike() {
        of("aababa", Wordgarden::isMirrored, false);
        of("aabbaaa", Wordgarden::isMirrored, false);
    }

    static void p30_anEmptyOneIs() {
        of("", Wordgarden::isMirrored, true);
    }

    static void p30_oneSignIs() {
        of("a", Wordgarden::isMirrored, true);
        of("b", Wordgarden::isMirrored, true);
    }

    static void p30_aFullOne() {
        of("b" + a(62) + "b", Wordgarden::isMirrored, true);
        of("b" + a(63), Wordgarden::isMirrored, false);
        of(a(31) + "b" + a(32), Wordgarden::isMirrored, false);
        of(TWOS, Wordgarden::isMirrored, true);
    }

    static void p30_noSheetBelow0() {
        Case.on("b").fails(INDEX, g -> g.isMirrored(-1)).fails(INDEX, g -> g.isMirrored(LOWEST));
    }

    static void p30_noSheetAbove2() {
        Case.on("b").fails(INDEX, g -> g.isMirrored(3)).fails(INDEX, g -> g.isMirrored(HIGHEST));
    }

    // Promise 31: spread

    static void p31_mostBsLessFewestOfParts() {
        Case.on("abbba").tells(g -> g.spread(0, 2, false), 1).tells(g -> g.spread(0, 3, false), 1)
                .tells(g -> g.spread(0, 1, false), 1);
        Case.on("aabb").tells(g -> g.spread(0, 2, false), 2);
    }

    static void p31_mostBsLessFewestOfRingParts() {
        Case.on("abbba").tells(g -> g.spread(0, 2, true), 2).tells(g -> g.spread(0, 3, true), 2)
                .tells(g -> g.spread(0, 4, true), 1);
    }

    static void p31_theFewestMayBeAbove0() {
        Case.on("babb").tells(g -> g.spread(0, 2, false), 1).tells(g -> g.spread(0, 3, false), 0)
                .tells(g -> g.spread(0, 3, true), 1);
        Case.on("bbb").tells(g -> g.spread(0, 2, false), 0).tells(g -> g.spread(0, 2, true), 0);
    }

    static void p31_theFirstAndTheLastPartCount() {
        Case.on("bbaba").tells(g -> g.spread(0, 2, false), 1);
        Case.on("babaa").tells(g -> g.spread(0, 2, false), 1).tells(g -> g.spread(0, 3, false), 1);
        Case.on("aabab").tells(g -> g.spread(0, 2, false), 1).tells(g -> g.spread(0, 3, false), 1);
        Case.on("ababb").tells(g -> g.spread(0, 2, false), 1).tells(g -> g.spread(0, 3, false), 1);
    }

    static void p31_theLastRingPartCounts() {
        Case.on("baab").tells(g -> g.spread(0, 2, true), 2).tells(g -> g.spread(0, 2, false), 1);
        Case.on("abba").tells(g -> g.spread(0, 2, true), 2);
    }

    static void p31_length0() {
        Case.on("abbba").tells(g -> g.spread(0, 0, false), 0).tells(g -> g.spread(0, 0, true), 0);
    }

    static void p31_theWholeLength() {
        Case.on("abbba").tells(g -> g.spread(0, 5, false), 0).tells(g -> g.spread(0, 5, true), 0);
    }

    static void p31_ofAnEmptyOne() {
        Case.on("").tells(g -> g.spread(0, 0, false), 0).tells(g -> g.spread(0, 0, true), 0);
    }

    static void p31_ofAFullOne() {
        Case.on(a(32) + b(32)).tells(g -> g.spread(0, 32, false), 32).tells(g -> g.spread(0, 64, false), 0)
                .tells(g -> g.spread(0, 64, true), 0).tells(g -> g.spread(0, 63, true), 1).tells(g -> g.spread(0, 0, true), 0);
    }

    static void p31_ringPartsOfAFullOne() {
        Case.on(b(16) + a(32) + b(16)).tells(g -> g.spread(0, 32, true), 32).tells(g -> g.spread(0, 32, false), 16);
    }

    static void p31_ofALineAtMost1() {
        Case.on("aabab").tells(g -> g.spread(0, 1, true), 1).tells(g -> g.spread(0, 2, true), 1)
                .tells(g -> g.spread(0, 3, true), 1).tells(g -> g.spread(0, 4, true), 1);
    }

    static void p31_lengthBelow0IsNotLet() {
        Case.on("abb").fails(ARGUMENT, g -> g.spread(0, -1, false)).fails(ARGUMENT, g -> g.spread(0, -1, true))
                .fails(ARGUMENT, g -> g.spread(0, LOWEST, true));
    }

    static void p31_lengthAboveLengthIsNotLet() {
        Case.on("abb").fails(ARGUMENT, g -> g.spread(0, 4, false)).fails(ARGUMENT, g -> g.spread(0, 4, true))
                .fails(ARGUMENT, g -> g.spread(0, HIGHEST, false)).fails(ARGUMENT, g -> g.spread(0, HIGHEST, true));
        Case.on("").fails(ARGUMENT, g -> g.spread(0, 1, false)).fails(ARGUMENT, g -> g.spread(0, 1, true));
        Case.on(a(64)).fails(ARGUMENT, g -> g.spread(0, 65, false)).fails(ARGUMENT, g -> g.spread(0, 65, true));
    }

    static void p31_sheets0To2AreLet() {
        of("aabb", (g, sheet) -> g.spread(sheet, 2, false), 2);
        of("abba", (g, sheet) -> g.spread(sheet, 2, true), 2);
    }

    static void p31_noSheetBelow0() {
        Case.on("b").fails(INDEX, g -> g.spread(-1, 0, false)).fails(INDEX, g -> g.spread(LOWEST, 0, true));
    }

    static void p31_noSheetAbove2() {
        Case.on("b").fails(INDEX, g -> g.spread(3, 0, false)).fails(INDEX, g -> g.spread(HIGHEST, 0, true));
    }

    static void p31_sheetGoesAheadOfLength() {
        Case.on("b").fails(INDEX, g -> g.spread(3, -1, false)).fails(INDEX, g -> g.spread(-1, 65, true));
    }

    // Promise 32: kinds

    static void p32_unlikePartsOfThatLength() {
        Case.on("abaab").tells(g -> g.kinds(0, 1, false), 2).tells(g -> g.kinds(0, 2, false), 3)
                .tells(g -> g.kinds(0, 3, false), 3).tells(g -> g.kinds(0, 4, false), 2);
    }

    static void p32_unlikeRingPartsOfThatLength() {
        Case.on("abaab").tells(g -> g.kinds(0, 1, true), 2).tells(g -> g.kinds(0, 2, true), 3)
                .tells(g -> g.kinds(0, 3, true), 4).tells(g -> g.kinds(0, 4, true), 5);
        Case.on("abb").tells(g -> g.kinds(0, 2, false), 2).tells(g -> g.kinds(0, 2, true), 3);
    }

    static void p32_length0HasOne() {
        Case.on("abaab").tells(g -> g.kinds(0, 0, false), 1).tells(g -> g.kinds(0, 0, true), 1);
    }

    static void p32_theWholeLengthHasOnePart() {
        Case.on("abaab").tells(g -> g.kinds(0, 5, false), 1);
    }

    static void p32_theWholeLengthsRingParts() {
        Case.on("abaab").tells(g -> g.kinds(0, 5, true), 5);
        Case.on("abab").tells(g -> g.kinds(0, 4, true), 2);
        Case.on("aaaa").tells(g -> g.kinds(0, 4, true), 1);
    }

    static void p32_ofAnEmptyOne() {
        Case.on("").tells(g -> g.kinds(0, 0, false), 1).tells(g -> g.kinds(0, 0, true), 1);
    }

    static void p32_ofOneSign() {
        Case.on("b").tells(g -> g.kinds(0, 1, false), 1).tells(g -> g.kinds(0, 1, true), 1).tells(g -> g.kinds(0, 0, true), 1);
    }

    static void p32_ofAFullOne() {
        Case.on(a(63) + "b").tells(g -> g.kinds(0, 64, true), 64).tells(g -> g.kinds(0, 64, false), 1)
                .tells(g -> g.kinds(0, 63, false), 2).tells(g -> g.kinds(0, 63, true), 64)
                .tells(g -> g.kinds(0, 32, false), 2).tells(g -> g.kinds(0, 32, true), 33);
    }

    static void p32_ofTheFullTwos() {
        Case.on(TWOS).tells(g -> g.kinds(0, 1, false), 2).tells(g -> g.kinds(0, 2, false), 4)
                .tells(g -> g.kinds(0, 3, false), 6).tells(g -> g.kinds(0, 4, false), 10).tells(g -> g.kinds(0, 64, true), 64);
    }

    static void p32_longPartsThatAreUnlikeInOneSignOnly() {
        Case.on("b" + a(63)).tells(g -> g.kinds(0, 62, false), 2).tells(g -> g.kinds(0, 33, false), 2);
        Case.on(a(40) + "b" + a(23)).tells(g -> g.kinds(0, 33, false), 25);
    }

    static void p32_lengthBelow0IsNotLet() {
        Case.on("abb").fails(ARGUMENT, g -> g.kinds(0, -1, false)).fails(ARGUMENT, g -> g.kinds(0, -1, true))
                .fails(ARGUMENT, g -> g.kinds(0, LOWEST, true));
    }

    static void p32_lengthAboveLengthIsNotLet() {
        Case.on("abb").fails(ARGUMENT, g -> g.kinds(0, 4, false)).fails(ARGUMENT, g -> g.kinds(0, 4, true))
                .fails(ARGUMENT, g -> g.kinds(0, HIGHEST, false)).fails(ARGUMENT, g -> g.kinds(0, HIGHEST, true));
        Case.on("").fails(ARGUMENT, g -> g.kinds(0, 1, false)).fails(ARGUMENT, g -> g.kinds(0, 1, true));
        Case.on(a(64)).fails(ARGUMENT, g -> g.kinds(0, 65, false)).fails(ARGUMENT, g -> g.kinds(0, 65, true));
    }

    static void p32_sheets0To2AreLet() {
        of("abb", (g, sheet) -> g.kinds(sheet, 2, false), 2);
        of("abb", (g, sheet) -> g.kinds(sheet, 2, true), 3);
    }

    static void p32_noSheetBelow0() {
        Case.on("b").fails(INDEX, g -> g.kinds(-1, 0, false)).fails(INDEX, g -> g.kinds(LOWEST, 0, true));
    }

    static void p32_noSheetAbove2() {
        Case.on("b").fails(INDEX, g -> g.kinds(3, 0, false)).fails(INDEX, g -> g.kinds(HIGHEST, 0, true));
    }

    static void p32_sheetGoesAheadOfLength() {
        Case.on("b").fails(INDEX, g -> g.kinds(3, -1, false)).fails(INDEX, g -> g.kinds(-1, 65, true));
    }

    // Promise 33: times

    static void p33_0WithoutSigns() {
        of("", Wordgarden::times, 0);
    }

    static void p33_atLeast1WithSigns() {
        of("a", Wordgarden::times, 1);
        of("ab", Wordgarden::times, 1);
        of("aba", Wordgarden::times, 1);
    }

    static void p33_oneSignAgain() {
        of("abb", Wordgarden::times, 2);
        of("baaab", Wordgarden::times, 3);
    }

    static void p33_aLongerWordAgain() {
        of("abab", Wordgarden::times, 2);
        of("babaabaabaa", Wordgarden::times, 3);
        of("abaababaab", Wordgarden::times, 2);
    }

    static void p33_inTheMiddleOnly() {
        of("bbabababaa", Wordgarden::times, 4);
    }

    static void p33_aRepeatThatIsCutOffDoesNotCount() {
        of("abababa", Wordgarden::times, 3);
        of("abbaabba" + "abb", Wordgarden::times, 2);
    }

    static void p33_theRingIsNotMeant() {
        of("aabaa", Wordgarden::times, 2);
        of("baba" + "ab", Wordgarden::times, 2);
    }

    static void p33_ofAFullOne() {
        of(a(64), Wordgarden::times, 64);
        of(a(63) + "b", Wordgarden::times, 63);
        of("b" + a(63), Wordgarden::times, 63);
        of("ab".repeat(32), Wordgarden::times, 32);
        of("abb".repeat(21) + "a", Wordgarden::times, 21);
        of(TWOS, Wordgarden::times, 2);
    }

    static void p33_noSheetBelow0() {
        Case.on("b").fails(INDEX, g -> g.times(-1)).fails(INDEX, g -> g.times(LOWEST));
    }

    static void p33_noSheetAbove2() {
        Case.on("b").fails(INDEX, g -> g.times(3)).fails(INDEX, g -> g.times(HIGHEST));
    }

    // Promise 34: overlaps

    static void p34_thoseOfTheTerms() {
        of("abaab", Wordgarden::overlaps, 0);
        of("ababa", Wordgarden::overlaps, 1);
        of("aaaa", Wordgarden::overlaps, 2);
    }

    static void p34_tooShortForOne() {
        of("", Wordgarden::overlaps, 0);
        of("a", Wordgarden::overlaps, 0);
        of("aa", Wordgarden::overlaps, 0);
    }

    static void p34_justLongEnough() {
        of("aaa", Wordgarden::overlaps, 1);
        of("bbb", Wordgarden::overlaps, 1);
        of("aab", Wordgarden::overlaps, 0);
        of("abb", Wordgarden::overlaps, 0);
    }

    static void p34_eachPairOfPlaceAndLengthIsOne() {
        of("aaaaa", Wordgarden::overlaps, 4);
        of("aaaaaa", Wordgarden::overlaps, 6);
        of("ababab", Wordgarden::overlaps, 2);
    }

    static void p34_twiceIsNotEnough() {
        of("abab", Wordgarden::overlaps, 0);
        of("abbabb", Wordgarden::overlaps, 0);
        of("abbabba", Wordgarden::overlaps, 1);
    }

    static void p34_atTheEndOnly() {
        of("baaa", Wordgarden::overlaps, 1);
        of("aababa", Wordgarden::overlaps, 1);
    }

    static void p34_ofAFullOne() {
        of(a(64), Wordgarden::overlaps, 31 * 32);
        of(TWOS, Wordgarden::overlaps, 0);
        of(a(31) + "b" + a(31) + "b", Wordgarden::overlaps, 2 * 15 * 15);
    }

    static void p34_theLongestThatCanBe() {
        String half = a(30) + "b";
        of(half + half + "a", Wordgarden::overlaps, 2 * 14 * 15 + 1);
        of("b" + half + half + "a", Wordgarden::overlaps, 2 * 14 * 15 + 2);
    }

    static void p34_noSheetBelow0() {
        Case.on("b").fails(INDEX, g -> g.overlaps(-1)).fails(INDEX, g -> g.overlaps(LOWEST));
    }

    static void p34_noSheetAbove2() {
        Case.on("b").fails(INDEX, g -> g.overlaps(3)).fails(INDEX, g -> g.overlaps(HIGHEST));
    }

    // Promise 35: mirrors

    static void p35_onlyWordsWithSigns() {
        of("", Wordgarden::mirrors, 0);
        of("a", Wordgarden::mirrors, 1);
    }

    static void p35_unlikeOnesCountOnce() {
        of("aa", Wordgarden::mirrors, 2);
        of("abab", Wordgarden::mirrors, 4);
        of("aabaab", Wordgarden::mirrors, 6);
    }

    static void p35_bothSigns() {
        of("ab", Wordgarden::mirrors, 2);
        of("ba", Wordgarden::mirrors, 2);
    }

    static void p35_ofOddAndEvenLength() {
        of("aba", Wordgarden::mirrors, 3);
        of("abba", Wordgarden::mirrors, 4);
        of("abaab", Wordgarden::mirrors, 5);
    }

    static void p35_fewerThanSigns() {
        of("aababbaa", Wordgarden::mirrors, 7);
        of("abbabaab", Wordgarden::mirrors, 8);
    }

    static void p35_theRingIsNotMeant() {
        of("aab", Wordgarden::mirrors, 3);
        of("abb", Wordgarden::mirrors, 3);
    }

    static void p35_ofAFullOne() {
        of(a(64), Wordgarden::mirrors, 64);
        of(a(32) + b(32), Wordgarden::mirrors, 64);
        of(a(63) + "b", Wordgarden::mirrors, 64);
    }

    static void p35_noSheetBelow0() {
        Case.on("b").fails(INDEX, g -> g.mirrors(-1)).fails(INDEX, g -> g.mirrors(LOWEST));
    }

    static void p35_noSheetAbove2() {
        Case.on("b").fails(INDEX, g -> g.mirrors(3)).fails(INDEX, g -> g.mirrors(HIGHEST));
    }

    // Promise 36: folds

    static void p36_anEmptyOneHasNone() {
        of("", Wordgarden::folds, 0);
    }

    static void p36_thoseOfTheTerms() {
        of("abaab", Wordgarden::folds, 1);
        of("aa", Wordgarden::folds, 2);
    }

    static void p36_place0CountsIfAllIsMirrored() {
        of("a", Wordgarden::folds, 1);
        of("aba", Wordgarden::folds, 1);
        of("abba", Wordgarden::folds, 1);
    }

    static void p36_placeLengthDoesNotCount() {
        of("b", Wordgarden::folds, 1);
        of("bb", Wordgarden::folds, 2);
        of("bbb", Wordgarden::folds, 3);
    }

    static void p36_theLastPlaceCounts() {
        of("ab", Wordgarden::folds, 1);
        of("aab", Wordgarden::folds, 1);
        of("abab", Wordgarden::folds, 2);
    }

    static void p36_bothMustBeMirrored() {
        of("aababb", Wordgarden::folds, 0);
        of("abbaaa", Wordgarden::folds, 1);
        of("aabaabb", Wordgarden::folds, 1);
    }

    static void p36_ofAFullOne() {
        of(a(64), Wordgarden::folds, 64);
        of(a(63) + "b", Wordgarden::folds, 1);
        of("b" + a(63), Wordgarden::folds, 1);
        of(TWOS, Wordgarden::folds, 1);
        of("ab".repeat(32), Wordgarden::folds, 32);
    }

    static void p36_noSheetBelow0() {
        Case.on("b").fails(INDEX, g -> g.folds(-1)).fails(INDEX, g -> g.folds(LOWEST));
    }

    static void p36_noSheetAbove2() {
        Case.on("b").fails(INDEX, g -> g.folds(3)).fails(INDEX, g -> g.folds(HIGHEST));
    }

    // Promise 37: least

    static void p37_0WithoutSigns() {
        of("", Wordgarden::least, 0);
    }

    static void p37_fromWhereTheFirstInOrderIsRead() {
        of("ba", Wordgarden::least, 1);
        of("abaab", Wordgarden::least, 2);
        of("babba", Wordgarden::least, 4);
        of("bbaab", Wordgarden::least, 2);
    }

    static void p37_overTheEnd() {
        of("aaba", Wordgarden::least, 3);
        of("abaa", Wordgarden::least, 2);
    }

    static void p37_theLeastSuchPlace() {
        of("abab", Wordgarden::least, 0);
        of("baba", Wordgarden::least, 1);
        of("baabaa", Wordgarden::least, 1);
        of("aaa", Wordgarden::least, 0);
        of("bbb", Wordgarden::least, 0);
    }

    static void p37_oneSign() {
        of("a", Wordgarden::least, 0);
        of("b", Wordgarden::least, 0);
    }

    static void p37_ofAFullOne() {
        of(b(63) + "a", Wordgarden::least, 63);
        of("a" + b(63), Wordgarden::least, 0);
        of(a(64), Wordgarden::least, 0);
        of(a(10) + "b" + a(53), Wordgarden::least, 11);
        of("ba".repeat(32), Wordgarden::least, 1);
    }

    static void p37_noSheetBelow0() {
        Case.on("b").fails(INDEX, g -> g.least(-1)).fails(INDEX, g -> g.least(LOWEST));
    }

    static void p37_noSheetAbove2() {
        Case.on("b").fails(INDEX, g -> g.least(3)).fails(INDEX, g -> g.least(HIGHEST));
    }

    // Promise 38: isApart

    static void p38_apart() {
        Case.on("ab").tells(g -> g.isApart(2, 3), true).tells(g -> g.isApart(5, 6), true).tells(g -> g.isApart(10, 20), true)
                .tells(g -> g.isApart(5, 2), true).tells(g -> g.isApart(17, 2), true);
    }

    static void p38_theSameWordTwiceIsNot() {
        Case.on("ab").tells(g -> g.isApart(2, 2), false).tells(g -> g.isApart(31, 31), false).tells(g -> g.isApart(5, 5), false);
    }

    static void p38_wordsOfOneWordAgainAreNot() {
        Case.on("ab").tells(g -> g.isApart(2, 4), false).tells(g -> g.isApart(8, 2), false).tells(g -> g.isApart(16, 8), false)
                .tells(g -> g.isApart(5, 21), false).tells(g -> g.isApart(26, 6), false).tells(g -> g.isApart(7, 15), false);
    }

    static void p38_unlikeInTheLastSignOnly() {
        Case.on("ab").tells(g -> g.isApart(16, 17), true).tells(g -> g.isApart(30, 31), true)
                .tells(g -> g.isApart(2, 17), true).tells(g -> g.isApart(16, 9), true);
    }

    static void p38_codes2And31AreLet() {
        Case.on("ab").tells(g -> g.isApart(2, 31), true).tells(g -> g.isApart(31, 2), true);
    }

    static void p38_xBelow2IsNotLet() {
        Case.on("ab").fails(ARGUMENT, g -> g.isApart(1, 2)).fails(ARGUMENT, g -> g.isApart(0, 2))
                .fails(ARGUMENT, g -> g.isApart(-1, 2)).fails(ARGUMENT, g -> g.isApart(LOWEST, 2));
    }

    static void p38_xAbove31IsNotLet() {
        Case.on("ab").fails(ARGUMENT, g -> g.isApart(32, 2)).fails(ARGUMENT, g -> g.isApart(HIGHEST, 2));
    }

    static void p38_yBelow2IsNotLet() {
        Case.on("ab").fails(ARGUMENT, g -> g.isApart(2, 1)).fails(ARGUMENT, g -> g.isApart(2, 0))
                .fails(ARGUMENT, g -> g.isApart(2, -1)).fails(ARGUMENT, g -> g.isApart(2, LOWEST));
    }

    static void p38_yAbove31IsNotLet() {
        Case.on("ab").fails(ARGUMENT, g -> g.isApart(2, 32)).fails(ARGUMENT, g -> g.isApart(2, HIGHEST));
    }

    static void p38_bothOutOfBounds() {
        Case.on("ab").fails(ARGUMENT, g -> g.isApart(1, 1)).fails(ARGUMENT, g -> g.isApart(32, 32))
                .fails(ARGUMENT, g -> g.isApart(1, 32));
    }

    public static void main(String[] arguments) throws IllegalAccessException {
        Sentences.runAllOf(AskingSentencesTest.class);
    }
}
