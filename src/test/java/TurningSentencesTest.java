/** Promises 10 to 16, sentence by sentence: what is cut, turned, copied, sent through a rule and back. */
public final class TurningSentencesTest {
    private static final Class<?> INDEX = Case.INDEX;
    private static final Class<?> ARGUMENT = Case.ARGUMENT;
    private static final Class<?> STATE = Case.STATE;
    private static final int LOWEST = Case.LOWEST;
    private static final int HIGHEST = Case.HIGHEST;

    private static String a(int many) {
        return Case.a(many);
    }

    private static String b(int many) {
        return Case.b(many);
    }

    // Promise 10: cutTo

    static void p10_signsAtItsEndGoOut() {
        Case.on("abbab").acts(g -> g.cutTo(0, 3), 5, 0, "abb");
    }

    static void p10_asArePutBehind() {
        Case.on("abb").acts(g -> g.cutTo(0, 6), 3, 0, "abbaaa");
    }

    static void p10_whatWasCutOffDoesNotComeBack() {
        Case.on("abbb").acts(g -> g.cutTo(0, 2), 4, 0, "ab").acts(g -> g.cutTo(0, 5), 2, 0, "abaaa");
        Case.on(b(64)).acts(g -> g.cutTo(0, 0), 64, 0, "").acts(g -> g.cutTo(0, 64), 0, 0, a(64));
    }

    static void p10_theLengthThatItHadAlready() {
        Case.on("abb").acts(g -> g.cutTo(0, 3), 3, 0, "abb");
    }

    static void p10_length0IsLet() {
        Case.on("abb").acts(g -> g.cutTo(0, 0), 3, 0, "").acts(g -> g.cutTo(0, 0), 0, 0, "");
    }

    static void p10_length64IsLet() {
        Case.on("abb").acts(g -> g.cutTo(0, 64), 3, 0, "abb" + a(61)).acts(g -> g.cutTo(0, 64), 64, 0, "abb" + a(61));
    }

    static void p10_lengthBelow0IsNotLet() {
        Case.on("abb").fails(ARGUMENT, g -> g.cutTo(0, -1)).fails(ARGUMENT, g -> g.cutTo(0, LOWEST));
    }

    static void p10_lengthAbove64IsNotLet() {
        Case.on("abb").fails(ARGUMENT, g -> g.cutTo(0, 65)).fails(ARGUMENT, g -> g.cutTo(0, HIGHEST));
    }

    static void p10_sheets0To2AreLet() {
        Case.on("ab", "ba", "bb").acts(g -> g.cutTo(0, 1), 2, 0, "a").acts(g -> g.cutTo(1, 3), 2, 1, "baa")
                .acts(g -> g.cutTo(2, 1), 2, 2, "b");
    }

    static void p10_noSheetBelow0() {
        Case.on("b").fails(INDEX, g -> g.cutTo(-1, 0)).fails(INDEX, g -> g.cutTo(LOWEST, 0));
    }

    static void p10_noSheetAbove2() {
        Case.on("b").fails(INDEX, g -> g.cutTo(3, 0)).fails(INDEX, g -> g.cutTo(HIGHEST, 0));
    }

    static void p10_sheetGoesAheadOfLength() {
        Case.on("b").fails(INDEX, g -> g.cutTo(3, 65)).fails(INDEX, g -> g.cutTo(-1, -1));
    }

    // Promise 11: turn

    static void p11_1IfItIsAnotherWord() {
        Case.on("aabab").acts(g -> g.turn(0), 1, 0, "babaa").acts(g -> g.turn(0), 1, 0, "aabab");
        Case.on("ab").acts(g -> g.turn(0), 1, 0, "ba");
    }

    static void p11_otherwise0() {
        Case.on("abba").acts(g -> g.turn(0), 0, 0, "abba");
        Case.on("aba").acts(g -> g.turn(0), 0, 0, "aba");
        Case.on("b").acts(g -> g.turn(0), 0, 0, "b");
    }

    static void p11_onlyTheMiddleSignsAreUnlike() {
        Case.on("aababa").acts(g -> g.turn(0), 1, 0, "ababaa");
        Case.on("aaabaa").acts(g -> g.turn(0), 1, 0, "aabaaa");
    }

    static void p11_anEmptyOne() {
        Case.on("").acts(g -> g.turn(0), 0, 0, "");
    }

    static void p11_aFullOne() {
        Case.on("ab" + a(62)).acts(g -> g.turn(0), 1, 0, a(62) + "ba");
        Case.on(a(31) + "bb" + a(31)).acts(g -> g.turn(0), 0, 0, a(31) + "bb" + a(31));
    }

    static void p11_sheets0To2AreLet() {
        Case.on("ab", "ba", "abb").acts(g -> g.turn(0), 1, 0, "ba").acts(g -> g.turn(1), 1, 1, "ab")
                .acts(g -> g.turn(2), 1, 2, "bba");
    }

    static void p11_noSheetBelow0() {
        Case.on("b").fails(INDEX, g -> g.turn(-1)).fails(INDEX, g -> g.turn(LOWEST));
    }

    static void p11_noSheetAbove2() {
        Case.on("b").fails(INDEX, g -> g.turn(3)).fails(INDEX, g -> g.turn(HIGHEST));
    }

    // Promise 12: exchange

    static void p12_howManyBsItHasThen() {
        Case.on("aabaa").acts(g -> g.exchange(0), 4, 0, "bbabb").acts(g -> g.exchange(0), 1, 0, "aabaa");
    }

    static void p12_noBThen() {
        Case.on("bbb").acts(g -> g.exchange(0), 0, 0, "aaa");
    }

    static void p12_anEmptyOne() {
        Case.on("").acts(g -> g.exchange(0), 0, 0, "").acts(g -> g.cutTo(0, 3), 0, 0, "aaa");
    }

    static void p12_aFullOne() {
        Case.on(a(64)).acts(g -> g.exchange(0), 64, 0, b(64));
        Case.on("b" + a(62) + "b").acts(g -> g.exchange(0), 62, 0, "a" + b(62) + "a");
    }

    static void p12_sheets0To2AreLet() {
        Case.on("ab", "ba", "abb").acts(g -> g.exchange(0), 1, 0, "ba").acts(g -> g.exchange(1), 1, 1, "ab")
                .acts(g -> g.exchange(2), 1, 2, "baa");
    }

    static void p12_noSheetBelow0() {
        Case.on("b").fails(INDEX, g -> g.exchange(-1)).fails(INDEX, g -> g.exchange(LOWEST));
    }

    static void p12_noSheetAbove2() {
        Case.on("b").fails(INDEX, g -> g.exchange(3)).fails(INDEX, g -> g.exchange(HIGHEST));
    }

    // Promise 13: rotate

    static void p13_1IfItIsAnotherWord() {
        Case.on("abbab").acts(g -> g.rotate(0, 2), 1, 0, "babab").acts(g -> g.rotate(0, 1), 1, 0, "ababb");
    }

    static void p13_theFirstOnesGoInTheirOrder() {
        Case.on("aabbb").acts(g -> g.rotate(0, 3), 1, 0, "bbaab").acts(g -> g.rotate(0, 4), 1, 0, "bbbaa");
    }

    static void p13_otherwise0() {
        Case.on("abab").acts(g -> g.rotate(0, 2), 0, 0, "abab");
        Case.on("aaa").acts(g -> g.rotate(0, 1), 0, 0, "aaa");
    }

    static void p13_many0IsLet() {
        Case.on("abb").acts(g -> g.rotate(0, 0), 0, 0, "abb");
    }

    static void p13_manyLengthIsLet() {
        Case.on("abb").acts(g -> g.rotate(0, 3), 0, 0, "abb");
    }

    static void p13_manyBelow0IsNotLet() {
        Case.on("abb").fails(ARGUMENT, g -> g.rotate(0, -1)).fails(ARGUMENT, g -> g.rotate(0, LOWEST));
    }

    static void p13_manyAboveLengthIsNotLet() {
        Case.on("abb").fails(ARGUMENT, g -> g.rotate(0, 4)).fails(ARGUMENT, g -> g.rotate(0, 64))
                .fails(ARGUMENT, g -> g.rotate(0, HIGHEST));
    }

    static void p13_anEmptyOne() {
        Case.on("").acts(g -> g.rotate(0, 0), 0, 0, "").fails(ARGUMENT, g -> g.rotate(0, 1));
    }

    static void p13_aFullOne() {
        Case.on("b" + a(63)).acts(g -> g.rotate(0, 1), 1, 0, a(63) + "b").acts(g -> g.rotate(0, 63), 1, 0, "b" + a(63))
                .acts(g -> g.rotate(0, 64), 0, 0, "b" + a(63)).fails(ARGUMENT, g -> g.rotate(0, 65));
    }

    static void p13_theSheetsOwnLengthCounts() {
        Case.on("a", "abb", a(64)).fails(ARGUMENT, g -> g.rotate(0, 2)).acts(g -> g.rotate(1, 2), 1, 1, "bab");
    }

    static void p13_sheets0To2AreLet() {
        Case.on("ab", "ba", "abb").acts(g -> g.rotate(0, 1), 1, 0, "ba").acts(g -> g.rotate(1, 1), 1, 1, "ab")
                .acts(g -> g.rotate(2, 1), 1, 2, "bba");
    }

    static void p13_noSheetBelow0() {
        Case.on("b").fails(INDEX, g -> g.rotate(-1, 0)).fails(INDEX, g -> g.rotate(LOWEST, 0));
    }

    static void p13_noSheetAbove2() {
        Case.on("b").fails(INDEX, g -> g.rotate(3, 0)).fails(INDEX, g -> g.rotate(HIGHEST, 0));
    }

    static void p13_sheetGoesAheadOfMany() {
        Case.on("b").fails(INDEX, g -> g.rotate(3, -1)).fails(INDEX, g -> g.rotate(-1, 65));
    }

    // Promise 14: copy

    static void p14_1IfIntoHasAnotherWordThen() {
        Case.on("abb", "a", "").acts(g -> g.copy(0, 1), 1, 1, "abb");
        Case.on("abb", "aba", "").acts(g -> g.copy(0, 1), 1, 1, "abb");
        Case.on("ab", "abb", "").acts(g -> g.copy(0, 1), 1, 1, "ab");
    }

    static void p14_otherwise0() {
        Case.on("abb", "abb", "").acts(g -> g.copy(0, 1), 0, 1, "abb");
    }

    static void p14_theSameSheetIsLet() {
        Case.on("abb").acts(g -> g.copy(0, 0), 0, 0, "abb").acts(g -> g.copy(1, 1), 0, 1, "ba");
    }

    static void p14_anEmptyOne() {
        Case.on("", "ab", "").acts(g -> g.copy(0, 1), 1, 1, "").acts(g -> g.copy(0, 1), 0, 1, "")
                .acts(g -> g.copy(0, 0), 0, 0, "");
    }

    static void p14_aFullOne() {
        Case.on(a(63) + "b", a(64), "").acts(g -> g.copy(0, 1), 1, 1, a(63) + "b").acts(g -> g.copy(0, 2), 1, 2, a(63) + "b");
    }

    static void p14_theCopyGoesItsOwnWay() {
        Case.on("ab", "", "").acts(g -> g.copy(0, 1), 1, 1, "ab").acts(g -> g.setSign(1, 0, true), 1, 1, "bb")
                .acts(g -> g.removeSign(0, 0), 0, 0, "b").acts(g -> g.exchange(1), 0, 1, "aa");
    }

    static void p14_sheets0To2AreLet() {
        Case.on("a", "b", "ab").acts(g -> g.copy(2, 0), 1, 0, "ab").acts(g -> g.copy(1, 2), 1, 2, "b")
                .acts(g -> g.copy(0, 1), 1, 1, "ab");
    }

    static void p14_noSheetBelow0() {
        Case.on("b").fails(INDEX, g -> g.copy(-1, 0)).fails(INDEX, g -> g.copy(LOWEST, 0));
    }

    static void p14_noSheetAbove2() {
        Case.on("b").fails(INDEX, g -> g.copy(3, 0)).fails(INDEX, g -> g.copy(HIGHEST, 0));
    }

    static void p14_noIntoBelow0() {
        Case.on("b").fails(INDEX, g -> g.copy(0, -1)).fails(INDEX, g -> g.copy(0, LOWEST));
    }

    static void p14_noIntoAbove2() {
        Case.on("b").fails(INDEX, g -> g.copy(0, 3)).fails(INDEX, g -> g.copy(0, HIGHEST));
    }

    // Promise 15: apply

    static void p15_eachABecomesXAndEachBY() {
        Case.on("abb").acts(g -> g.apply(0, 5, 2), 4, 0, "abaa");
        Case.on("ba").acts(g -> g.apply(0, 17, 6), 6, 0, "baaaab");
    }

    static void p15_allAtOnce() {
        Case.on("aba").acts(g -> g.apply(0, 3, 2), 3, 0, "bab").acts(g -> g.apply(0, 6, 5), 6, 0, "abbaab");
    }

    static void p15_anEmptyOne() {
        Case.on("").acts(g -> g.apply(0, 31, 31), 0, 0, "");
    }

    static void p15_codes2And31AreLet() {
        Case.on("ab").acts(g -> g.apply(0, 2, 31), 5, 0, "abbbb");
        Case.on("ab").acts(g -> g.apply(0, 31, 2), 5, 0, "bbbba");
        Case.on("ab").acts(g -> g.apply(0, 2, 2), 2, 0, "aa");
        Case.on("ab").acts(g -> g.apply(0, 31, 31), 8, 0, b(8));
    }

    static void p15_aRuleThatIsNotApartIsLet() {
        Case.on("ab").acts(g -> g.apply(0, 2, 4), 3, 0, "aaa").acts(g -> g.apply(0, 5, 21), 6, 0, "ababab");
    }

    static void p15_64IsLet() {
        Case.on(a(16)).acts(g -> g.apply(0, 17, 2), 64, 0, "aaab".repeat(16));
        Case.on(b(16)).acts(g -> g.apply(0, 2, 17), 64, 0, "aaab".repeat(16));
        Case.on(a(63) + "b").acts(g -> g.apply(0, 3, 2), 64, 0, b(63) + "a");
    }

    static void p15_65IsRefused() {
        Case.on(a(16) + "b").refuses(g -> g.apply(0, 17, 2));
        Case.on(b(16) + "a").refuses(g -> g.apply(0, 2, 17));
        Case.on(a(63) + "b").refuses(g -> g.apply(0, 2, 4)).refuses(g -> g.apply(0, 31, 31));
    }

    static void p15_xBelow2IsNotLet() {
        Case.on("ab").fails(ARGUMENT, g -> g.apply(0, 1, 2)).fails(ARGUMENT, g -> g.apply(0, 0, 2))
                .fails(ARGUMENT, g -> g.apply(0, -1, 2)).fails(ARGUMENT, g -> g.apply(0, LOWEST, 2));
    }

    static void p15_xAbove31IsNotLet() {
        Case.on("ab").fails(ARGUMENT, g -> g.apply(0, 32, 2)).fails(ARGUMENT, g -> g.apply(0, HIGHEST, 2));
    }

    static void p15_yBelow2IsNotLet() {
        Case.on("ab").fails(ARGUMENT, g -> g.apply(0, 2, 1)).fails(ARGUMENT, g -> g.apply(0, 2, 0))
                .fails(ARGUMENT, g -> g.apply(0, 2, -1)).fails(ARGUMENT, g -> g.apply(0, 2, LOWEST));
    }

    static void p15_yAbove31IsNotLet() {
        Case.on("ab").fails(ARGUMENT, g -> g.apply(0, 2, 32)).fails(ARGUMENT, g -> g.apply(0, 2, HIGHEST));
    }

    static void p15_anEmptyOneNeedsARuleToo() {
        Case.on("").fails(ARGUMENT, g -> g.apply(0, 1, 2)).fails(ARGUMENT, g -> g.apply(0, 2, 32));
    }

    static void p15_anExceptionGoesAheadOfRefusal() {
        Case.on(a(64)).fails(ARGUMENT, g -> g.apply(0, 31, 1)).fails(ARGUMENT, g -> g.apply(0, 32, 2))
                .fails(ARGUMENT, g -> g.apply(0, 4, 32));
    }

    static void p15_sheets0To2AreLet() {
        Case.on("a", "b", "ab").acts(g -> g.apply(0, 5, 6), 2, 0, "ab").acts(g -> g.apply(1, 5, 6), 2, 1, "ba")
                .acts(g -> g.apply(2, 5, 6), 4, 2, "abba");
    }

    static void p15_noSheetBelow0() {
        Case.on("b").fails(INDEX, g -> g.apply(-1, 2, 3)).fails(INDEX, g -> g.apply(LOWEST, 2, 3));
    }

    static void p15_noSheetAbove2() {
        Case.on("b").fails(INDEX, g -> g.apply(3, 2, 3)).fails(INDEX, g -> g.apply(HIGHEST, 2, 3));
    }

    static void p15_sheetGoesAheadOfRule() {
        Case.on("b").fails(INDEX, g -> g.apply(3, 1, 3)).fails(INDEX, g -> g.apply(-1, 2, 32))
                .fails(INDEX, g -> g.apply(-1, 1, 32));
    }

    // Promise 16: undo

    static void p16_theWordWhoseImageItIs() {
        Case.on("abaa").acts(g -> g.undo(0, 5, 2), 3, 0, "abb");
        Case.on("abbaab").acts(g -> g.undo(0, 5, 6), 3, 0, "aba");
    }

    static void p16_theFirstPartMayBeEitherOne() {
        Case.on("aabaab").acts(g -> g.undo(0, 2, 9), 2, 0, "bb");
        Case.on("aaab").acts(g -> g.undo(0, 2, 9), 2, 0, "ab");
        Case.on("aaaaab").acts(g -> g.undo(0, 4, 17), 2, 0, "ab");
        Case.on("aabaaa").acts(g -> g.undo(0, 9, 2), 4, 0, "abbb");
    }

    static void p16_whichPartItWasShowsAtTheEndOnly() {
        // a -> b, b -> bba: up to the last sign each b could be the word of an a.
        Case.on(b(63) + "a").acts(g -> g.undo(0, 3, 14), 62, 0, a(61) + "b");
        Case.on(b(64)).acts(g -> g.undo(0, 3, 14), 64, 0, a(64));
        Case.on("ba").refuses(g -> g.undo(0, 3, 14));
    }

    static void p16_anOddNumberOfSignsShowsAtTheEndOnly() {
        // a -> aa, b -> aaab: the b at the end goes with three a's, and those ahead of them must be pairs.
        Case.on(a(61) + "b").acts(g -> g.undo(0, 4, 17), 30, 0, a(29) + "b");
        Case.on(a(62) + "b").refuses(g -> g.undo(0, 4, 17));
    }

    static void p16_anEmptyOne() {
        Case.on("").acts(g -> g.undo(0, 5, 6), 0, 0, "").acts(g -> g.undo(0, 31, 2), 0, 0, "");
    }

    static void p16_noSuchWordIsRefused() {
        Case.on("abb").refuses(g -> g.undo(0, 5, 6));
        Case.on("bab").refuses(g -> g.undo(0, 5, 6));
        Case.on("aab").refuses(g -> g.undo(0, 5, 6));
        Case.on("ab").refuses(g -> g.undo(0, 2, 12));
    }

    static void p16_aLastPartThatIsCutOffIsRefused() {
        Case.on("abab" + "a").refuses(g -> g.undo(0, 5, 6));
        Case.on("a").refuses(g -> g.undo(0, 5, 6)).refuses(g -> g.undo(0, 16, 3));
        Case.on("aaab" + "aaa").refuses(g -> g.undo(0, 17, 31));
    }

    static void p16_aFullOne() {
        Case.on("ab".repeat(32)).acts(g -> g.undo(0, 5, 6), 32, 0, a(32));
        Case.on("aaab".repeat(16)).acts(g -> g.undo(0, 17, 2), 16, 0, a(16));
        Case.on("b" + a(63)).acts(g -> g.undo(0, 3, 2), 64, 0, "a" + b(63));
    }

    static void p16_aFullOneIsRefused() {
        Case.on("ab".repeat(31) + "aa").refuses(g -> g.undo(0, 5, 6));
        Case.on("aa" + "ab".repeat(31)).refuses(g -> g.undo(0, 5, 6));
    }

    static void p16_codes2And31AreLet() {
        Case.on("abbbb").acts(g -> g.undo(0, 2, 31), 2, 0, "ab").acts(g -> g.apply(0, 31, 2), 5, 0, "bbbba")
                .acts(g -> g.undo(0, 31, 2), 2, 0, "ab");
    }

    static void p16_xBelow2IsNotLet() {
        Case.on("ab").fails(ARGUMENT, g -> g.undo(0, 1, 2)).fails(ARGUMENT, g -> g.undo(0, 0, 2))
                .fails(ARGUMENT, g -> g.undo(0, -1, 2)).fails(ARGUMENT, g -> g.undo(0, LOWEST, 2));
    }

    static void p16_xAbove31IsNotLet() {
        Case.on("ab").fails(ARGUMENT, g -> g.undo(0, 32, 3)).fails(ARGUMENT, g -> g.undo(0, HIGHEST, 3));
    }

    static void p16_yBelow2IsNotLet() {
        Case.on("ab").fails(ARGUMENT, g -> g.undo(0, 2, 1)).fails(ARGUMENT, g -> g.undo(0, 2, 0))
                .fails(ARGUMENT, g -> g.undo(0, 2, -1)).fails(ARGUMENT, g -> g.undo(0, 2, LOWEST));
    }

    static void p16_yAbove31IsNotLet() {
        Case.on("ab").fails(ARGUMENT, g -> g.undo(0, 2, 32)).fails(ARGUMENT, g -> g.undo(0, 2, HIGHEST));
    }

    static void p16_aRuleThatIsNotApartIsNotLet() {
        Case.on("aaa").fails(STATE, g -> g.undo(0, 2, 4)).fails(STATE, g -> g.undo(0, 2, 2))
                .fails(STATE, g -> g.undo(0, 31, 15)).fails(STATE, g -> g.undo(0, 5, 21)).fails(STATE, g -> g.undo(0, 6, 6));
    }

    static void p16_notApartEvenOfAnEmptyOne() {
        Case.on("").fails(STATE, g -> g.undo(0, 2, 2)).fails(STATE, g -> g.undo(0, 31, 31));
    }

    static void p16_notApartGoesAheadOfRefusal() {
        Case.on("bab").fails(STATE, g -> g.undo(0, 2, 4)).fails(STATE, g -> g.undo(0, 4, 8));
    }

    static void p16_codesGoAheadOfNotApart() {
        Case.on("bab").fails(ARGUMENT, g -> g.undo(0, 1, 1)).fails(ARGUMENT, g -> g.undo(0, 32, 32))
                .fails(ARGUMENT, g -> g.undo(0, 2, 32)).fails(ARGUMENT, g -> g.undo(0, 0, 0));
    }

    static void p16_sheetGoesAheadOfAll() {
        Case.on("b").fails(INDEX, g -> g.undo(3, 1, 3)).fails(INDEX, g -> g.undo(-1, 2, 32)).fails(INDEX, g -> g.undo(3, 2, 2));
    }

    static void p16_sheets0To2AreLet() {
        Case.on("ab", "ba", "abba").acts(g -> g.undo(0, 5, 6), 1, 0, "a").acts(g -> g.undo(1, 5, 6), 1, 1, "b")
                .acts(g -> g.undo(2, 5, 6), 2, 2, "ab");
    }

    static void p16_noSheetBelow0() {
        Case.on("b").fails(INDEX, g -> g.undo(-1, 2, 3)).fails(INDEX, g -> g.undo(LOWEST, 2, 3));
    }

    static void p16_noSheetAbove2() {
        Case.on("b").fails(INDEX, g -> g.undo(3, 2, 3)).fails(INDEX, g -> g.undo(HIGHEST, 2, 3));
    }

    static void p16_aRefusalLeavesTheNextUndoAsItWas() {
        Case.on("abb").refuses(g -> g.undo(0, 5, 6)).acts(g -> g.undo(0, 2, 3), 3, 0, "abb")
                .acts(g -> g.undo(0, 2, 7), 2, 0, "ab");
    }

    public static void main(String[] arguments) throws IllegalAccessException {
        Sentences.runAllOf(TurningSentencesTest.class);
    }
}
