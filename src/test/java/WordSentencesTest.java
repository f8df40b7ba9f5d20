/** Promises 1 to 9, sentence by sentence: a new object, and what is written, put in, set and taken out. */
public final class WordSentencesTest {
    private static final Class<?> INDEX = Case.INDEX;
    private static final Class<?> ARGUMENT = Case.ARGUMENT;
    private static final int LOWEST = Case.LOWEST;
    private static final int HIGHEST = Case.HIGHEST;

    private static String a(int many) {
        return Case.a(many);
    }

    private static String b(int many) {
        return Case.b(many);
    }

    // Promise 1: a new object

    static void p01_threeSheetsWithoutSigns() {
        new Case().tells(g -> g.text(0), "").tells(g -> g.text(1), "").tells(g -> g.text(2), "")
                .tells(g -> g.length(0), 0).tells(g -> g.length(1), 0).tells(g -> g.length(2), 0);
    }

    static void p01_noFourthSheet() {
        new Case().fails(INDEX, g -> g.length(3)).fails(INDEX, g -> g.text(3));
    }

    static void p01_twoGrowthsWithoutTurns() {
        new Case().tells(g -> g.turns(0), "").tells(g -> g.turns(1), "");
    }

    static void p01_noThirdGrowth() {
        new Case().fails(INDEX, g -> g.turns(2)).fails(INDEX, g -> g.fresh(2));
    }

    static void p01_elderIsBAndYoungerIsA() {
        new Case().tells(g -> g.grown(0, true), "b").tells(g -> g.grown(1, true), "b")
                .tells(g -> g.grown(0, false), "a").tells(g -> g.grown(1, false), "a");
    }

    static void p01_nothingWasDoneYet() {
        new Case().tells(g -> g.house(0), 0).tells(g -> g.house(1), 0)
                .tells(g -> g.house(2), 0).tells(g -> g.house(3), 0);
    }

    static void p01_isSoundAtFirst() {
        new Case().tells(Wordgarden::isSound, true);
    }

    static void p01_objectsAreOnTheirOwn() {
        Wordgarden one = new Wordgarden();
        one.write(0, 9);
        one.grow(0, 2);
        one.knock();
        new Case().tells(g -> g.text(0) + g.turns(0) + g.house(0) + g.house(1) + g.house(3), "000");
        Checks.same("the first one stays", one.text(0) + one.turns(0) + one.house(0), "aab21");
    }

    // Promise 2: write

    static void p02_code1IsTheWordWithoutSigns() {
        Case.on("abb").acts(g -> g.write(0, 1), 0, 0, "");
    }

    static void p02_codesOfOneSign() {
        Case.on("abb").acts(g -> g.write(0, 2), 1, 0, "a").acts(g -> g.write(0, 3), 1, 0, "b");
    }

    static void p02_codesOfTwoSigns() {
        Case.on("").acts(g -> g.write(0, 4), 2, 0, "aa").acts(g -> g.write(0, 5), 2, 0, "ab")
                .acts(g -> g.write(0, 6), 2, 0, "ba").acts(g -> g.write(0, 7), 2, 0, "bb");
    }

    static void p02_codesThatTheTermsName() {
        Case.on("").acts(g -> g.write(0, 8), 3, 0, "aaa").acts(g -> g.write(0, 17), 4, 0, "aaab");
    }

    static void p02_leastAndGreatestCodeOfEachLength() {
        for (int length = 0; length <= 15; length++) {
            int many = length;
            Case.on("bab").acts(g -> g.write(0, 1 << many), many, 0, a(many))
                    .acts(g -> g.write(0, (2 << many) - 1), many, 0, b(many));
        }
    }

    static void p02_highestDigitComesFirst() {
        Case.on("").acts(g -> g.write(0, 0b1100000000000000), 15, 0, "b" + a(14))
                .acts(g -> g.write(0, 0b1000000000000001), 15, 0, a(14) + "b");
    }

    static void p02_code65535IsLet() {
        Case.on("").acts(g -> g.write(0, 65535), 15, 0, b(15));
    }

    static void p02_code65536IsNotLet() {
        Case.on("ab").fails(ARGUMENT, g -> g.write(0, 65536)).fails(ARGUMENT, g -> g.write(0, 65537))
                .fails(ARGUMENT, g -> g.write(0, 1 << 17)).fails(ARGUMENT, g -> g.write(0, HIGHEST));
    }

    static void p02_code0IsNotLet() {
        Case.on("ab").fails(ARGUMENT, g -> g.write(0, 0));
    }

    static void p02_codeBelow0IsNotLet() {
        Case.on("ab").fails(ARGUMENT, g -> g.write(0, -1)).fails(ARGUMENT, g -> g.write(0, LOWEST));
    }

    static void p02_aFullWordGoes() {
        Case.on(b(64)).acts(g -> g.write(0, 5), 2, 0, "ab").acts(g -> g.cutTo(0, 4), 2, 0, "abaa");
    }

    static void p02_theSameWordIsAnActToo() {
        Case.on("ab").acts(g -> g.write(0, 5), 2, 0, "ab");
    }

    static void p02_sheets0To2AreLet() {
        Case.on("b").acts(g -> g.write(0, 9), 3, 0, "aab").acts(g -> g.write(1, 10), 3, 1, "aba")
                .acts(g -> g.write(2, 12), 3, 2, "baa");
    }

    static void p02_noSheetBelow0() {
        Case.on("b").fails(INDEX, g -> g.write(-1, 2)).fails(INDEX, g -> g.write(LOWEST, 2));
    }

    static void p02_noSheetAbove2() {
        Case.on("b").fails(INDEX, g -> g.write(3, 2)).fails(INDEX, g -> g.write(HIGHEST, 2));
    }

    static void p02_sheetGoesAheadOfCode() {
        Case.on("b").fails(INDEX, g -> g.write(3, 0)).fails(INDEX, g -> g.write(-1, 65536));
    }

    // Promise 3: append

    static void p03_otherComesBehind() {
        Case.on("ab", "bba", "b").acts(g -> g.append(0, 1), 5, 0, "abbba");
    }

    static void p03_theSameSheetIsLet() {
        Case.on("abb").acts(g -> g.append(0, 0), 6, 0, "abbabb");
    }

    static void p03_anEmptyOther() {
        Case.on("ab", "", "b").acts(g -> g.append(0, 1), 2, 0, "ab");
    }

    static void p03_toAnEmptyOne() {
        Case.on("", "bab", "b").acts(g -> g.append(0, 1), 3, 0, "bab");
    }

    static void p03_emptyToItself() {
        Case.on("").acts(g -> g.append(0, 0), 0, 0, "");
    }

    static void p03_64IsLet() {
        Case.on(b(40), a(24), "b").acts(g -> g.append(0, 1), 64, 0, b(40) + a(24));
    }

    static void p03_65IsRefused() {
        Case.on(b(40), a(25), "b").refuses(g -> g.append(0, 1));
    }

    static void p03_itselfTo64IsLet() {
        Case.on("b" + a(31)).acts(g -> g.append(0, 0), 64, 0, "b" + a(31) + "b" + a(31));
    }

    static void p03_itselfTo66IsRefused() {
        Case.on("b" + a(32)).refuses(g -> g.append(0, 0));
    }

    static void p03_anEmptyOtherToAFullOne() {
        Case.on("b" + a(63), "", "").acts(g -> g.append(0, 1), 64, 0, "b" + a(63));
    }

    static void p03_oneSignToAFullOneIsRefused() {
        Case.on("b" + a(63), "b", "").refuses(g -> g.append(0, 1));
    }

    static void p03_aFullOneToAFullOneIsRefused() {
        Case.on("b" + a(63), a(64), "").refuses(g -> g.append(0, 1)).refuses(g -> g.append(1, 1));
    }

    static void p03_aFullOneToAnEmptyOne() {
        Case.on("", a(63) + "b", "").acts(g -> g.append(0, 1), 64, 0, a(63) + "b");
    }

    static void p03_whatWasPutBehindGoesItsOwnWay() {
        Case.on("", "ab", "").acts(g -> g.append(0, 1), 2, 0, "ab").acts(g -> g.setSign(1, 0, true), 1, 1, "bb")
                .acts(g -> g.exchange(0), 1, 0, "ba").acts(g -> g.append(0, 2), 2, 0, "ba").acts(g -> g.write(2, 3), 1, 2, "b");
    }

    static void p03_eachRefusalCounts() {
        Case.on(a(64)).refuses(g -> g.append(0, 1)).refuses(g -> g.append(0, 1)).tells(g -> g.house(2), 2);
    }

    static void p03_sheets0To2AreLet() {
        Case.on("a", "b", "ab").acts(g -> g.append(0, 2), 3, 0, "aab").acts(g -> g.append(1, 0), 4, 1, "baab")
                .acts(g -> g.append(2, 1), 6, 2, "abbaab");
    }

    static void p03_noSheetBelow0() {
        Case.on("b").fails(INDEX, g -> g.append(-1, 0)).fails(INDEX, g -> g.append(LOWEST, 0));
    }

    static void p03_noSheetAbove2() {
        Case.on("b").fails(INDEX, g -> g.append(3, 0)).fails(INDEX, g -> g.append(HIGHEST, 0));
    }

    static void p03_noOtherBelow0() {
        Case.on("b").fails(INDEX, g -> g.append(0, -1)).fails(INDEX, g -> g.append(0, LOWEST));
    }

    static void p03_noOtherAbove2() {
        Case.on("b").fails(INDEX, g -> g.append(0, 3)).fails(INDEX, g -> g.append(0, HIGHEST));
    }

    static void p03_anExceptionGoesAheadOfRefusal() {
        Case.on(a(64)).fails(INDEX, g -> g.append(0, 3)).fails(INDEX, g -> g.append(0, -1));
    }

    // Promise 4: insertSign

    static void p04_atPlace0() {
        Case.on("aab").acts(g -> g.insertSign(0, 0, true), 4, 0, "baab");
    }

    static void p04_atPlaceLength() {
        Case.on("aab").acts(g -> g.insertSign(0, 3, true), 4, 0, "aabb").acts(g -> g.insertSign(0, 4, false), 5, 0, "aabba");
    }

    static void p04_whatStoodThereStandsOneFurther() {
        Case.on("abba").acts(g -> g.insertSign(0, 2, false), 5, 0, "ababa");
    }

    static void p04_anAOrAB() {
        Case.on("ab").acts(g -> g.insertSign(0, 1, false), 3, 0, "aab").acts(g -> g.insertSign(0, 1, true), 4, 0, "abab");
    }

    static void p04_intoAnEmptyOne() {
        Case.on("").acts(g -> g.insertSign(0, 0, true), 1, 0, "b");
    }

    static void p04_place1OfAnEmptyOneIsNotLet() {
        Case.on("").fails(INDEX, g -> g.insertSign(0, 1, true));
    }

    static void p04_placeBehindLengthIsNotLet() {
        Case.on("aab").fails(INDEX, g -> g.insertSign(0, 4, true)).fails(INDEX, g -> g.insertSign(0, 64, true))
                .fails(INDEX, g -> g.insertSign(0, HIGHEST, true));
    }

    static void p04_placeBelow0IsNotLet() {
        Case.on("aab").fails(INDEX, g -> g.insertSign(0, -1, true)).fails(INDEX, g -> g.insertSign(0, LOWEST, true));
    }

    static void p04_64IsLet() {
        Case.on(a(63)).acts(g -> g.insertSign(0, 63, true), 64, 0, a(63) + "b");
    }

    static void p04_64IsLetAtPlace0() {
        Case.on(a(62) + "b").acts(g -> g.insertSign(0, 0, true), 64, 0, "b" + a(62) + "b");
    }

    static void p04_65IsRefused() {
        Case.on("b" + a(63)).refuses(g -> g.insertSign(0, 64, true)).refuses(g -> g.insertSign(0, 0, false))
                .refuses(g -> g.insertSign(0, 30, true));
    }

    static void p04_anExceptionGoesAheadOfRefusal() {
        Case.on(a(64)).fails(INDEX, g -> g.insertSign(0, 65, true)).fails(INDEX, g -> g.insertSign(0, -1, true));
    }

    static void p04_sheets0To2AreLet() {
        Case.on("a", "b", "ab").acts(g -> g.insertSign(0, 0, true), 2, 0, "ba")
                .acts(g -> g.insertSign(1, 1, true), 2, 1, "bb").acts(g -> g.insertSign(2, 2, false), 3, 2, "aba");
    }

    static void p04_theSheetsOwnLengthCounts() {
        Case.on("a", "bbb", a(64)).fails(INDEX, g -> g.insertSign(0, 2, true))
                .acts(g -> g.insertSign(1, 3, false), 4, 1, "bbba");
    }

    static void p04_noSheetBelow0() {
        Case.on("b").fails(INDEX, g -> g.insertSign(-1, 0, true)).fails(INDEX, g -> g.insertSign(LOWEST, 0, true));
    }

    static void p04_noSheetAbove2() {
        Case.on("b").fails(INDEX, g -> g.insertSign(3, 0, true)).fails(INDEX, g -> g.insertSign(HIGHEST, 0, true));
    }

    // Promise 5: insertSheet

    static void p05_atPlace0() {
        Case.on("aab", "ba", "").acts(g -> g.insertSheet(0, 0, 1), 5, 0, "baaab");
    }

    static void p05_atPlaceLength() {
        Case.on("aab", "ba", "").acts(g -> g.insertSheet(0, 3, 1), 5, 0, "aabba");
    }

    static void p05_between() {
        Case.on("aabb", "ba", "").acts(g -> g.insertSheet(0, 1, 1), 6, 0, "abaabb");
    }

    static void p05_itselfAsItWas() {
        Case.on("abb").acts(g -> g.insertSheet(0, 1, 0), 6, 0, "aabbbb");
        Case.on("abb").acts(g -> g.insertSheet(0, 2, 0), 6, 0, "ababbb");
    }

    static void p05_itselfAtItsEnds() {
        Case.on("abb").acts(g -> g.insertSheet(0, 0, 0), 6, 0, "abbabb");
        Case.on("abb").acts(g -> g.insertSheet(0, 3, 0), 6, 0, "abbabb");
    }

    static void p05_anEmptyOther() {
        Case.on("ab", "", "").acts(g -> g.insertSheet(0, 1, 1), 2, 0, "ab");
    }

    static void p05_intoAnEmptyOne() {
        Case.on("", "bab", "").acts(g -> g.insertSheet(0, 0, 1), 3, 0, "bab");
    }

    static void p05_emptyIntoItself() {
        Case.on("").acts(g -> g.insertSheet(0, 0, 0), 0, 0, "");
    }

    static void p05_whatWasPutInGoesItsOwnWay() {
        Case.on("", "ab", "").acts(g -> g.insertSheet(0, 0, 1), 2, 0, "ab").acts(g -> g.setSign(1, 0, true), 1, 1, "bb")
                .acts(g -> g.exchange(0), 1, 0, "ba");
    }

    static void p05_64IsLet() {
        Case.on(a(40), b(24), "").acts(g -> g.insertSheet(0, 7, 1), 64, 0, a(7) + b(24) + a(33));
    }

    static void p05_65IsRefused() {
        Case.on(a(40), b(25), "").refuses(g -> g.insertSheet(0, 7, 1)).refuses(g -> g.insertSheet(0, 40, 1))
                .refuses(g -> g.insertSheet(0, 0, 1));
    }

    static void p05_itselfTo64IsLet() {
        Case.on(a(31) + "b").acts(g -> g.insertSheet(0, 1, 0), 64, 0, a(32) + "b" + a(30) + "b");
    }

    static void p05_itselfTo66IsRefused() {
        Case.on(a(32) + "b").refuses(g -> g.insertSheet(0, 1, 0));
    }

    static void p05_anEmptyOtherIntoAFullOne() {
        Case.on(a(63) + "b", "", "").acts(g -> g.insertSheet(0, 64, 1), 64, 0, a(63) + "b");
    }

    static void p05_aFullOneIntoAnEmptyOne() {
        Case.on("", a(63) + "b", "").acts(g -> g.insertSheet(0, 0, 1), 64, 0, a(63) + "b");
    }

    static void p05_placeBehindLengthIsNotLet() {
        Case.on("aab").fails(INDEX, g -> g.insertSheet(0, 4, 1)).fails(INDEX, g -> g.insertSheet(0, HIGHEST, 1));
        Case.on("").fails(INDEX, g -> g.insertSheet(0, 1, 1));
    }

    static void p05_placeBelow0IsNotLet() {
        Case.on("aab").fails(INDEX, g -> g.insertSheet(0, -1, 1)).fails(INDEX, g -> g.insertSheet(0, LOWEST, 1));
    }

    static void p05_lengthIsThatOfSheetNotOfOther() {
        Case.on("a", "bbb", "").fails(INDEX, g -> g.insertSheet(0, 2, 1)).acts(g -> g.insertSheet(1, 3, 0), 4, 1, "bbba");
    }

    static void p05_anExceptionGoesAheadOfRefusal() {
        Case.on(a(64)).fails(INDEX, g -> g.insertSheet(0, 65, 1)).fails(INDEX, g -> g.insertSheet(0, -1, 1))
                .fails(INDEX, g -> g.insertSheet(0, 0, 3)).fails(INDEX, g -> g.insertSheet(0, 0, -1));
    }

    static void p05_sheets0To2AreLet() {
        Case.on("a", "b", "ab").acts(g -> g.insertSheet(0, 1, 2), 3, 0, "aab")
                .acts(g -> g.insertSheet(1, 0, 0), 4, 1, "aabb").acts(g -> g.insertSheet(2, 1, 1), 6, 2, "aaabbb");
    }

    static void p05_noSheetBelow0() {
        Case.on("b").fails(INDEX, g -> g.insertSheet(-1, 0, 0)).fails(INDEX, g -> g.insertSheet(LOWEST, 0, 0));
    }

    static void p05_noSheetAbove2() {
        Case.on("b").fails(INDEX, g -> g.insertSheet(3, 0, 0)).fails(INDEX, g -> g.insertSheet(HIGHEST, 0, 0));
    }

    static void p05_noOtherBelow0() {
        Case.on("b").fails(INDEX, g -> g.insertSheet(0, 0, -1)).fails(INDEX, g -> g.insertSheet(0, 0, LOWEST));
    }

    static void p05_noOtherAbove2() {
        Case.on("b").fails(INDEX, g -> g.insertSheet(0, 0, 3)).fails(INDEX, g -> g.insertSheet(0, 0, HIGHEST));
    }

    // Promise 6: setSign

    static void p06_1IfTheOtherSignWasThere() {
        Case.on("aab").acts(g -> g.setSign(0, 1, true), 1, 0, "abb").acts(g -> g.setSign(0, 2, false), 1, 0, "aba");
    }

    static void p06_otherwise0() {
        Case.on("aab").acts(g -> g.setSign(0, 1, false), 0, 0, "aab").acts(g -> g.setSign(0, 2, true), 0, 0, "aab");
    }

    static void p06_place0IsLet() {
        Case.on("aab").acts(g -> g.setSign(0, 0, true), 1, 0, "bab");
    }

    static void p06_theLastPlaceIsLet() {
        Case.on("aab").acts(g -> g.setSign(0, 2, false), 1, 0, "aaa");
    }

    static void p06_placeLengthIsNotLet() {
        Case.on("aab").fails(INDEX, g -> g.setSign(0, 3, true)).fails(INDEX, g -> g.setSign(0, 4, true))
                .fails(INDEX, g -> g.setSign(0, 63, true)).fails(INDEX, g -> g.setSign(0, HIGHEST, true));
    }

    static void p06_placeBelow0IsNotLet() {
        Case.on("aab").fails(INDEX, g -> g.setSign(0, -1, true)).fails(INDEX, g -> g.setSign(0, LOWEST, false));
    }

    static void p06_anEmptyOneHasNoPlace() {
        Case.on("").fails(INDEX, g -> g.setSign(0, 0, true)).fails(INDEX, g -> g.setSign(0, 0, false));
    }

    static void p06_place63OfAFullOne() {
        Case.on(a(64)).acts(g -> g.setSign(0, 63, true), 1, 0, a(63) + "b").fails(INDEX, g -> g.setSign(0, 64, true));
    }

    static void p06_sheets0To2AreLet() {
        Case.on("a", "b", "ab").acts(g -> g.setSign(0, 0, true), 1, 0, "b")
                .acts(g -> g.setSign(1, 0, false), 1, 1, "a").acts(g -> g.setSign(2, 1, false), 1, 2, "aa");
    }

    static void p06_noSheetBelow0() {
        Case.on("b").fails(INDEX, g -> g.setSign(-1, 0, true)).fails(INDEX, g -> g.setSign(LOWEST, 0, true));
    }

    static void p06_noSheetAbove2() {
        Case.on("b").fails(INDEX, g -> g.setSign(3, 0, true)).fails(INDEX, g -> g.setSign(HIGHEST, 0, true));
    }

    // Promise 7: removeSign

    static void p07_1IfItWasAB() {
        Case.on("abab").acts(g -> g.removeSign(0, 1), 1, 0, "aab");
    }

    static void p07_0IfItWasAnA() {
        Case.on("abab").acts(g -> g.removeSign(0, 2), 0, 0, "abb");
    }

    static void p07_place0IsLet() {
        Case.on("baab").acts(g -> g.removeSign(0, 0), 1, 0, "aab");
    }

    static void p07_theLastPlaceIsLet() {
        Case.on("baab").acts(g -> g.removeSign(0, 3), 1, 0, "baa");
    }

    static void p07_placeLengthIsNotLet() {
        Case.on("aab").fails(INDEX, g -> g.removeSign(0, 3)).fails(INDEX, g -> g.removeSign(0, 64))
                .fails(INDEX, g -> g.removeSign(0, HIGHEST));
    }

    static void p07_placeBelow0IsNotLet() {
        Case.on("aab").fails(INDEX, g -> g.removeSign(0, -1)).fails(INDEX, g -> g.removeSign(0, LOWEST));
    }

    static void p07_theOnlySignGoes() {
        Case.on("b").acts(g -> g.removeSign(0, 0), 1, 0, "").fails(INDEX, g -> g.removeSign(0, 0));
    }

    static void p07_anEmptyOneHasNoPlace() {
        Case.on("").fails(INDEX, g -> g.removeSign(0, 0));
    }

    static void p07_fromAFullOne() {
        Case.on("b" + a(62) + "b").fails(INDEX, g -> g.removeSign(0, 64))
                .acts(g -> g.removeSign(0, 63), 1, 0, "b" + a(62)).acts(g -> g.removeSign(0, 0), 1, 0, a(62));
    }

    static void p07_sheets0To2AreLet() {
        Case.on("a", "ba", "aab").acts(g -> g.removeSign(0, 0), 0, 0, "").acts(g -> g.removeSign(1, 0), 1, 1, "a")
                .acts(g -> g.removeSign(2, 2), 1, 2, "aa");
    }

    static void p07_noSheetBelow0() {
        Case.on("b").fails(INDEX, g -> g.removeSign(-1, 0)).fails(INDEX, g -> g.removeSign(LOWEST, 0));
    }

    static void p07_noSheetAbove2() {
        Case.on("b").fails(INDEX, g -> g.removeSign(3, 0)).fails(INDEX, g -> g.removeSign(HIGHEST, 0));
    }

    // Promise 8: remove

    static void p08_howManyBsWentOut() {
        Case.on("babbab").acts(g -> g.remove(0, 1, 4), 2, 0, "bab");
    }

    static void p08_whatStandsAtToStays() {
        Case.on("aab").acts(g -> g.remove(0, 0, 2), 0, 0, "b");
    }

    static void p08_whatStandsAtFromGoes() {
        Case.on("baa").acts(g -> g.remove(0, 0, 1), 1, 0, "aa");
    }

    static void p08_fromEqualToTakesNothingOut() {
        Case.on("bab").acts(g -> g.remove(0, 0, 0), 0, 0, "bab").acts(g -> g.remove(0, 2, 2), 0, 0, "bab");
    }

    static void p08_fromAndToAtLength() {
        Case.on("bab").acts(g -> g.remove(0, 3, 3), 0, 0, "bab");
    }

    static void p08_allGoes() {
        Case.on("bab").acts(g -> g.remove(0, 0, 3), 2, 0, "");
    }

    static void p08_allOfAFullOneGoes() {
        Case.on(b(63) + "a").acts(g -> g.remove(0, 0, 64), 63, 0, "");
    }

    static void p08_nothingOfAnEmptyOne() {
        Case.on("").acts(g -> g.remove(0, 0, 0), 0, 0, "").fails(INDEX, g -> g.remove(0, 0, 1))
                .fails(INDEX, g -> g.remove(0, 1, 1));
    }

    static void p08_fromBelow0IsNotLet() {
        Case.on("bab").fails(INDEX, g -> g.remove(0, -1, 1)).fails(INDEX, g -> g.remove(0, -1, -1))
                .fails(INDEX, g -> g.remove(0, LOWEST, 2));
    }

    static void p08_fromAboveToIsNotLet() {
        Case.on("bab").fails(INDEX, g -> g.remove(0, 2, 1)).fails(INDEX, g -> g.remove(0, 3, 0))
                .fails(INDEX, g -> g.remove(0, 1, -1)).fails(INDEX, g -> g.remove(0, HIGHEST, LOWEST));
    }

    static void p08_toAboveLengthIsNotLet() {
        Case.on("bab").fails(INDEX, g -> g.remove(0, 0, 4)).fails(INDEX, g -> g.remove(0, 4, 4))
                .fails(INDEX, g -> g.remove(0, 3, 4)).fails(INDEX, g -> g.remove(0, 1, HIGHEST));
    }

    static void p08_sheets0To2AreLet() {
        Case.on("ab", "ba", "abb").acts(g -> g.remove(0, 0, 1), 0, 0, "b").acts(g -> g.remove(1, 0, 1), 1, 1, "a")
                .acts(g -> g.remove(2, 1, 3), 2, 2, "a");
    }

    static void p08_noSheetBelow0() {
        Case.on("b").fails(INDEX, g -> g.remove(-1, 0, 0)).fails(INDEX, g -> g.remove(LOWEST, 0, 0));
    }

    static void p08_noSheetAbove2() {
        Case.on("b").fails(INDEX, g -> g.remove(3, 0, 0)).fails(INDEX, g -> g.remove(HIGHEST, 0, 0));
    }

    // Promise 9: replace

    static void p09_otherComesInThePlace() {
        Case.on("aaaa", "bb", "").acts(g -> g.replace(0, 1, 2, 1), 5, 0, "abbaa");
    }

    static void p09_byAShorterOne() {
        Case.on("aaaa", "b", "").acts(g -> g.replace(0, 1, 4, 1), 2, 0, "ab");
    }

    static void p09_byOneOfTheSameLength() {
        Case.on("aaaa", "bb", "").acts(g -> g.replace(0, 1, 3, 1), 4, 0, "abba");
    }

    static void p09_byAnEmptyOne() {
        Case.on("abba", "", "").acts(g -> g.replace(0, 1, 3, 1), 2, 0, "aa");
    }

    static void p09_itselfAsItWas() {
        Case.on("abb").acts(g -> g.replace(0, 1, 2, 0), 5, 0, "aabbb");
        Case.on("abb").acts(g -> g.replace(0, 0, 2, 0), 4, 0, "abbb");
        Case.on("abb").acts(g -> g.replace(0, 0, 3, 0), 3, 0, "abb");
    }

    static void p09_fromEqualToPutsIn() {
        Case.on("aa", "bb", "").acts(g -> g.replace(0, 0, 0, 1), 4, 0, "bbaa");
        Case.on("aa", "bb", "").acts(g -> g.replace(0, 2, 2, 1), 4, 0, "aabb");
    }

    static void p09_allOfIt() {
        Case.on("aab", "b", "").acts(g -> g.replace(0, 0, 3, 1), 1, 0, "b");
    }

    static void p09_inAnEmptyOne() {
        Case.on("", "bab", "").acts(g -> g.replace(0, 0, 0, 1), 3, 0, "bab").acts(g -> g.replace(2, 0, 0, 2), 0, 2, "");
    }

    static void p09_whatCameGoesItsOwnWay() {
        Case.on("bba", "ab", "").acts(g -> g.replace(0, 0, 3, 1), 2, 0, "ab").acts(g -> g.setSign(1, 0, true), 1, 1, "bb")
                .acts(g -> g.exchange(0), 1, 0, "ba");
    }

    static void p09_64IsLet() {
        Case.on(a(40), b(25), "").acts(g -> g.replace(0, 3, 4, 1), 64, 0, a(3) + b(25) + a(36));
    }

    static void p09_65IsRefused() {
        Case.on(a(40), b(26), "").refuses(g -> g.replace(0, 3, 4, 1));
    }

    static void p09_itselfTo64IsLet() {
        Case.on(a(39) + "b").acts(g -> g.replace(0, 0, 16, 0), 64, 0, a(39) + "b" + a(23) + "b");
    }

    static void p09_itselfTo65IsRefused() {
        Case.on(a(39) + "b").refuses(g -> g.replace(0, 0, 15, 0));
    }

    static void p09_aFullOneForAFullOne() {
        Case.on(a(64), b(64), "").acts(g -> g.replace(0, 0, 64, 1), 64, 0, b(64));
    }

    static void p09_aFullOneFor63IsRefused() {
        Case.on(a(64), b(64), "").refuses(g -> g.replace(0, 0, 63, 1)).refuses(g -> g.replace(0, 1, 64, 1))
                .refuses(g -> g.replace(0, 0, 0, 1));
    }

    static void p09_fromBelow0IsNotLet() {
        Case.on("bab").fails(INDEX, g -> g.replace(0, -1, 1, 1)).fails(INDEX, g -> g.replace(0, LOWEST, 1, 1));
    }

    static void p09_fromAboveToIsNotLet() {
        Case.on("bab").fails(INDEX, g -> g.replace(0, 2, 1, 1)).fails(INDEX, g -> g.replace(0, 3, 0, 1))
                .fails(INDEX, g -> g.replace(0, HIGHEST, LOWEST, 1));
    }

    static void p09_toAboveLengthIsNotLet() {
        Case.on("bab").fails(INDEX, g -> g.replace(0, 0, 4, 1)).fails(INDEX, g -> g.replace(0, 4, 4, 1))
                .fails(INDEX, g -> g.replace(0, 3, HIGHEST, 1));
    }

    static void p09_lengthIsThatOfSheetNotOfOther() {
        Case.on("a", "bbb", "").fails(INDEX, g -> g.replace(0, 0, 2, 1)).acts(g -> g.replace(1, 2, 3, 0), 3, 1, "bba");
    }

    static void p09_anExceptionGoesAheadOfRefusal() {
        Case.on(a(64), b(64), "").fails(INDEX, g -> g.replace(0, 0, 65, 1)).fails(INDEX, g -> g.replace(0, 2, 1, 1))
                .fails(INDEX, g -> g.replace(0, -1, 1, 1)).fails(INDEX, g -> g.replace(0, 0, 0, 3));
    }

    static void p09_sheets0To2AreLet() {
        Case.on("a", "b", "ab").acts(g -> g.replace(0, 0, 1, 2), 2, 0, "ab").acts(g -> g.replace(1, 0, 1, 0), 2, 1, "ab")
                .acts(g -> g.replace(2, 0, 1, 1), 3, 2, "abb");
    }

    static void p09_noSheetBelow0() {
        Case.on("b").fails(INDEX, g -> g.replace(-1, 0, 0, 0)).fails(INDEX, g -> g.replace(LOWEST, 0, 0, 0));
    }

    static void p09_noSheetAbove2() {
        Case.on("b").fails(INDEX, g -> g.replace(3, 0, 0, 0)).fails(INDEX, g -> g.replace(HIGHEST, 0, 0, 0));
    }

    static void p09_noOtherBelow0() {
        Case.on("b").fails(INDEX, g -> g.replace(0, 0, 0, -1)).fails(INDEX, g -> g.replace(0, 0, 0, LOWEST));
    }

    static void p09_noOtherAbove2() {
        Case.on("b").fails(INDEX, g -> g.replace(0, 0, 0, 3)).fails(INDEX, g -> g.replace(0, 0, 0, HIGHEST));
    }

    public static void main(String[] arguments) throws IllegalAccessException {
        Sentences.runAllOf(WordSentencesTest.class);
    }
}
