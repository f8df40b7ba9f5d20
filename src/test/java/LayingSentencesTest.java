/** Promises 17 to 19, sentence by sentence: what is laid of a growth, of twos, of a line. */
public final class LayingSentencesTest {
    private static final Class<?> INDEX = Case.INDEX;
    private static final Class<?> ARGUMENT = Case.ARGUMENT;
    private static final int LOWEST = Case.LOWEST;
    private static final int HIGHEST = Case.HIGHEST;

    private static String a(int many) {
        return Case.a(many);
    }

    private static String b(int many) {
        return Case.b(many);
    }

    private static String exchanged(String word) {
        return word.replace('a', 'c').replace('b', 'a').replace('c', 'b');
    }

    // Promise 17: lay

    private static void layWithoutTurns(int road) {
        new Case().growing(1, 2).acts(g -> g.lay(0, 0, road), 1, 0, "a");
        Case.on(b(64)).acts(g -> g.lay(1, 0, road), 1, 0, "a");
    }

    static void p17_withoutTurnsByCopies() {
        layWithoutTurns(0);
    }

    static void p17_withoutTurnsByRules() {
        layWithoutTurns(1);
    }

    static void p17_withoutTurnsByItsLine() {
        layWithoutTurns(2);
    }

    private static void layOneTurn(int road) {
        Case.grownBy(0, 1).acts(g -> g.lay(0, 0, road), 2, 0, "ab");
        Case.grownBy(0, 2).acts(g -> g.lay(0, 0, road), 3, 0, "aab");
        Case.grownBy(0, 3).acts(g -> g.lay(0, 0, road), 4, 0, "aaab");
    }

    static void p17_oneTurnByCopies() {
        layOneTurn(0);
    }

    static void p17_oneTurnByRules() {
        layOneTurn(1);
    }

    static void p17_oneTurnByItsLine() {
        layOneTurn(2);
    }

    private static void layMoreTurns(int road) {
        Case.grownBy(0, 1, 1).acts(g -> g.lay(0, 0, road), 3, 0, "aba");
        Case.grownBy(0, 1, 2).acts(g -> g.lay(0, 0, road), 5, 0, "ababa");
        Case.grownBy(0, 2, 1).acts(g -> g.lay(0, 0, road), 4, 0, "aaba");
        Case.grownBy(0, 1, 1, 2).acts(g -> g.lay(0, 0, road), 8, 0, "abaabaab");
        Case.grownBy(0, 3, 1, 1).acts(g -> g.lay(0, 0, road), 9, 0, "aaabaaaab");
        Case.grownBy(0, 1, 3).acts(g -> g.lay(0, 0, road), 7, 0, "abababa");
    }

    static void p17_moreTurnsByCopies() {
        layMoreTurns(0);
    }

    static void p17_moreTurnsByRules() {
        layMoreTurns(1);
    }

    static void p17_moreTurnsByItsLine() {
        layMoreTurns(2);
    }

    /** Younger of the turns 3, 3, 1, 3. */
    private static String longest() {
        String second = "aaab".repeat(3) + "a";
        String third = second + "aaab";
        return third.repeat(3) + second;
    }

    private static void layTheLongest(int road) {
        Case.grownBy(0, 3, 3, 1, 3).acts(g -> g.lay(0, 0, road), 64, 0, longest());
    }

    static void p17_64ByCopies() {
        layTheLongest(0);
    }

    static void p17_64ByRules() {
        layTheLongest(1);
    }

    static void p17_64ByItsLine() {
        layTheLongest(2);
    }

    private static void layEightTurns(int road) {
        String word = "abaababaabaababaababaabaababaabaab" + "abaababaabaababaababa";
        Case.grownBy(1, 1, 1, 1, 1, 1, 1, 1, 1).acts(g -> g.lay(1, 2, road), 55, 2, word);
    }

    static void p17_eightTurnsByCopies() {
        layEightTurns(0);
    }

    static void p17_eightTurnsByRules() {
        layEightTurns(1);
    }

    static void p17_eightTurnsByItsLine() {
        layEightTurns(2);
    }

    static void p17_whatWasOnTheSheetGoes() {
        Case.on(b(64)).growing(0, 2).acts(g -> g.lay(0, 0, 0), 3, 0, "aab").acts(g -> g.cutTo(0, 5), 3, 0, "aabaa");
    }

    static void p17_whatIsLaidGoesItsOwnWay() {
        for (int road = 0; road <= 2; road++) {
            int by = road;
            Case.grownBy(0, 1, 1).acts(g -> g.lay(0, 0, by), 3, 0, "aba").acts(g -> g.setSign(0, 0, true), 1, 0, "bba")
                    .acts(g -> g.exchange(0), 1, 0, "aab").acts(g -> g.cutTo(0, 1), 3, 0, "a");
        }
    }

    static void p17_theGrowthGoesItsOwnWay() {
        for (int road = 0; road <= 2; road++) {
            int by = road;
            Case.grownBy(0, 1, 1).acts(g -> g.lay(0, 0, by), 3, 0, "aba")
                    .grows(g -> g.grow(0, 1), 5, 0, "111", "aba", "abaab").grows(g -> g.fresh(0), 3, 0, "", "b", "a");
        }
    }

    static void p17_theSameWordAgainIsAnActToo() {
        Case.grownBy(0, 1).acts(g -> g.lay(0, 0, 0), 2, 0, "ab").acts(g -> g.lay(0, 0, 0), 2, 0, "ab");
    }

    static void p17_growths0And1AreLet() {
        new Case().growing(0, 1).growing(1, 2).acts(g -> g.lay(0, 0, 0), 2, 0, "ab").acts(g -> g.lay(1, 0, 0), 3, 0, "aab")
                .acts(g -> g.lay(0, 0, 1), 2, 0, "ab").acts(g -> g.lay(1, 0, 2), 3, 0, "aab");
    }

    static void p17_noGrowthBelow0() {
        Case.on("b").fails(INDEX, g -> g.lay(-1, 0, 0)).fails(INDEX, g -> g.lay(LOWEST, 0, 0));
    }

    static void p17_noGrowthAbove1() {
        Case.on("b").fails(INDEX, g -> g.lay(2, 0, 0)).fails(INDEX, g -> g.lay(HIGHEST, 0, 0));
    }

    static void p17_sheets0To2AreLet() {
        Case.on("bb", "bb", "bb").growing(0, 1).acts(g -> g.lay(0, 0, 0), 2, 0, "ab")
                .acts(g -> g.lay(0, 1, 1), 2, 1, "ab").acts(g -> g.lay(0, 2, 2), 2, 2, "ab");
    }

    static void p17_noSheetBelow0() {
        Case.on("b").fails(INDEX, g -> g.lay(0, -1, 0)).fails(INDEX, g -> g.lay(0, LOWEST, 0));
    }

    static void p17_noSheetAbove2() {
        Case.on("b").fails(INDEX, g -> g.lay(0, 3, 0)).fails(INDEX, g -> g.lay(0, HIGHEST, 0));
    }

    static void p17_noRoadBelow0() {
        Case.on("b").fails(ARGUMENT, g -> g.lay(0, 0, -1)).fails(ARGUMENT, g -> g.lay(0, 0, LOWEST));
    }

    static void p17_noRoadAbove2() {
        Case.on("b").fails(ARGUMENT, g -> g.lay(0, 0, 3)).fails(ARGUMENT, g -> g.lay(1, 0, HIGHEST));
    }

    static void p17_growthAndSheetGoAheadOfRoad() {
        Case.on("b").fails(INDEX, g -> g.lay(2, 0, 3)).fails(INDEX, g -> g.lay(0, 3, -1))
                .fails(INDEX, g -> g.lay(-1, -1, 3));
    }

    // Promise 18: twos

    private static void layAllTwos(int road) {
        String word = "a";
        for (int step = 0; step <= 6; step++) {
            int to = step;
            Case.on("bb").acts(g -> g.twos(0, to, road), 1 << to, 0, word);
            word += exchanged(word);
        }
    }

    static void p18_byItsRule() {
        layAllTwos(0);
    }

    static void p18_byCopies() {
        layAllTwos(1);
    }

    static void p18_signBySign() {
        layAllTwos(2);
    }

    static void p18_step0IsA() {
        Case.on("bb").acts(g -> g.twos(0, 0, 0), 1, 0, "a").acts(g -> g.twos(0, 0, 1), 1, 0, "a")
                .acts(g -> g.twos(0, 0, 2), 1, 0, "a");
    }

    static void p18_step3() {
        Case.on("bb").acts(g -> g.twos(0, 3, 0), 8, 0, "abbabaab").acts(g -> g.twos(0, 3, 1), 8, 0, "abbabaab")
                .acts(g -> g.twos(0, 3, 2), 8, 0, "abbabaab");
    }

    static void p18_step6IsFull() {
        String eighth = "abbabaab";
        String other = exchanged(eighth);
        String word = eighth + other + other + eighth + other + eighth + eighth + other;
        Case.on("bb").acts(g -> g.twos(0, 6, 0), 64, 0, word).acts(g -> g.twos(0, 6, 1), 64, 0, word)
                .acts(g -> g.twos(0, 6, 2), 64, 0, word);
    }

    static void p18_whatWasOnTheSheetGoes() {
        Case.on(b(64)).acts(g -> g.twos(0, 1, 0), 2, 0, "ab").acts(g -> g.cutTo(0, 4), 2, 0, "abaa");
        Case.on(b(64)).acts(g -> g.twos(0, 1, 1), 2, 0, "ab");
        Case.on(b(64)).acts(g -> g.twos(0, 1, 2), 2, 0, "ab");
    }

    static void p18_noStepBelow0() {
        Case.on("b").fails(ARGUMENT, g -> g.twos(0, -1, 0)).fails(ARGUMENT, g -> g.twos(0, -1, 1))
                .fails(ARGUMENT, g -> g.twos(0, -1, 2)).fails(ARGUMENT, g -> g.twos(0, LOWEST, 2));
    }

    static void p18_noStepAbove6() {
        Case.on("b").fails(ARGUMENT, g -> g.twos(0, 7, 0)).fails(ARGUMENT, g -> g.twos(0, 7, 1))
                .fails(ARGUMENT, g -> g.twos(0, 7, 2)).fails(ARGUMENT, g -> g.twos(0, 32, 2))
                .fails(ARGUMENT, g -> g.twos(0, HIGHEST, 1));
    }

    static void p18_noRoadBelow0() {
        Case.on("b").fails(ARGUMENT, g -> g.twos(0, 0, -1)).fails(ARGUMENT, g -> g.twos(0, 6, LOWEST));
    }

    static void p18_noRoadAbove2() {
        Case.on("b").fails(ARGUMENT, g -> g.twos(0, 0, 3)).fails(ARGUMENT, g -> g.twos(0, 6, HIGHEST));
    }

    static void p18_sheets0To2AreLet() {
        Case.on("bb", "bb", "bb").acts(g -> g.twos(0, 1, 0), 2, 0, "ab").acts(g -> g.twos(1, 1, 1), 2, 1, "ab")
                .acts(g -> g.twos(2, 1, 2), 2, 2, "ab");
    }

    static void p18_noSheetBelow0() {
        Case.on("b").fails(INDEX, g -> g.twos(-1, 1, 0)).fails(INDEX, g -> g.twos(LOWEST, 1, 0));
    }

    static void p18_noSheetAbove2() {
        Case.on("b").fails(INDEX, g -> g.twos(3, 1, 0)).fails(INDEX, g -> g.twos(HIGHEST, 1, 0));
    }

    static void p18_sheetGoesAheadOfStepAndRoad() {
        Case.on("b").fails(INDEX, g -> g.twos(3, 7, 0)).fails(INDEX, g -> g.twos(-1, 0, 3)).fails(INDEX, g -> g.twos(3, -1, -1));
    }

    // Promise 19: line

    static void p19_theWordOfALine() {
        Case.on("").acts(g -> g.line(0, 5, 2, 0), 1, 0, "aabab");
    }

    static void p19_theShiftGoesIntoTheRest() {
        Case.on("").acts(g -> g.line(0, 5, 2, 1), 1, 0, "abaab").acts(g -> g.line(0, 5, 2, 2), 1, 0, "ababa")
                .acts(g -> g.line(0, 5, 2, 3), 1, 0, "baaba").acts(g -> g.line(0, 5, 2, 4), 1, 0, "babaa");
    }

    static void p19_1IfTheSheetHasAnotherWordThen() {
        Case.on("aabb").acts(g -> g.line(0, 5, 2, 0), 1, 0, "aabab");
        Case.on("aabaa").acts(g -> g.line(0, 5, 2, 0), 1, 0, "aabab");
        Case.on("aababa").acts(g -> g.line(0, 5, 2, 0), 1, 0, "aabab");
    }

    static void p19_otherwise0() {
        Case.on("aabab").acts(g -> g.line(0, 5, 2, 0), 0, 0, "aabab").acts(g -> g.line(0, 5, 2, 0), 0, 0, "aabab");
    }

    static void p19_rise0HasNoB() {
        for (int length : new int[] {1, 2, 5, 63, 64}) {
            Case.on("b").acts(g -> g.line(0, length, 0, 0), 1, 0, a(length))
                    .acts(g -> g.line(0, length, 0, length - 1), 0, 0, a(length));
        }
    }

    static void p19_riseLengthHasNoA() {
        for (int length : new int[] {1, 2, 5, 63, 64}) {
            Case.on("a").acts(g -> g.line(0, length, length, 0), 1, 0, b(length))
                    .acts(g -> g.line(0, length, length, length - 1), 0, 0, b(length));
        }
    }

    static void p19_oneBAndWhereItStands() {
        Case.on("").acts(g -> g.line(0, 64, 1, 0), 1, 0, a(63) + "b").acts(g -> g.line(0, 64, 1, 63), 1, 0, "b" + a(63))
                .acts(g -> g.line(0, 64, 1, 40), 1, 0, a(23) + "b" + a(40));
    }

    static void p19_oneAAndWhereItStands() {
        Case.on("").acts(g -> g.line(0, 64, 63, 0), 1, 0, "a" + b(63)).acts(g -> g.line(0, 64, 63, 63), 1, 0, b(63) + "a");
    }

    static void p19_length1IsLet() {
        Case.on("").acts(g -> g.line(0, 1, 0, 0), 1, 0, "a").acts(g -> g.line(0, 1, 1, 0), 1, 0, "b");
    }

    static void p19_length64IsLet() {
        Case.on("").acts(g -> g.line(0, 64, 32, 0), 1, 0, "ab".repeat(32)).acts(g -> g.line(0, 64, 32, 32), 1, 0, "ba".repeat(32));
    }

    static void p19_length0IsNotLet() {
        Case.on("b").fails(ARGUMENT, g -> g.line(0, 0, 0, 0)).fails(ARGUMENT, g -> g.line(0, 0, 0, -1))
                .fails(ARGUMENT, g -> g.line(0, -1, 0, 0)).fails(ARGUMENT, g -> g.line(0, LOWEST, 0, 0));
    }

    static void p19_lengthAbove64IsNotLet() {
        Case.on("b").fails(ARGUMENT, g -> g.line(0, 65, 0, 0)).fails(ARGUMENT, g -> g.line(0, 65, 65, 64))
                .fails(ARGUMENT, g -> g.line(0, HIGHEST, 1, 1));
    }

    static void p19_riseBelow0IsNotLet() {
        Case.on("b").fails(ARGUMENT, g -> g.line(0, 5, -1, 0)).fails(ARGUMENT, g -> g.line(0, 64, LOWEST, 0));
    }

    static void p19_riseAboveLengthIsNotLet() {
        Case.on("b").fails(ARGUMENT, g -> g.line(0, 5, 6, 0)).fails(ARGUMENT, g -> g.line(0, 1, 2, 0))
                .fails(ARGUMENT, g -> g.line(0, 64, 65, 0)).fails(ARGUMENT, g -> g.line(0, 63, 64, 0))
                .fails(ARGUMENT, g -> g.line(0, 5, HIGHEST, 0));
    }

    static void p19_shiftBelow0IsNotLet() {
        Case.on("b").fails(ARGUMENT, g -> g.line(0, 5, 2, -1)).fails(ARGUMENT, g -> g.line(0, 5, 2, LOWEST));
    }

    static void p19_shiftLengthIsNotLet() {
        Case.on("b").fails(ARGUMENT, g -> g.line(0, 5, 2, 5)).fails(ARGUMENT, g -> g.line(0, 1, 1, 1))
                .fails(ARGUMENT, g -> g.line(0, 64, 2, 64)).fails(ARGUMENT, g -> g.line(0, 5, 2, HIGHEST));
    }

    static void p19_sheets0To2AreLet() {
        Case.on("", "", "").acts(g -> g.line(0, 2, 1, 0), 1, 0, "ab").acts(g -> g.line(1, 2, 1, 1), 1, 1, "ba")
                .acts(g -> g.line(2, 3, 1, 0), 1, 2, "aab");
    }

    static void p19_noSheetBelow0() {
        Case.on("b").fails(INDEX, g -> g.line(-1, 5, 2, 0)).fails(INDEX, g -> g.line(LOWEST, 5, 2, 0));
    }

    static void p19_noSheetAbove2() {
        Case.on("b").fails(INDEX, g -> g.line(3, 5, 2, 0)).fails(INDEX, g -> g.line(HIGHEST, 5, 2, 0));
    }

    static void p19_sheetGoesAheadOfTheOthers() {
        Case.on("b").fails(INDEX, g -> g.line(3, 0, 0, 0)).fails(INDEX, g -> g.line(-1, 5, 6, 0))
                .fails(INDEX, g -> g.line(3, 5, 2, 5)).fails(INDEX, g -> g.line(-1, 65, -1, -1));
    }

    public static void main(String[] arguments) throws IllegalAccessException {
        Sentences.runAllOf(LayingSentencesTest.class);
    }
}
