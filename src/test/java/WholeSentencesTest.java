import java.math.BigInteger;
import java.util.ArrayList;
import java.util.List;

/** Promises 45 to 48, sentence by sentence: what is counted, knocks, soundness, the checksum. */
public final class WholeSentencesTest {
    private static final Class<?> INDEX = Case.INDEX;
    private static final Class<?> ARGUMENT = Case.ARGUMENT;
    private static final Class<?> STATE = Case.STATE;
    private static final int LOWEST = Case.LOWEST;
    private static final int HIGHEST = Case.HIGHEST;
    private static final BigInteger WRAP = BigInteger.ONE.shiftLeft(64);
    /** What the checksum takes of a sheet without signs and of a growth without turns. */
    private static final Object[] NO_SIGNS = {0, 0, 1, 0, 0, 0, 0};
    private static final Object[] NO_TURNS = {0, 1, 1, 0, 1, 1, 0};

    private static String a(int many) {
        return Case.a(many);
    }

    private static String b(int many) {
        return Case.b(many);
    }

    // Promise 45: house

    static void p45_0ActsOnSheets() {
        new Case().tells(g -> g.house(0), 0).acts(g -> g.write(0, 5), 2, 0, "ab").tells(g -> g.house(0), 1)
                .acts(g -> g.turn(0), 1, 0, "ba").tells(g -> g.house(0), 2);
    }

    static void p45_1ActsOnGrowths() {
        new Case().tells(g -> g.house(1), 0).grows(g -> g.grow(0, 1), 2, 0, "1", "a", "ab").tells(g -> g.house(1), 1)
                .grows(g -> g.shrink(0), 1, 0, "", "b", "a").tells(g -> g.house(1), 2)
                .grows(g -> g.fresh(1), 0, 1, "", "b", "a").tells(g -> g.house(1), 3);
    }

    static void p45_2HowOftenAnActToldMinus9() {
        Case.on(a(64)).growing(0, 3, 3, 1, 3).tells(g -> g.house(2), 0).refuses(g -> g.append(0, 1)).tells(g -> g.house(2), 1)
                .refuses(g -> g.grow(0, 1)).tells(g -> g.house(2), 2).refuses(g -> g.undo(0, 5, 6)).tells(g -> g.house(2), 3);
    }

    static void p45_3HowOftenOneKnocked() {
        new Case().tells(g -> g.house(3), 0).knocks(1).tells(g -> g.house(3), 1).knocks(2).tells(g -> g.house(3), 2);
    }

    static void p45_eachActOnSheetsIsDoneThoughAllStays() {
        Case.on("", "", "").acts(g -> g.write(0, 1), 0, 0, "").acts(g -> g.append(0, 1), 0, 0, "")
                .acts(g -> g.insertSheet(0, 0, 1), 0, 0, "").acts(g -> g.remove(0, 0, 0), 0, 0, "")
                .acts(g -> g.replace(0, 0, 0, 1), 0, 0, "").acts(g -> g.cutTo(0, 0), 0, 0, "")
                .acts(g -> g.turn(0), 0, 0, "").acts(g -> g.exchange(0), 0, 0, "").acts(g -> g.rotate(0, 0), 0, 0, "")
                .acts(g -> g.copy(0, 1), 0, 1, "").acts(g -> g.apply(0, 2, 3), 0, 0, "").acts(g -> g.undo(0, 2, 3), 0, 0, "")
                .tells(g -> g.house(0), 15);
        Case.on("a", "", "").acts(g -> g.setSign(0, 0, false), 0, 0, "a").acts(g -> g.lay(0, 0, 0), 1, 0, "a")
                .acts(g -> g.lay(0, 0, 1), 1, 0, "a").acts(g -> g.lay(0, 0, 2), 1, 0, "a").acts(g -> g.twos(0, 0, 0), 1, 0, "a")
                .acts(g -> g.twos(0, 0, 1), 1, 0, "a").acts(g -> g.twos(0, 0, 2), 1, 0, "a")
                .acts(g -> g.line(0, 1, 0, 0), 0, 0, "a").tells(g -> g.house(0), 11);
    }

    static void p45_insertSignAndRemoveSignAreActs() {
        Case.on("a", "", "").acts(g -> g.insertSign(0, 0, false), 2, 0, "aa").acts(g -> g.removeSign(0, 0), 0, 0, "a")
                .tells(g -> g.house(0), 5);
    }

    static void p45_layIsAnActOnSheetsOnly() {
        Case.grownBy(0, 1).acts(g -> g.lay(0, 0, 0), 2, 0, "ab").tells(g -> g.house(0), 1).tells(g -> g.house(1), 1);
    }

    static void p45_whatIsRefusedIsNoActDone() {
        Case.on(a(64)).refuses(g -> g.append(0, 0)).refuses(g -> g.insertSign(0, 0, true)).refuses(g -> g.insertSheet(0, 0, 1))
                .refuses(g -> g.replace(0, 0, 1, 0)).refuses(g -> g.apply(0, 5, 6)).refuses(g -> g.undo(0, 5, 6))
                .tells(g -> g.house(2), 6);
    }

    static void p45_aTurnThatIsRefusedIsNoActDone() {
        Case.grownBy(0, 3, 3, 1, 3).refuses(g -> g.grow(0, 3)).tells(g -> g.house(1), 4).tells(g -> g.house(2), 1);
    }

    static void p45_whatThrowsIsCountedNowhere() {
        new Case().fails(INDEX, g -> g.write(3, 5)).fails(ARGUMENT, g -> g.write(0, 0)).fails(STATE, g -> g.shrink(0))
                .fails(STATE, g -> g.undo(0, 2, 2)).fails(ARGUMENT, g -> g.grow(0, 4)).fails(INDEX, g -> g.text(3))
                .tells(g -> "" + g.house(0) + g.house(1) + g.house(2) + g.house(3), "0000");
    }

    static void p45_questionsOfSheetsAreCountedNowhere() {
        Case.on("ab").tells(g -> g.length(0), 2).tells(g -> g.isB(0, 0), false).tells(g -> g.text(0), "ab")
                .tells(g -> g.count(0, true), 1).tells(g -> g.find(0, 1, 0), -1).tells(g -> g.findLast(0, 1, 0), -1)
                .tells(g -> g.order(0, 1), -1).tells(g -> g.isMirrored(0), false).tells(g -> g.spread(0, 1, true), 1)
                .tells(g -> g.kinds(0, 1, true), 2);
        Case.on("ab").tells(g -> g.times(0), 1).tells(g -> g.overlaps(0), 0).tells(g -> g.mirrors(0), 2)
                .tells(g -> g.folds(0), 1).tells(g -> g.least(0), 0).tells(g -> g.isApart(2, 3), true);
    }

    static void p45_questionsOfGrowthsAreCountedNowhere() {
        Case.grownBy(0, 1).tells(g -> g.turns(0), "1").tells(g -> g.grown(0, true), "a").tells(g -> g.size(0, true), 1)
                .tells(g -> g.ups(0, true), 0).tells(g -> g.cross(0), -1).tells(g -> g.alike(0), 1)
                .tells(Wordgarden::isSound, true).tells(g -> g.house(0), 0);
    }

    static void p45_manyActsAreCounted() {
        Wordgarden garden = new Wordgarden();
        for (int done = 1; done <= 500; done++) {
            garden.turn(done % 3);
        }
        Checks.same("house 0", garden.house(0), 500);
        Checks.same("house 1", garden.house(1), 0);
        Checks.same("house 2", garden.house(2), 0);
        Checks.same("house 3", garden.house(3), 0);
    }

    static void p45_manyActsOnGrowthsAreCounted() {
        Wordgarden garden = new Wordgarden();
        for (int done = 1; done <= 500; done++) {
            garden.fresh(done % 2);
        }
        Checks.same("house 1", garden.house(1), 500);
        Checks.same("house 0", garden.house(0), 0);
        Checks.same("house 2", garden.house(2), 0);
    }

    static void p45_manyRefusalsAreCounted() {
        Wordgarden garden = new Wordgarden();
        garden.cutTo(2, 64);
        for (int told = 1; told <= 500; told++) {
            garden.append(2, 2);
        }
        Checks.same("house 2", garden.house(2), 500);
        Checks.same("house 0", garden.house(0), 1);
        Checks.same("house 3", garden.house(3), 0);
    }

    static void p45_whatBelow0IsNotLet() {
        new Case().fails(ARGUMENT, g -> g.house(-1)).fails(ARGUMENT, g -> g.house(LOWEST));
    }

    static void p45_whatAbove3IsNotLet() {
        new Case().fails(ARGUMENT, g -> g.house(4)).fails(ARGUMENT, g -> g.house(HIGHEST));
    }

    // Promise 46: knock

    static void p46_howOftenWithThis() {
        new Case().knocks(1).knocks(2).knocks(3);
    }

    static void p46_aKnockIsNoAct() {
        Case.on("ab").growing(0, 1).knocks(1).tells(g -> g.house(0), 6).tells(g -> g.house(1), 1).tells(g -> g.house(2), 0);
    }

    static void p46_eachObjectHasItsOwn() {
        Wordgarden one = new Wordgarden();
        one.knock();
        one.knock();
        new Case().knocks(1);
        Checks.same("the first one's next", one.knock(), 3);
    }

    static void p46_manyKnocks() {
        Wordgarden garden = new Wordgarden();
        for (int knock = 1; knock <= 511; knock++) {
            Checks.same("knock " + knock, garden.knock(), knock);
        }
        Checks.same("house 3", garden.house(3), 511);
    }

    // Promise 47: isSound

    static void p47_emptySheetsAndNoTurns() {
        new Case().tells(Wordgarden::isSound, true);
    }

    static void p47_fullSheets() {
        Case.on(a(64), b(64), "ab".repeat(32)).tells(Wordgarden::isSound, true);
    }

    static void p47_sheetsThatAreNotMirrored() {
        Case.on("abb", "ba", "aab").tells(Wordgarden::isSound, true);
    }

    static void p47_oddAndEvenNumbersOfTurns() {
        Case.grownBy(0, 2).tells(Wordgarden::isSound, true).growing(0, 3).tells(Wordgarden::isSound, true)
                .growing(0, 1).tells(Wordgarden::isSound, true).growing(1, 3).tells(Wordgarden::isSound, true)
                .growing(1, 2).tells(Wordgarden::isSound, true);
    }

    static void p47_fullGrowths() {
        Case.grownBy(0, 3, 3, 1, 3).growing(1, 1, 1, 1, 1, 1, 1, 1, 1).tells(Wordgarden::isSound, true);
    }

    static void p47_behindShrinkAndFresh() {
        Case.grownBy(0, 3, 3, 1).grows(g -> g.shrink(0), 1, 0, "33", "aaab", "aaabaaabaaaba")
                .tells(Wordgarden::isSound, true).grows(g -> g.fresh(0), 2, 0, "", "b", "a").tells(Wordgarden::isSound, true);
    }

    static void p47_behindRefusals() {
        Case.on(a(64)).growing(1, 3, 3, 1, 3).refuses(g -> g.append(0, 0)).refuses(g -> g.grow(1, 3)).refuses(g -> g.undo(0, 5, 6))
                .tells(Wordgarden::isSound, true);
    }

    // Promise 48: digest

    /** As the document tells it, but over numbers without an end that are brought back to 64 binary digits at last. */
    private static long sumOf(List<Integer> row) {
        BigInteger d = BigInteger.valueOf(7979);
        for (int v : row) {
            d = d.multiply(BigInteger.valueOf(31)).add(BigInteger.valueOf(v));
        }
        return d.mod(WRAP).longValue();
    }

    /** The numbers of a part of the row; the signs of a word stand as a text. */
    private static List<Integer> row(Object... parts) {
        List<Integer> row = new ArrayList<>();
        for (Object part : parts) {
            if (part instanceof String word) {
                for (char sign : word.toCharArray()) {
                    row.add(sign == 'a' ? 1 : 2);
                }
            } else {
                row.add((Integer) part);
            }
        }
        return row;
    }

    private static long sum(Object[]... parts) {
        List<Integer> row = new ArrayList<>();
        for (Object[] part : parts) {
            row.addAll(row(part));
        }
        return sumOf(row);
    }

    private static Object[] of(Object... row) {
        return row;
    }

    static void p48_ofANewObject() {
        new Case().tells(Wordgarden::digest, sum(NO_SIGNS, NO_SIGNS, NO_SIGNS, NO_TURNS, NO_TURNS, of(0, 0, 0, 0, 1)));
    }

    static void p48_lengthAndSignsOfASheet() {
        // aab: one b, not mirrored, aa, no overlap, aa|b, first from 0 on
        Case.on("aab", "", "").tells(Wordgarden::digest,
                sum(of(3, "aab", 1, 0, 2, 0, 1, 0), NO_SIGNS, NO_SIGNS, NO_TURNS, NO_TURNS, of(4, 0, 0, 0, 1)));
    }

    static void p48_sheetsFrom0On() {
        // ba: first from 1 on; bbb: three b's, mirrored, one overlap, folds at 0, 1, 2
        Case.on("b", "ba", "bbb").tells(Wordgarden::digest,
                sum(of(1, "b", 1, 1, 1, 0, 1, 0), of(2, "ba", 1, 0, 1, 0, 1, 1), of(3, "bbb", 3, 1, 3, 1, 3, 0),
                        NO_TURNS, NO_TURNS, of(8, 0, 0, 0, 1)));
    }

    static void p48_aSheetBetweenEmptyOnes() {
        // aabab: two b's, not mirrored, aa, no overlap, aa|bab, first from 0 on
        Case.on("", "aabab", "").tells(Wordgarden::digest,
                sum(NO_SIGNS, of(5, "aabab", 2, 0, 2, 0, 1, 0), NO_SIGNS, NO_TURNS, NO_TURNS, of(5, 0, 0, 0, 1)));
    }

    static void p48_turnsOfAGrowth() {
        // 2, 3: aab and aabaabaaba; aabaabaabaaab and aabaabaabaaba.. are alike up to place 11
        Case.grownBy(0, 2, 3).tells(Wordgarden::digest,
                sum(NO_SIGNS, NO_SIGNS, NO_SIGNS, of(2, 2, 3, 10, 3, 3, 1, 1, 11), NO_TURNS, of(0, 2, 0, 0, 1)));
    }

    static void p48_growthsFrom0OnAndACrossBelow0() {
        // 1: a and ab, cross 2 * 0 - 1 * 1; 3: a and aaab
        Case.grownBy(0, 1).growing(1, 3).tells(Wordgarden::digest,
                sum(NO_SIGNS, NO_SIGNS, NO_SIGNS, of(1, 1, 2, 1, 1, 0, -1, 1), of(1, 3, 4, 1, 1, 0, -1, 3), of(0, 2, 0, 0, 1)));
    }

    static void p48_housesFrom0To3() {
        Case.on(a(33), "", "").growing(0, 1).refuses(g -> g.append(0, 0)).refuses(g -> g.append(0, 0))
                .knocks(1).knocks(2).knocks(3).knocks(4).tells(Wordgarden::digest,
                        sum(of(33, a(33), 0, 1, 33, 16 * 16, 33, 0), NO_SIGNS, NO_SIGNS, of(1, 1, 2, 1, 1, 0, -1, 1), NO_TURNS,
                                of(3, 1, 2, 4, 1)));
    }

    static void p48_wrapsAroundWithFullSheets() {
        Case.on(a(64), b(64), a(63) + "b").tells(Wordgarden::digest,
                sum(of(64, a(64), 0, 1, 64, 31 * 32, 64, 0), of(64, b(64), 64, 1, 64, 31 * 32, 64, 0),
                        of(64, a(63), "b", 1, 0, 63, 31 * 31, 1, 0), NO_TURNS, NO_TURNS, of(68, 0, 0, 0, 1)));
    }

    static void p48_wrapsAroundWithFullGrowths() {
        Case.grownBy(0, 3, 3, 1, 3).growing(1, 1, 1, 1, 1, 1, 1, 1, 1).tells(Wordgarden::digest,
                sum(NO_SIGNS, NO_SIGNS, NO_SIGNS, of(4, 3, 3, 1, 3, 64, 17, 15, 4, 1, 79),
                        of(8, 1, 1, 1, 1, 1, 1, 1, 1, 55, 34, 21, 13, 1, 87), of(0, 12, 0, 0, 1)));
    }

    static void p48_theRowItselfInNumbers() {
        // Steps of the sum that leave 64 bits: 7979 times 31 to the power of 12 is above 2 to the power of 63.
        long d = 7979L;
        for (int v : new int[] {0, 0, 1, 0, 0, 0, 0, 0, 0, 1, 0, 0, 0, 0, 0, 0, 1, 0, 0, 0, 0,
            0, 1, 1, 0, 1, 1, 0, 0, 1, 1, 0, 1, 1, 0, 0, 0, 0, 0, 1}) {
            d = d * 31L + v;
        }
        new Case().tells(Wordgarden::digest, d);
    }

    static void p48_tellsTheSameAgain() {
        Wordgarden garden = new Wordgarden();
        garden.twos(0, 6, 0);
        garden.grow(0, 2);
        long first = garden.digest();
        Checks.same("again", garden.digest(), first);
        garden.knock();
        Checks.same("another one behind a knock", garden.digest() == first, false);
    }

    public static void main(String[] arguments) throws IllegalAccessException {
        Sentences.runAllOf(WholeSentencesTest.class);
    }
}
