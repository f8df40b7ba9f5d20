import java.util.List;

/** Promises 20 to 22 and 39 to 44, sentence by sentence: growths, and what is asked of them. */
public final class GrowthSentencesTest {
    private static final Class<?> INDEX = Case.INDEX;
    private static final Class<?> ARGUMENT = Case.ARGUMENT;
    private static final Class<?> STATE = Case.STATE;
    private static final int LOWEST = Case.LOWEST;
    private static final int HIGHEST = Case.HIGHEST;
    /** Turns that lead to a size of 64, and of 55 by as many turns as there can be. */
    private static final int[] FULL = {3, 3, 1, 3};
    private static final int[] MOST = {1, 1, 1, 1, 1, 1, 1, 1};

    // Promise 20: grow

    static void p20_aTurnOf1() {
        new Case().grows(g -> g.grow(0, 1), 2, 0, "1", "a", "ab");
    }

    static void p20_aTurnOf2() {
        new Case().grows(g -> g.grow(0, 2), 3, 0, "2", "a", "aab");
    }

    static void p20_aTurnOf3() {
        new Case().grows(g -> g.grow(0, 3), 4, 0, "3", "a", "aaab");
    }

    static void p20_theTurnsOfTheTerms() {
        new Case().grows(g -> g.grow(1, 1), 2, 1, "1", "a", "ab").grows(g -> g.grow(1, 1), 3, 1, "11", "ab", "aba")
                .grows(g -> g.grow(1, 2), 8, 1, "112", "aba", "abaabaab");
    }

    static void p20_copiesComeFirstElderBehindThem() {
        Case.grownBy(0, 2).grows(g -> g.grow(0, 3), 10, 0, "23", "aab", "aabaabaaba");
    }

    static void p20_turn0IsNotLet() {
        Case.grownBy(0, 1).fails(ARGUMENT, g -> g.grow(0, 0)).fails(ARGUMENT, g -> g.grow(0, -1))
                .fails(ARGUMENT, g -> g.grow(1, LOWEST));
    }

    static void p20_turn4IsNotLet() {
        Case.grownBy(0, 1).fails(ARGUMENT, g -> g.grow(0, 4)).fails(ARGUMENT, g -> g.grow(0, HIGHEST));
    }

    /** The last of the turns is put behind the others, and the size is as told then. */
    private static void growsTo(int size, Integer... turns) {
        int before = turns.length - 1;
        StringBuilder digits = new StringBuilder();
        Case stands = new Case();
        for (int i = 0; i < turns.length; i++) {
            digits.append(turns[i]);
            if (i < before) {
                stands.growing(0, turns[i]);
            }
        }
        String[] then = Model.elderAndYounger(List.of(turns));
        stands.grows(g -> g.grow(0, turns[before]), size, 0, digits.toString(), then[0], then[1]);
    }

    static void p20_62And63AreLet() {
        growsTo(62, 1, 1, 2, 3, 2);
        growsTo(63, 1, 2, 2, 1, 3);
        growsTo(63, 1, 2, 2, 1, 2, 1);
    }

    static void p20_64IsLetByATurnOf1() {
        growsTo(64, 1, 1, 1, 3, 1, 1, 1);
        growsTo(64, 3, 3, 1, 2, 1);
    }

    static void p20_64IsLetByATurnOf2() {
        growsTo(64, 2, 2, 1, 2, 2);
    }

    static void p20_64IsLetByATurnOf3() {
        growsTo(64, 3, 3, 1, 3);
    }

    static void p20_65IsRefused() {
        Case.grownBy(0, 1, 1, 2, 2).refuses(g -> g.grow(0, 3));
        Case.grownBy(0, 2, 2, 2, 1).refuses(g -> g.grow(0, 2));
        Case.grownBy(0, 1, 1, 2, 2, 2).refuses(g -> g.grow(0, 1));
    }

    static void p20_66IsRefused() {
        Case.grownBy(0, 1, 3, 1, 1, 1).refuses(g -> g.grow(0, 2));
    }

    static void p20_aFullOneIsRefused() {
        Case.grownBy(0, FULL).refuses(g -> g.grow(0, 1)).refuses(g -> g.grow(0, 2)).refuses(g -> g.grow(0, 3));
    }

    static void p20_aNinthTurnIsRefused() {
        Case.grownBy(1, MOST).refuses(g -> g.grow(1, 1));
    }

    static void p20_aSmallerTurnBehindARefusalIsLet() {
        String elder = "aabaabaaab".repeat(2) + "aabaaba";
        Case.grownBy(0, 2, 2, 1, 2).refuses(g -> g.grow(0, 3))
                .grows(g -> g.grow(0, 2), 64, 0, "22122", elder, elder.repeat(2) + "aabaabaaab");
    }

    static void p20_anExceptionGoesAheadOfRefusal() {
        Case.grownBy(0, FULL).fails(ARGUMENT, g -> g.grow(0, 4)).fails(ARGUMENT, g -> g.grow(0, 0))
                .fails(INDEX, g -> g.grow(2, 3));
    }

    static void p20_growths0And1AreLet() {
        new Case().grows(g -> g.grow(0, 2), 3, 0, "2", "a", "aab").grows(g -> g.grow(1, 1), 2, 1, "1", "a", "ab");
    }

    static void p20_noGrowthBelow0() {
        new Case().fails(INDEX, g -> g.grow(-1, 1)).fails(INDEX, g -> g.grow(LOWEST, 1));
    }

    static void p20_noGrowthAbove1() {
        new Case().fails(INDEX, g -> g.grow(2, 1)).fails(INDEX, g -> g.grow(HIGHEST, 1));
    }

    static void p20_growthGoesAheadOfTurn() {
        new Case().fails(INDEX, g -> g.grow(2, 0)).fails(INDEX, g -> g.grow(-1, 4));
    }

    // Promise 21: shrink

    static void p21_theLastTurnGoesOut() {
        Case.grownBy(0, 1, 1, 2).grows(g -> g.shrink(0), 2, 0, "11", "ab", "aba")
                .grows(g -> g.shrink(0), 1, 0, "1", "a", "ab").grows(g -> g.shrink(0), 1, 0, "", "b", "a");
    }

    static void p21_eachTurnIsAnswered() {
        Case.grownBy(0, 3).grows(g -> g.shrink(0), 3, 0, "", "b", "a");
        Case.grownBy(0, 2).grows(g -> g.shrink(0), 2, 0, "", "b", "a");
        Case.grownBy(0, 1).grows(g -> g.shrink(0), 1, 0, "", "b", "a");
        Case.grownBy(0, 2, 3).grows(g -> g.shrink(0), 3, 0, "2", "a", "aab");
    }

    static void p21_ofAFullOne() {
        Case.grownBy(0, FULL).grows(g -> g.shrink(0), 3, 0, "331", "aaabaaabaaaba", "aaabaaabaaabaaaab");
    }

    static void p21_onTheWayAgain() {
        Case.grownBy(0, 1, 3).grows(g -> g.shrink(0), 3, 0, "1", "a", "ab").grows(g -> g.grow(0, 2), 5, 0, "12", "ab", "ababa")
                .grows(g -> g.shrink(0), 2, 0, "1", "a", "ab");
    }

    static void p21_behindARefusalTheLastTurnIsStillThere() {
        Case.grownBy(0, FULL).refuses(g -> g.grow(0, 1)).grows(g -> g.shrink(0), 3, 0, "331", "aaabaaabaaaba", "aaabaaabaaabaaaab");
    }

    static void p21_withoutTurnsIsNotLet() {
        new Case().fails(STATE, g -> g.shrink(0)).fails(STATE, g -> g.shrink(1));
    }

    static void p21_withoutTurnsAfterTheLastOneWent() {
        Case.grownBy(1, 2).grows(g -> g.shrink(1), 2, 1, "", "b", "a").fails(STATE, g -> g.shrink(1));
        Case.grownBy(1, 2).grows(g -> g.fresh(1), 1, 1, "", "b", "a").fails(STATE, g -> g.shrink(1));
    }

    static void p21_theOtherGrowthsTurnsDoNotCount() {
        Case.grownBy(0, 2).fails(STATE, g -> g.shrink(1)).grows(g -> g.shrink(0), 2, 0, "", "b", "a");
    }

    static void p21_growthGoesAheadOfNoTurns() {
        new Case().fails(INDEX, g -> g.shrink(2)).fails(INDEX, g -> g.shrink(-1));
    }

    static void p21_noGrowthBelow0() {
        Case.grownBy(0, 1).fails(INDEX, g -> g.shrink(-1)).fails(INDEX, g -> g.shrink(LOWEST));
    }

    static void p21_noGrowthAbove1() {
        Case.grownBy(0, 1).fails(INDEX, g -> g.shrink(2)).fails(INDEX, g -> g.shrink(HIGHEST));
    }

    // Promise 22: fresh

    static void p22_howManyTurnsItHad() {
        Case.grownBy(0, 1).grows(g -> g.fresh(0), 1, 0, "", "b", "a");
        Case.grownBy(0, 3, 2, 1).grows(g -> g.fresh(0), 3, 0, "", "b", "a");
    }

    static void p22_withoutTurnsIsAnActToo() {
        new Case().grows(g -> g.fresh(0), 0, 0, "", "b", "a").grows(g -> g.fresh(1), 0, 1, "", "b", "a")
                .tells(g -> g.house(1), 2);
    }

    static void p22_ofAFullOne() {
        Case.grownBy(0, FULL).grows(g -> g.fresh(0), 4, 0, "", "b", "a");
    }

    static void p22_ofTheMostTurns() {
        Case.grownBy(0, MOST).grows(g -> g.fresh(0), 8, 0, "", "b", "a").grows(g -> g.grow(0, 2), 3, 0, "2", "a", "aab");
    }

    static void p22_theOtherGrowthStays() {
        Case.grownBy(0, 2).growing(1, 3, 1).grows(g -> g.fresh(1), 2, 1, "", "b", "a").tells(g -> g.turns(0), "2");
    }

    static void p22_noGrowthBelow0() {
        Case.grownBy(0, 1).fails(INDEX, g -> g.fresh(-1)).fails(INDEX, g -> g.fresh(LOWEST));
    }

    static void p22_noGrowthAbove1() {
        Case.grownBy(0, 1).fails(INDEX, g -> g.fresh(2)).fails(INDEX, g -> g.fresh(HIGHEST));
    }

    // Promise 39: turns

    static void p39_fromTheFirstOneOn() {
        Case.grownBy(0, 3, 1, 2).tells(g -> g.turns(0), "312");
    }

    static void p39_noneIsAnEmptyText() {
        Case.grownBy(0, 3).tells(g -> g.turns(1), "").grows(g -> g.fresh(0), 1, 0, "", "b", "a").tells(g -> g.turns(0), "");
    }

    static void p39_theMostTurns() {
        Case.grownBy(1, MOST).tells(g -> g.turns(1), "11111111");
    }

    static void p39_aRefusedTurnIsNotThere() {
        Case.grownBy(1, FULL).refuses(g -> g.grow(1, 1)).tells(g -> g.turns(1), "3313");
    }

    static void p39_aTurnThatWentIsNotThere() {
        Case.grownBy(0, 3, 1, 2).grows(g -> g.shrink(0), 2, 0, "31", "aaab", "aaaba").tells(g -> g.turns(0), "31");
    }

    static void p39_noGrowthBelow0() {
        Case.grownBy(0, 1).fails(INDEX, g -> g.turns(-1)).fails(INDEX, g -> g.turns(LOWEST));
    }

    static void p39_noGrowthAbove1() {
        Case.grownBy(0, 1).fails(INDEX, g -> g.turns(2)).fails(INDEX, g -> g.turns(HIGHEST));
    }

    // Promise 40: grown

    static void p40_elderIfItIsMeant() {
        Case.grownBy(1, 2, 1).tells(g -> g.grown(1, true), "aab").tells(g -> g.grown(0, true), "b");
    }

    static void p40_otherwiseYounger() {
        Case.grownBy(1, 2, 1).tells(g -> g.grown(1, false), "aaba").tells(g -> g.grown(0, false), "a");
    }

    static void p40_ofAFullOne() {
        String elder = "aaabaaabaaab" + "a" + "aaab";
        Case.grownBy(0, FULL).tells(g -> g.grown(0, true), elder)
                .tells(g -> g.grown(0, false), elder.repeat(3) + "aaabaaabaaaba");
    }

    static void p40_noGrowthBelow0() {
        Case.grownBy(0, 1).fails(INDEX, g -> g.grown(-1, true)).fails(INDEX, g -> g.grown(LOWEST, false));
    }

    static void p40_noGrowthAbove1() {
        Case.grownBy(0, 1).fails(INDEX, g -> g.grown(2, false)).fails(INDEX, g -> g.grown(HIGHEST, true));
    }

    // Promise 41: size

    static void p41_ofElderIfItIsMeant() {
        Case.grownBy(1, 2, 3).tells(g -> g.size(1, true), 3).tells(g -> g.size(0, true), 1);
    }

    static void p41_otherwiseOfYounger() {
        Case.grownBy(1, 2, 3).tells(g -> g.size(1, false), 10).tells(g -> g.size(0, false), 1);
    }

    static void p41_ofAFullOne() {
        Case.grownBy(0, FULL).tells(g -> g.size(0, false), 64).tells(g -> g.size(0, true), 17);
    }

    static void p41_noGrowthBelow0() {
        Case.grownBy(0, 1).fails(INDEX, g -> g.size(-1, true)).fails(INDEX, g -> g.size(LOWEST, false));
    }

    static void p41_noGrowthAbove1() {
        Case.grownBy(0, 1).fails(INDEX, g -> g.size(2, false)).fails(INDEX, g -> g.size(HIGHEST, true));
    }

    // Promise 42: ups

    static void p42_ofElderIfItIsMeant() {
        Case.grownBy(1, 2, 3).tells(g -> g.ups(1, true), 1).tells(g -> g.ups(0, true), 1);
    }

    static void p42_otherwiseOfYounger() {
        Case.grownBy(1, 2, 3).tells(g -> g.ups(1, false), 3).tells(g -> g.ups(0, false), 0);
    }

    static void p42_elderWithoutABAfterOneTurn() {
        Case.grownBy(0, 2).tells(g -> g.ups(0, true), 0).tells(g -> g.ups(0, false), 1);
    }

    static void p42_ofAFullOne() {
        Case.grownBy(0, FULL).tells(g -> g.ups(0, false), 15).tells(g -> g.ups(0, true), 4);
    }

    static void p42_noGrowthBelow0() {
        Case.grownBy(0, 1).fails(INDEX, g -> g.ups(-1, true)).fails(INDEX, g -> g.ups(LOWEST, false));
    }

    static void p42_noGrowthAbove1() {
        Case.grownBy(0, 1).fails(INDEX, g -> g.ups(2, false)).fails(INDEX, g -> g.ups(HIGHEST, true));
    }

    // Promise 43: cross

    static void p43_withoutTurns() {
        new Case().tells(g -> g.cross(0), 1).tells(g -> g.cross(1), 1);
    }

    static void p43_anOddNumberOfTurns() {
        Case.grownBy(0, 2).tells(g -> g.cross(0), -1);
        Case.grownBy(0, 1, 1, 2).tells(g -> g.cross(0), -1);
    }

    static void p43_anEvenNumberOfTurns() {
        Case.grownBy(0, 2, 3).tells(g -> g.cross(0), 1);
        Case.grownBy(0, FULL).tells(g -> g.cross(0), 64 * 4 - 17 * 15);
    }

    static void p43_ofTheMostTurns() {
        Case.grownBy(1, MOST).tells(g -> g.cross(1), 55 * 13 - 34 * 21).tells(g -> g.cross(0), 1);
    }

    static void p43_noGrowthBelow0() {
        Case.grownBy(0, 1).fails(INDEX, g -> g.cross(-1)).fails(INDEX, g -> g.cross(LOWEST));
    }

    static void p43_noGrowthAbove1() {
        Case.grownBy(0, 1).fails(INDEX, g -> g.cross(2)).fails(INDEX, g -> g.cross(HIGHEST));
    }

    // Promise 44: alike

    static void p44_withoutTurnsPlace0() {
        new Case().tells(g -> g.alike(0), 0).tells(g -> g.alike(1), 0);
    }

    static void p44_oneTurn() {
        // aba and aab, aaba and aaab, aaaba and aaaab
        Case.grownBy(0, 1).tells(g -> g.alike(0), 1);
        Case.grownBy(0, 2).tells(g -> g.alike(0), 2);
        Case.grownBy(0, 3).tells(g -> g.alike(0), 3);
    }

    static void p44_moreTurns() {
        // abaab and ababa
        Case.grownBy(0, 1, 1).tells(g -> g.alike(0), 3);
        Case.grownBy(0, 1, 1, 2).tells(g -> g.alike(0), 9);
    }

    static void p44_ofAFullOne() {
        Case.grownBy(0, FULL).tells(g -> g.alike(0), 79).tells(g -> g.alike(1), 0);
    }

    static void p44_ofTheMostTurns() {
        Case.grownBy(1, MOST).tells(g -> g.alike(1), 87);
    }

    static void p44_noGrowthBelow0() {
        Case.grownBy(0, 1).fails(INDEX, g -> g.alike(-1)).fails(INDEX, g -> g.alike(LOWEST));
    }

    static void p44_noGrowthAbove1() {
        Case.grownBy(0, 1).fails(INDEX, g -> g.alike(2)).fails(INDEX, g -> g.alike(HIGHEST));
    }

    public static void main(String[] arguments) throws IllegalAccessException {
        Sentences.runAllOf(GrowthSentencesTest.class);
    }
}
