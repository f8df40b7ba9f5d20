import java.util.function.IntSupplier;
import java.util.function.ToIntBiFunction;

/** Each promise of the document by hand: ordinary inputs, the edges that it names, wrong inputs. */
public final class PromiseTest {
    private static final Class<?> INDEX = IndexOutOfBoundsException.class;
    private static final Class<?> ARGUMENT = IllegalArgumentException.class;
    private static final Class<?> STATE = IllegalStateException.class;
    private static final String A64 = "a".repeat(64);
    private static final int[] NO_SHEETS = {-1, 3, Integer.MIN_VALUE, Integer.MAX_VALUE};
    private static final int[] NO_GROWTHS = {-1, 2, Integer.MIN_VALUE, Integer.MAX_VALUE};

    private interface Asked {
        void of(int number);
    }

    private static void put(Wordgarden garden, int sheet, String word) {
        garden.cutTo(sheet, word.length());
        for (int place = 0; place < word.length(); place++) {
            garden.setSign(sheet, place, word.charAt(place) == 'b');
        }
    }

    private static Wordgarden garden(String first, String second, String third) {
        Wordgarden garden = new Wordgarden();
        put(garden, 0, first);
        put(garden, 1, second);
        put(garden, 2, third);
        return garden;
    }

    private static Wordgarden garden(String first) {
        return garden(first, "", "");
    }

    private static Wordgarden grownBy(int growth, int... turns) {
        Wordgarden garden = new Wordgarden();
        for (int turn : turns) {
            garden.grow(growth, turn);
        }
        return garden;
    }

    private static String texts(Wordgarden garden) {
        return garden.text(0) + " " + garden.text(1) + " " + garden.text(2);
    }

    private static String houses(Wordgarden garden) {
        return garden.house(0) + " " + garden.house(1) + " " + garden.house(2) + " " + garden.house(3);
    }

    private static String growths(Wordgarden garden) {
        String all = "";
        for (int growth = 0; growth < 2; growth++) {
            all += garden.turns(growth) + "," + garden.grown(growth, true) + "," + garden.grown(growth, false) + " ";
        }
        return all;
    }

    private static void due(String what, Object got, Object want) {
        Checks.same(what, got, want);
    }

    /** An act on sheets: what it answers, the first sheet's word then, and that it was counted. */
    private static void act(String what, Wordgarden garden, IntSupplier call, int want, String then) {
        int before = garden.house(0);
        due(what, call.getAsInt(), want);
        due(what + ", the word then", garden.text(0), then);
        due(what + ", acts on sheets", garden.house(0), before + 1);
    }

    /** An act that is refused changes nothing but house(2). */
    private static void refused(String what, Wordgarden garden, IntSupplier call) {
        String before = texts(garden) + growths(garden) + garden.house(0) + garden.house(1);
        int refusals = garden.house(2);
        due(what, call.getAsInt(), -9);
        due(what + " changes nothing", texts(garden) + growths(garden) + garden.house(0) + garden.house(1), before);
        due(what + ", refusals", garden.house(2), refusals + 1);
    }

    private static void forNone(Wordgarden garden, int[] numbers, Class<?> kind, String what, Asked asked) {
        for (int number : numbers) {
            Checks.fails(garden, kind, what + " of " + number, () -> asked.of(number));
        }
    }

    private static void p01NewObject() {
        Wordgarden garden = new Wordgarden();
        due("new: texts", texts(garden), "  ");
        due("new: growths", growths(garden), ",b,a ,b,a ");
        due("new: houses", houses(garden), "0 0 0 0");
        garden.write(0, 9);
        garden.grow(1, 2);
        due("two objects are apart", texts(new Wordgarden()) + growths(new Wordgarden()), "  ,b,a ,b,a ");
    }

    private static void p02Write() {
        Wordgarden garden = garden("bbbb");
        act("write a", garden, () -> garden.write(0, 2), 1, "a");
        act("write b", garden, () -> garden.write(0, 3), 1, "b");
        act("write ab", garden, () -> garden.write(0, 5), 2, "ab");
        act("write aaab", garden, () -> garden.write(0, 17), 4, "aaab");
        act("write the same again", garden, () -> garden.write(0, 17), 4, "aaab");
        act("write nothing", garden, () -> garden.write(0, 1), 0, "");
        act("write the greatest", garden, () -> garden.write(0, 65535), 15, "b".repeat(15));
        act("write 32768", garden, () -> garden.write(0, 32768), 15, "a".repeat(15));
        garden.write(2, 6);
        due("write to another", texts(garden), "a".repeat(15) + "  ba");
        forNone(garden, new int[] {0, -1, 65536, Integer.MIN_VALUE, Integer.MAX_VALUE}, ARGUMENT, "write of code",
                code -> garden.write(0, code));
        forNone(garden, NO_SHEETS, INDEX, "write", sheet -> garden.write(sheet, 2));
        forNone(garden, NO_SHEETS, INDEX, "write of code 0", sheet -> garden.write(sheet, 0));
    }

    private static void p03Append() {
        Wordgarden garden = garden("ab", "bba", "");
        act("append", garden, () -> garden.append(0, 1), 5, "abbba");
        act("append nothing", garden, () -> garden.append(0, 2), 5, "abbba");
        act("append itself", garden, () -> garden.append(0, 0), 10, "abbbaabbba");
        due("others stay", texts(garden), "abbbaabbba bba ");
        Wordgarden full = garden("a".repeat(32), "a".repeat(33), "b");
        refused("append to 65", full, () -> full.append(0, 1));
        act("append itself to 64", full, () -> full.append(0, 0), 64, A64);
        refused("append to a full one", full, () -> full.append(0, 2));
        refused("append a full one to itself", full, () -> full.append(0, 0));
        refused("append to 66", full, () -> full.append(1, 1));
        forNone(full, NO_SHEETS, INDEX, "append", sheet -> full.append(sheet, 0));
        forNone(full, NO_SHEETS, INDEX, "append other", sheet -> full.append(0, sheet));
    }

    private static void p04InsertSign() {
        Wordgarden garden = garden("");
        act("insert into nothing", garden, () -> garden.insertSign(0, 0, true), 1, "b");
        act("insert at the begin", garden, () -> garden.insertSign(0, 0, false), 2, "ab");
        act("insert at the end", garden, () -> garden.insertSign(0, 2, false), 3, "aba");
        act("insert between", garden, () -> garden.insertSign(0, 1, true), 4, "abba");
        forNone(garden, new int[] {-1, 5, Integer.MIN_VALUE, Integer.MAX_VALUE}, INDEX, "insertSign at",
                place -> garden.insertSign(0, place, true));
        forNone(garden, NO_SHEETS, INDEX, "insertSign", sheet -> garden.insertSign(sheet, 0, true));
        Wordgarden full = garden("a".repeat(63));
        act("insert the last", full, () -> full.insertSign(0, 63, false), 64, A64);
        refused("insert one too many", full, () -> full.insertSign(0, 64, true));
        refused("insert one too many at 0", full, () -> full.insertSign(0, 0, true));
        Checks.fails(full, INDEX, "insertSign, full, at 65", () -> full.insertSign(0, 65, true));
    }

    private static void p05InsertSheet() {
        Wordgarden garden = garden("ab", "bb", "");
        act("insertSheet between", garden, () -> garden.insertSheet(0, 1, 1), 4, "abbb");
        act("insertSheet itself", garden, () -> garden.insertSheet(0, 1, 0), 8, "aabbbbbb");
        act("insertSheet at the begin", garden, () -> garden.insertSheet(0, 0, 1), 10, "bbaabbbbbb");
        put(garden, 1, "aa");
        act("insertSheet at the end", garden, () -> garden.insertSheet(0, 10, 1), 12, "bbaabbbbbbaa");
        act("insertSheet nothing", garden, () -> garden.insertSheet(0, 5, 2), 12, "bbaabbbbbbaa");
        forNone(garden, new int[] {-1, 13, Integer.MIN_VALUE, Integer.MAX_VALUE}, INDEX, "insertSheet at",
                place -> garden.insertSheet(0, place, 1));
        forNone(garden, NO_SHEETS, INDEX, "insertSheet", sheet -> garden.insertSheet(sheet, 0, 0));
        forNone(garden, NO_SHEETS, INDEX, "insertSheet other", sheet -> garden.insertSheet(0, 0, sheet));
        Wordgarden full = garden("a".repeat(32), "a".repeat(33), "");
        refused("insertSheet to 65", full, () -> full.insertSheet(0, 3, 1));
        act("insertSheet itself to 64", full, () -> full.insertSheet(0, 32, 0), 64, A64);
        act("insertSheet nothing, full", full, () -> full.insertSheet(0, 64, 2), 64, A64);
        Checks.fails(full, INDEX, "insertSheet, full, at 65", () -> full.insertSheet(0, 65, 1));
    }

    private static void p06SetSign() {
        Wordgarden garden = garden("aba");
        act("setSign to the other", garden, () -> garden.setSign(0, 0, true), 1, "bba");
        act("setSign to the same", garden, () -> garden.setSign(0, 1, true), 0, "bba");
        act("setSign at the last place", garden, () -> garden.setSign(0, 2, true), 1, "bbb");
        act("setSign back", garden, () -> garden.setSign(0, 2, false), 1, "bba");
        forNone(garden, new int[] {-1, 3, 64, Integer.MIN_VALUE, Integer.MAX_VALUE}, INDEX, "setSign at",
                place -> garden.setSign(0, place, true));
        forNone(garden, new int[] {0, -1}, INDEX, "setSign in nothing at", place -> garden.setSign(1, place, true));
        forNone(garden, NO_SHEETS, INDEX, "setSign", sheet -> garden.setSign(sheet, 0, true));
        Wordgarden full = garden(A64);
        act("setSign at 63", full, () -> full.setSign(0, 63, true), 1, "a".repeat(63) + "b");
    }

    private static void p07RemoveSign() {
        Wordgarden garden = garden("abab");
        act("removeSign b", garden, () -> garden.removeSign(0, 1), 1, "aab");
        act("removeSign a", garden, () -> garden.removeSign(0, 0), 0, "ab");
        act("removeSign at the end", garden, () -> garden.removeSign(0, 1), 1, "a");
        forNone(garden, new int[] {-1, 1, Integer.MIN_VALUE, Integer.MAX_VALUE}, INDEX, "removeSign at",
                place -> garden.removeSign(0, place));
        act("removeSign the last one", garden, () -> garden.removeSign(0, 0), 0, "");
        Checks.fails(garden, INDEX, "removeSign from nothing", () -> garden.removeSign(0, 0));
        forNone(garden, NO_SHEETS, INDEX, "removeSign", sheet -> garden.removeSign(sheet, 0));
    }

    private static void p08Remove() {
        Wordgarden garden = garden("abbaab");
        act("remove a part", garden, () -> garden.remove(0, 1, 4), 2, "aab");
        act("remove nothing", garden, () -> garden.remove(0, 2, 2), 0, "aab");
        act("remove nothing at the end", garden, () -> garden.remove(0, 3, 3), 0, "aab");
        Checks.fails(garden, INDEX, "remove from -1", () -> garden.remove(0, -1, 1));
        Checks.fails(garden, INDEX, "remove to 4", () -> garden.remove(0, 0, 4));
        Checks.fails(garden, INDEX, "remove 4 to 4", () -> garden.remove(0, 4, 4));
        Checks.fails(garden, INDEX, "remove 2 to 1", () -> garden.remove(0, 2, 1));
        Checks.fails(garden, INDEX, "remove all far", () -> garden.remove(0, Integer.MIN_VALUE, Integer.MAX_VALUE));
        forNone(garden, NO_SHEETS, INDEX, "remove", sheet -> garden.remove(sheet, 0, 0));
        act("remove all", garden, () -> garden.remove(0, 0, 3), 1, "");
        act("remove nothing of nothing", garden, () -> garden.remove(0, 0, 0), 0, "");
        Wordgarden full = garden("b".repeat(64));
        act("remove 64", full, () -> full.remove(0, 0, 64), 64, "");
    }

    private static void p09Replace() {
        Wordgarden garden = garden("aaaa", "bb", "");
        act("replace a part", garden, () -> garden.replace(0, 1, 2, 1), 5, "abbaa");
        act("replace at the end", garden, () -> garden.replace(0, 3, 5, 1), 5, "abbbb");
        act("replace by itself", garden, () -> garden.replace(0, 1, 4, 0), 7, "aabbbbb");
        act("replace by nothing", garden, () -> garden.replace(0, 2, 6, 2), 3, "aab");
        act("replace nothing", garden, () -> garden.replace(0, 0, 0, 1), 5, "bbaab");
        act("replace all by itself", garden, () -> garden.replace(0, 0, 5, 0), 5, "bbaab");
        Checks.fails(garden, INDEX, "replace from -1", () -> garden.replace(0, -1, 1, 1));
        Checks.fails(garden, INDEX, "replace to 6", () -> garden.replace(0, 0, 6, 1));
        Checks.fails(garden, INDEX, "replace 6 to 6", () -> garden.replace(0, 6, 6, 1));
        Checks.fails(garden, INDEX, "replace 2 to 1", () -> garden.replace(0, 2, 1, 1));
        forNone(garden, NO_SHEETS, INDEX, "replace", sheet -> garden.replace(sheet, 0, 0, 1));
        forNone(garden, NO_SHEETS, INDEX, "replace other", sheet -> garden.replace(0, 0, 0, sheet));
        act("replace all by nothing", garden, () -> garden.replace(0, 0, 5, 2), 0, "");
        Wordgarden full = garden("a".repeat(40), "a".repeat(25), A64);
        refused("replace to 65", full, () -> full.replace(0, 7, 7, 1));
        refused("replace by itself to 65", full, () -> full.replace(0, 0, 15, 0));
        act("replace to 64", full, () -> full.replace(0, 7, 8, 1), 64, A64);
        act("replace 64 by 64", full, () -> full.replace(0, 0, 64, 2), 64, A64);
        refused("replace 63 by 64", full, () -> full.replace(0, 0, 63, 2));
        Checks.fails(full, INDEX, "replace too long and to 65", () -> full.replace(0, 0, 65, 2));
    }

    private static void p10CutTo() {
        Wordgarden garden = garden("abbb");
        act("cutTo less", garden, () -> garden.cutTo(0, 2), 4, "ab");
        act("cutTo more", garden, () -> garden.cutTo(0, 5), 2, "abaaa");
        act("cutTo the same", garden, () -> garden.cutTo(0, 5), 5, "abaaa");
        act("cutTo 0", garden, () -> garden.cutTo(0, 0), 5, "");
        act("cutTo 64", garden, () -> garden.cutTo(0, 64), 0, A64);
        forNone(garden, new int[] {-1, 65, Integer.MIN_VALUE, Integer.MAX_VALUE}, ARGUMENT, "cutTo",
                length -> garden.cutTo(0, length));
        forNone(garden, NO_SHEETS, INDEX, "cutTo", sheet -> garden.cutTo(sheet, 1));
        forNone(garden, NO_SHEETS, INDEX, "cutTo 65", sheet -> garden.cutTo(sheet, 65));
    }

    private static void p11Turn() {
        Wordgarden garden = garden("aabab");
        act("turn", garden, () -> garden.turn(0), 1, "babaa");
        put(garden, 0, "abba");
        act("turn a mirrored one", garden, () -> garden.turn(0), 0, "abba");
        put(garden, 0, "");
        act("turn nothing", garden, () -> garden.turn(0), 0, "");
        put(garden, 0, "a".repeat(63) + "b");
        act("turn 64", garden, () -> garden.turn(0), 1, "b" + "a".repeat(63));
        forNone(garden, NO_SHEETS, INDEX, "turn", garden::turn);
    }

    private static void p12Exchange() {
        Wordgarden garden = garden("aabaa", "ab", "");
        act("exchange", garden, () -> garden.exchange(0), 4, "bbabb");
        act("exchange back", garden, () -> garden.exchange(0), 1, "aabaa");
        due("exchange nothing", garden.exchange(2), 0);
        due("others stay", texts(garden), "aabaa ab ");
        put(garden, 0, A64);
        act("exchange 64", garden, () -> garden.exchange(0), 64, "b".repeat(64));
        forNone(garden, NO_SHEETS, INDEX, "exchange", garden::exchange);
    }

    private static void p13Rotate() {
        Wordgarden garden = garden("abbab");
        act("rotate by 2", garden, () -> garden.rotate(0, 2), 1, "babab");
        act("rotate by 0", garden, () -> garden.rotate(0, 0), 0, "babab");
        act("rotate by all", garden, () -> garden.rotate(0, 5), 0, "babab");
        put(garden, 0, "abab");
        act("rotate to the same", garden, () -> garden.rotate(0, 2), 0, "abab");
        act("rotate by 3", garden, () -> garden.rotate(0, 3), 1, "baba");
        forNone(garden, new int[] {-1, 5, Integer.MIN_VALUE, Integer.MAX_VALUE}, ARGUMENT, "rotate by",
                many -> garden.rotate(0, many));
        forNone(garden, NO_SHEETS, INDEX, "rotate", sheet -> garden.rotate(sheet, 0));
        forNone(garden, NO_SHEETS, INDEX, "rotate by -1", sheet -> garden.rotate(sheet, -1));
        due("rotate nothing", garden.rotate(1, 0), 0);
        Checks.fails(garden, ARGUMENT, "rotate nothing by 1", () -> garden.rotate(1, 1));
        put(garden, 0, "a".repeat(63) + "b");
        act("rotate 64 by 63", garden, () -> garden.rotate(0, 63), 1, "b" + "a".repeat(63));
    }

    private static void p14Copy() {
        Wordgarden garden = garden("abb", "a", "");
        act("copy to another", garden, () -> garden.copy(0, 1), 1, "abb");
        due("both have it", texts(garden), "abb abb ");
        act("copy the same again", garden, () -> garden.copy(0, 1), 0, "abb");
        act("copy to itself", garden, () -> garden.copy(0, 0), 0, "abb");
        garden.setSign(1, 0, true);
        due("a copy goes its own way", texts(garden), "abb bbb ");
        act("copy nothing", garden, () -> garden.copy(2, 0), 1, "");
        forNone(garden, NO_SHEETS, INDEX, "copy", sheet -> garden.copy(sheet, 0));
        forNone(garden, NO_SHEETS, INDEX, "copy into", sheet -> garden.copy(0, sheet));
        put(garden, 1, A64);
        act("copy 64", garden, () -> garden.copy(1, 0), 1, A64);
    }

    private static void p15Apply() {
        Wordgarden garden = garden("abb");
        act("apply", garden, () -> garden.apply(0, 5, 2), 4, "abaa");
        act("apply the longest", garden, () -> garden.apply(0, 31, 17), 16, "bbbbaaabbbbbbbbb");
        act("apply to the same", garden, () -> garden.apply(0, 2, 3), 16, "bbbbaaabbbbbbbbb");
        act("apply a rule that is not apart", garden, () -> garden.apply(0, 2, 4), 29,
                "a".repeat(29));
        put(garden, 0, "");
        act("apply to nothing", garden, () -> garden.apply(0, 31, 31), 0, "");
        forNone(garden, new int[] {1, 32, 0, -1, Integer.MIN_VALUE, Integer.MAX_VALUE}, ARGUMENT, "apply x",
                x -> garden.apply(0, x, 2));
        forNone(garden, new int[] {1, 32, 0, -1, Integer.MIN_VALUE, Integer.MAX_VALUE}, ARGUMENT, "apply y",
                y -> garden.apply(0, 2, y));
        forNone(garden, NO_SHEETS, INDEX, "apply", sheet -> garden.apply(sheet, 2, 3));
        forNone(garden, NO_SHEETS, INDEX, "apply 1 1", sheet -> garden.apply(sheet, 1, 1));
        Wordgarden full = garden("a".repeat(16), "a".repeat(16) + "b", "");
        refused("apply to 68", full, () -> full.apply(1, 16, 16));
        refused("apply to 65", full, () -> full.apply(1, 16, 2));
        act("apply to 64", full, () -> full.apply(0, 16, 2), 64, A64);
        put(full, 0, "b".repeat(16));
        act("apply to b's, to 64", full, () -> full.apply(0, 2, 16), 64, A64);
        Checks.fails(full, ARGUMENT, "apply too long and x 1", () -> full.apply(0, 1, 31));
    }

    private static void p16Undo() {
        Wordgarden garden = garden("abaa");
        act("undo", garden, () -> garden.undo(0, 5, 2), 3, "abb");
        act("undo to the same", garden, () -> garden.undo(0, 2, 3), 3, "abb");
        refused("undo what is no image", garden, () -> garden.undo(0, 5, 2));
        put(garden, 0, "aabaab");
        // a -> a, b -> aab: the first a could be either, and which it is shows further on only.
        act("undo that looks ahead", garden, () -> garden.undo(0, 2, 9), 2, "bb");
        put(garden, 0, "aaabbbb");
        refused("undo of aa, abbb and a b too much", garden, () -> garden.undo(0, 4, 23));
        act("undo of aaa and four b's", garden, () -> garden.undo(0, 8, 3), 5, "abbbb");
        put(garden, 0, "abababbab");
        // a -> ab, b -> abb: which one it is shows at the third sign.
        act("undo of ab, ab, abb, ab", garden, () -> garden.undo(0, 5, 11), 4, "aaba");
        put(garden, 0, "");
        act("undo nothing", garden, () -> garden.undo(0, 5, 6), 0, "");
        put(garden, 0, "abb");
        refused("undo whose last sign is too much", garden, () -> garden.undo(0, 5, 6));
        Checks.fails(garden, STATE, "undo not apart", () -> garden.undo(0, 2, 4));
        Checks.fails(garden, STATE, "undo not apart, the same", () -> garden.undo(0, 5, 5));
        forNone(garden, new int[] {1, 32, 0, -1, Integer.MIN_VALUE, Integer.MAX_VALUE}, ARGUMENT, "undo x",
                x -> garden.undo(0, x, 2));
        forNone(garden, new int[] {1, 32, 0, -1, Integer.MIN_VALUE, Integer.MAX_VALUE}, ARGUMENT, "undo y",
                y -> garden.undo(0, 2, y));
        forNone(garden, NO_SHEETS, INDEX, "undo", sheet -> garden.undo(sheet, 2, 3));
        forNone(garden, NO_SHEETS, INDEX, "undo 1 1", sheet -> garden.undo(sheet, 1, 1));
        forNone(garden, NO_SHEETS, INDEX, "undo 2 2", sheet -> garden.undo(sheet, 2, 2));
        put(garden, 0, A64);
        act("undo 64 to 64", garden, () -> garden.undo(0, 2, 3), 64, A64);
        act("undo 64 to 16", garden, () -> garden.undo(0, 16, 3), 16, "a".repeat(16));
    }

    private static void p17Lay() {
        Wordgarden garden = grownBy(1, 1, 1, 2);
        for (int road = 0; road <= 2; road++) {
            int by = road;
            put(garden, 0, "bbbbbbbbbbbb");
            act("lay by road " + road, garden, () -> garden.lay(1, 0, by), 8, "abaabaab");
            act("lay without turns by road " + road, garden, () -> garden.lay(0, 0, by), 1, "a");
            Wordgarden one = grownBy(0, 1);
            act("lay ab by road " + road, one, () -> one.lay(0, 0, by), 2, "ab");
            Wordgarden three = grownBy(0, 3);
            act("lay aaab by road " + road, three, () -> three.lay(0, 0, by), 4, "aaab");
            Wordgarden long64 = grownBy(0, 3, 3, 1, 3);
            act("lay 64 by road " + road, long64, () -> long64.lay(0, 0, by), 64, long64.grown(0, false));
        }
        garden.lay(1, 2, 0);
        garden.setSign(2, 0, true);
        due("what is laid goes its own way", garden.grown(1, false), "abaabaab");
        forNone(garden, NO_GROWTHS, INDEX, "lay", growth -> garden.lay(growth, 0, 0));
        forNone(garden, NO_GROWTHS, INDEX, "lay by road 3", growth -> garden.lay(growth, 0, 3));
        forNone(garden, NO_SHEETS, INDEX, "lay to", sheet -> garden.lay(0, sheet, 0));
        forNone(garden, NO_SHEETS, INDEX, "lay by road -1 to", sheet -> garden.lay(0, sheet, -1));
        forNone(garden, new int[] {-1, 3, Integer.MIN_VALUE, Integer.MAX_VALUE}, ARGUMENT, "lay by road",
                road -> garden.lay(0, 0, road));
    }

    private static void p18Twos() {
        String[] words = {"a", "ab", "abba", "abbabaab", "abbabaabbaababba"};
        for (int road = 0; road <= 2; road++) {
            Wordgarden garden = garden("bb");
            int by = road;
            for (int step = 0; step < words.length; step++) {
                int to = step;
                act("twos " + step + " by road " + road, garden, () -> garden.twos(0, to, by), 1 << step, words[step]);
            }
            String half = words[4] + words[4].replace('a', 'c').replace('b', 'a').replace('c', 'b');
            String whole = half + half.replace('a', 'c').replace('b', 'a').replace('c', 'b');
            act("twos 5 by road " + road, garden, () -> garden.twos(0, 5, by), 32, half);
            act("twos 6 by road " + road, garden, () -> garden.twos(0, 6, by), 64, whole);
            forNone(garden, new int[] {-1, 7, Integer.MIN_VALUE, Integer.MAX_VALUE}, ARGUMENT, "twos of step",
                    step -> garden.twos(0, step, by));
        }
        Wordgarden garden = garden("bb");
        forNone(garden, new int[] {-1, 3, Integer.MIN_VALUE, Integer.MAX_VALUE}, ARGUMENT, "twos by road",
                road -> garden.twos(0, 1, road));
        forNone(garden, NO_SHEETS, INDEX, "twos", sheet -> garden.twos(sheet, 1, 0));
        forNone(garden, NO_SHEETS, INDEX, "twos 7 3", sheet -> garden.twos(sheet, 7, 3));
    }

    private static void p19Line() {
        Wordgarden garden = garden("bb");
        act("line 5 2 0", garden, () -> garden.line(0, 5, 2, 0), 1, "aabab");
        act("line 5 2 0 again", garden, () -> garden.line(0, 5, 2, 0), 0, "aabab");
        act("line 5 2 4", garden, () -> garden.line(0, 5, 2, 4), 1, "babaa");
        act("line 3 0 2", garden, () -> garden.line(0, 3, 0, 2), 1, "aaa");
        act("line 3 3 0", garden, () -> garden.line(0, 3, 3, 0), 1, "bbb");
        act("line 1 0 0", garden, () -> garden.line(0, 1, 0, 0), 1, "a");
        act("line 1 1 0", garden, () -> garden.line(0, 1, 1, 0), 1, "b");
        act("line 64 1 63", garden, () -> garden.line(0, 64, 1, 63), 1, "b" + "a".repeat(63));
        act("line 64 64 63", garden, () -> garden.line(0, 64, 64, 63), 1, "b".repeat(64));
        forNone(garden, new int[] {0, -1, 65, Integer.MIN_VALUE, Integer.MAX_VALUE}, ARGUMENT, "line of length",
                length -> garden.line(0, length, 0, 0));
        forNone(garden, new int[] {-1, 6, Integer.MIN_VALUE, Integer.MAX_VALUE}, ARGUMENT, "line of rise",
                rise -> garden.line(0, 5, rise, 0));
        forNone(garden, new int[] {-1, 5, Integer.MIN_VALUE, Integer.MAX_VALUE}, ARGUMENT, "line of shift",
                shift -> garden.line(0, 5, 2, shift));
        forNone(garden, NO_SHEETS, INDEX, "line", sheet -> garden.line(sheet, 5, 2, 0));
        forNone(garden, NO_SHEETS, INDEX, "line 0 0 0", sheet -> garden.line(sheet, 0, 0, 0));
    }

    private static void p20Grow() {
        Wordgarden garden = new Wordgarden();
        due("grow 1", garden.grow(0, 1), 2);
        due("grow 1, then", growths(garden), "1,a,ab ,b,a ");
        due("grow 1 1", garden.grow(0, 1), 3);
        due("grow 1 1, then", growths(garden), "11,ab,aba ,b,a ");
        due("grow 1 1 2", garden.grow(0, 2), 8);
        due("grow 1 1 2, then", growths(garden), "112,aba,abaabaab ,b,a ");
        due("grow the other", garden.grow(1, 3), 4);
        due("grow the other, then", growths(garden), "112,aba,abaabaab 3,a,aaab ");
        due("grow is an act on growths", houses(garden), "0 4 0 0");
        Wordgarden full = grownBy(0, 3, 1, 3, 1);
        due("grow: so far", full.size(0, false), 24);
        refused("grow above 64", full, () -> full.grow(0, 3));
        Wordgarden many = grownBy(1, 1, 1, 1, 1, 1, 1, 1, 1);
        due("eight turns of 1", many.size(1, false), 55);
        refused("a ninth one", many, () -> many.grow(1, 1));
        Wordgarden edge = grownBy(0, 3, 3, 1);
        due("grow: 17", edge.size(0, false), 17);
        due("grow to 64", edge.grow(0, 3), 3 * 17 + 13);
        refused("grow from 64", edge, () -> edge.grow(0, 1));
        forNone(garden, new int[] {0, 4, -1, Integer.MIN_VALUE, Integer.MAX_VALUE}, ARGUMENT, "grow by",
                turn -> garden.grow(0, turn));
        Checks.fails(edge, ARGUMENT, "grow a full one by 4", () -> edge.grow(0, 4));
        forNone(garden, NO_GROWTHS, INDEX, "grow", growth -> garden.grow(growth, 1));
        forNone(garden, NO_GROWTHS, INDEX, "grow by 0", growth -> garden.grow(growth, 0));
    }

    private static void p21Shrink() {
        Wordgarden garden = grownBy(0, 1, 1, 2);
        garden.grow(1, 3);
        due("shrink 2", garden.shrink(0), 2);
        due("shrink 2, then", growths(garden), "11,ab,aba 3,a,aaab ");
        due("shrink 1", garden.shrink(0), 1);
        due("shrink 1, then", growths(garden), "1,a,ab 3,a,aaab ");
        due("grow again", garden.grow(0, 3), 7);
        due("grow again, then", growths(garden), "13,ab,abababa 3,a,aaab ");
        due("shrink 3", garden.shrink(0), 3);
        due("shrink the first", garden.shrink(0), 1);
        due("shrink the first, then", growths(garden), ",b,a 3,a,aaab ");
        due("shrink is an act on growths", houses(garden), "0 9 0 0");
        Checks.fails(garden, STATE, "shrink without turns", () -> garden.shrink(0));
        Checks.fails(new Wordgarden(), STATE, "shrink a new one", () -> new Wordgarden().shrink(1));
        forNone(garden, NO_GROWTHS, INDEX, "shrink", garden::shrink);
    }

    private static void p22Fresh() {
        Wordgarden garden = grownBy(1, 1, 2, 3);
        garden.grow(0, 2);
        due("fresh", garden.fresh(1), 3);
        due("fresh, then", growths(garden), "2,a,aab ,b,a ");
        due("fresh again", garden.fresh(1), 0);
        due("fresh is an act on growths", houses(garden), "0 6 0 0");
        due("grow behind it", garden.grow(1, 1), 2);
        due("grow behind it, then", growths(garden), "2,a,aab 1,a,ab ");
        forNone(garden, NO_GROWTHS, INDEX, "fresh", garden::fresh);
    }

    private static void p23Length() {
        Wordgarden garden = garden("abb", "", A64);
        due("length 3", garden.length(0), 3);
        due("length 0", garden.length(1), 0);
        due("length 64", garden.length(2), 64);
        forNone(garden, NO_SHEETS, INDEX, "length", garden::length);
    }

    private static void p24IsB() {
        Wordgarden garden = garden("abb", "", "a".repeat(63) + "b");
        due("isB at 0", garden.isB(0, 0), false);
        due("isB at 1", garden.isB(0, 1), true);
        due("isB at the last place", garden.isB(0, 2), true);
        due("isB at 62", garden.isB(2, 62), false);
        due("isB at 63", garden.isB(2, 63), true);
        forNone(garden, new int[] {-1, 3, 63, 64, Integer.MIN_VALUE, Integer.MAX_VALUE}, INDEX, "isB at",
                place -> garden.isB(0, place));
        Checks.fails(garden, INDEX, "isB at 64 of 64", () -> garden.isB(2, 64));
        Checks.fails(garden, INDEX, "isB of nothing", () -> garden.isB(1, 0));
        forNone(garden, NO_SHEETS, INDEX, "isB", sheet -> garden.isB(sheet, 0));
    }

    private static void p25Text() {
        Wordgarden garden = garden("abbab", "", "b" + "a".repeat(63));
        due("text", garden.text(0), "abbab");
        due("text of nothing", garden.text(1), "");
        due("text of 64", garden.text(2), "b" + "a".repeat(63));
        forNone(garden, NO_SHEETS, INDEX, "text", garden::text);
    }

    private static void p26Count() {
        Wordgarden garden = garden("abbab", "", A64);
        due("count b", garden.count(0, true), 3);
        due("count a", garden.count(0, false), 2);
        due("count b of nothing", garden.count(1, true), 0);
        due("count a of nothing", garden.count(1, false), 0);
        due("count a of 64", garden.count(2, false), 64);
        due("count b of 64", garden.count(2, true), 0);
        forNone(garden, NO_SHEETS, INDEX, "count", sheet -> garden.count(sheet, true));
    }

    private static void p27Find() {
        Wordgarden garden = garden("abaabaab", "aab", "");
        due("find", garden.find(0, 1, 0), 2);
        due("find from its place", garden.find(0, 1, 2), 2);
        due("find from behind it", garden.find(0, 1, 3), 5);
        due("find from behind the last", garden.find(0, 1, 6), -1);
        due("find from the end", garden.find(0, 1, 8), -1);
        due("find nothing", garden.find(0, 2, 3), 3);
        due("find nothing at the end", garden.find(0, 2, 8), 8);
        due("find nothing in nothing", garden.find(2, 2, 0), 0);
        due("find in nothing", garden.find(2, 1, 0), -1);
        due("find a longer one", garden.find(1, 0, 0), -1);
        due("find itself", garden.find(0, 0, 0), 0);
        due("find itself from 1", garden.find(0, 0, 1), -1);
        forNone(garden, new int[] {-1, 9, Integer.MIN_VALUE, Integer.MAX_VALUE}, INDEX, "find from",
                from -> garden.find(0, 1, from));
        forNone(garden, NO_SHEETS, INDEX, "find", sheet -> garden.find(sheet, 0, 0));
        forNone(garden, NO_SHEETS, INDEX, "find other", sheet -> garden.find(0, sheet, 0));
        put(garden, 0, "abab");
        garden.cutTo(0, 3);
        put(garden, 1, "ab");
        due("find does not see what was cut off", garden.find(0, 1, 1), -1);
        int acts = garden.house(0);
        garden.find(0, 1, 0);
        due("a question is no act", garden.house(0), acts);
    }

    private static void p28FindLast() {
        Wordgarden garden = garden("abaabaab", "aab", "");
        due("findLast", garden.findLast(0, 1, 8), 5);
        due("findLast from its place", garden.findLast(0, 1, 5), 5);
        due("findLast from ahead of it", garden.findLast(0, 1, 4), 2);
        due("findLast from ahead of the first", garden.findLast(0, 1, 1), -1);
        due("findLast from 0", garden.findLast(0, 1, 0), -1);
        due("findLast nothing", garden.findLast(0, 2, 3), 3);
        due("findLast nothing at the end", garden.findLast(0, 2, 8), 8);
        due("findLast nothing in nothing", garden.findLast(2, 2, 0), 0);
        due("findLast a longer one", garden.findLast(1, 0, 3), -1);
        due("findLast itself", garden.findLast(0, 0, 8), 0);
        forNone(garden, new int[] {-1, 9, Integer.MIN_VALUE, Integer.MAX_VALUE}, INDEX, "findLast from",
                from -> garden.findLast(0, 1, from));
        forNone(garden, NO_SHEETS, INDEX, "findLast", sheet -> garden.findLast(sheet, 0, 0));
        forNone(garden, NO_SHEETS, INDEX, "findLast other", sheet -> garden.findLast(0, sheet, 0));
    }

    private static void p29Order() {
        Wordgarden garden = garden("aba", "abb", "ab");
        due("order a ahead of b", garden.order(0, 1), -1);
        due("order b behind a", garden.order(1, 0), 1);
        due("order the shorter one ahead", garden.order(2, 0), -1);
        due("order the longer one behind", garden.order(0, 2), 1);
        due("order the same sheet", garden.order(1, 1), 0);
        garden.copy(0, 1);
        due("order the same word", garden.order(0, 1), 0);
        put(garden, 2, "");
        due("order nothing ahead", garden.order(2, 0), -1);
        put(garden, 1, "b");
        due("order a shorter one with b behind", garden.order(1, 0), 1);
        forNone(garden, NO_SHEETS, INDEX, "order", sheet -> garden.order(sheet, 0));
        forNone(garden, NO_SHEETS, INDEX, "order other", sheet -> garden.order(0, sheet));
    }

    private static void p30IsMirrored() {
        Wordgarden garden = garden("abaab", "abba", "");
        due("isMirrored abaab", garden.isMirrored(0), false);
        due("isMirrored abba", garden.isMirrored(1), true);
        due("isMirrored nothing", garden.isMirrored(2), true);
        put(garden, 0, "aba");
        due("isMirrored aba", garden.isMirrored(0), true);
        put(garden, 0, "ab");
        due("isMirrored ab", garden.isMirrored(0), false);
        put(garden, 0, "abbb");
        due("isMirrored abbb", garden.isMirrored(0), false);
        put(garden, 0, "abaa");
        due("isMirrored abaa", garden.isMirrored(0), false);
        put(garden, 0, "b" + "a".repeat(62) + "b");
        due("isMirrored 64", garden.isMirrored(0), true);
        forNone(garden, NO_SHEETS, INDEX, "isMirrored", garden::isMirrored);
    }

    private static void p31Spread() {
        Wordgarden garden = garden("abbba", "", "abab");
        due("spread parts of 3", garden.spread(0, 3, false), 1);
        due("spread ring parts of 3", garden.spread(0, 3, true), 2);
        due("spread parts of 2", garden.spread(0, 2, false), 1);
        due("spread ring parts of 2", garden.spread(0, 2, true), 2);
        due("spread parts of 1", garden.spread(0, 1, false), 1);
        due("spread parts of 0", garden.spread(0, 0, false), 0);
        due("spread ring parts of 0", garden.spread(0, 0, true), 0);
        due("spread all", garden.spread(0, 5, false), 0);
        due("spread the ring's words", garden.spread(0, 5, true), 0);
        due("spread of nothing", garden.spread(1, 0, false), 0);
        due("spread of nothing's ring", garden.spread(1, 0, true), 0);
        due("spread abab 2", garden.spread(2, 2, true), 0);
        put(garden, 2, "a".repeat(32) + "b".repeat(32));
        due("spread 64 by 32", garden.spread(2, 32, false), 32);
        forNone(garden, new int[] {-1, 6, Integer.MIN_VALUE, Integer.MAX_VALUE}, ARGUMENT, "spread of length",
                length -> garden.spread(0, length, true));
        Checks.fails(garden, ARGUMENT, "spread of nothing of 1", () -> garden.spread(1, 1, true));
        forNone(garden, NO_SHEETS, INDEX, "spread", sheet -> garden.spread(sheet, 0, false));
        forNone(garden, NO_SHEETS, INDEX, "spread of -1", sheet -> garden.spread(sheet, -1, false));
    }

    private static void p32Kinds() {
        Wordgarden garden = garden("abaab", "", "abab");
        due("kinds of parts of 2", garden.kinds(0, 2, false), 3);
        due("kinds of parts of 3", garden.kinds(0, 3, false), 3);
        due("kinds of ring parts of 3", garden.kinds(0, 3, true), 4);
        due("kinds of parts of 5", garden.kinds(0, 5, false), 1);
        due("kinds of the ring's words", garden.kinds(0, 5, true), 5);
        due("kinds of length 0", garden.kinds(0, 0, false), 1);
        due("kinds of ring length 0", garden.kinds(0, 0, true), 1);
        due("kinds of nothing", garden.kinds(1, 0, false), 1);
        due("kinds of nothing's ring", garden.kinds(1, 0, true), 1);
        due("kinds of abab's ring's words", garden.kinds(2, 4, true), 2);
        due("kinds of abab's parts of 1", garden.kinds(2, 1, false), 2);
        put(garden, 2, "a".repeat(63) + "b");
        due("kinds of 64's ring's words", garden.kinds(2, 64, true), 64);
        forNone(garden, new int[] {-1, 6, Integer.MIN_VALUE, Integer.MAX_VALUE}, ARGUMENT, "kinds of length",
                length -> garden.kinds(0, length, false));
        Checks.fails(garden, ARGUMENT, "kinds of nothing of 1", () -> garden.kinds(1, 1, true));
        forNone(garden, NO_SHEETS, INDEX, "kinds", sheet -> garden.kinds(sheet, 0, false));
        forNone(garden, NO_SHEETS, INDEX, "kinds of -1", sheet -> garden.kinds(sheet, -1, false));
    }

    private static void asked(String what, ToIntBiFunction<Wordgarden, Integer> question,
            String word, int want) {
        due(what + " " + word, question.applyAsInt(garden("b", "a", word), 2), want);
    }

    private static void p33Times() {
        asked("times", Wordgarden::times, "", 0);
        asked("times", Wordgarden::times, "a", 1);
        asked("times", Wordgarden::times, "ab", 1);
        asked("times", Wordgarden::times, "abb", 2);
        asked("times", Wordgarden::times, "abaabaabb", 2);
        asked("times", Wordgarden::times, "babaabaabaa", 3);
        asked("times", Wordgarden::times, "abababab", 4);
        asked("times", Wordgarden::times, "bbabababaa", 4);
        asked("times", Wordgarden::times, "b".repeat(64), 64);
        asked("times", Wordgarden::times, "ab".repeat(32), 32);
        Wordgarden garden = garden("ab");
        forNone(garden, NO_SHEETS, INDEX, "times", garden::times);
    }

    private static void p34Overlaps() {
        asked("overlaps", Wordgarden::overlaps, "", 0);
        asked("overlaps", Wordgarden::overlaps, "a", 0);
        asked("overlaps", Wordgarden::overlaps, "aa", 0);
        asked("overlaps", Wordgarden::overlaps, "aaa", 1);
        asked("overlaps", Wordgarden::overlaps, "abaab", 0);
        asked("overlaps", Wordgarden::overlaps, "ababa", 1);
        asked("overlaps", Wordgarden::overlaps, "aaaa", 2);
        asked("overlaps", Wordgarden::overlaps, "aaaaa", 4);
        asked("overlaps", Wordgarden::overlaps, "abbabaabbaababba", 0);
        asked("overlaps", Wordgarden::overlaps, "b".repeat(64), 31 * 32);
        Wordgarden garden = garden("aaa");
        forNone(garden, NO_SHEETS, INDEX, "overlaps", garden::overlaps);
    }

    private static void p35Mirrors() {
        asked("mirrors", Wordgarden::mirrors, "", 0);
        asked("mirrors", Wordgarden::mirrors, "a", 1);
        asked("mirrors", Wordgarden::mirrors, "aa", 2);
        asked("mirrors", Wordgarden::mirrors, "ab", 2);
        asked("mirrors", Wordgarden::mirrors, "abaab", 5);
        asked("mirrors", Wordgarden::mirrors, "aababbaa", 7);
        asked("mirrors", Wordgarden::mirrors, "aababbab", 8);
        asked("mirrors", Wordgarden::mirrors, A64, 64);
        Wordgarden garden = garden("aaa");
        forNone(garden, NO_SHEETS, INDEX, "mirrors", garden::mirrors);
    }

    private static void p36Folds() {
        asked("folds", Wordgarden::folds, "", 0);
        asked("folds", Wordgarden::folds, "a", 1);
        asked("folds", Wordgarden::folds, "aa", 2);
        asked("folds", Wordgarden::folds, "abaab", 1);
        asked("folds", Wordgarden::folds, "ab", 1);
        asked("folds", Wordgarden::folds, "aabb", 1);
        asked("folds", Wordgarden::folds, "aababb", 0);
        asked("folds", Wordgarden::folds, "aba", 1);
        asked("folds", Wordgarden::folds, A64, 64);
        Wordgarden garden = garden("aaa");
        forNone(garden, NO_SHEETS, INDEX, "folds", garden::folds);
    }

    private static void p37Least() {
        asked("least", Wordgarden::least, "", 0);
        asked("least", Wordgarden::least, "b", 0);
        asked("least", Wordgarden::least, "ba", 1);
        asked("least", Wordgarden::least, "abaab", 2);
        asked("least", Wordgarden::least, "baba", 1);
        asked("least", Wordgarden::least, "aaba", 3);
        asked("least", Wordgarden::least, "abab", 0);
        asked("least", Wordgarden::least, "b".repeat(63) + "a", 63);
        asked("least", Wordgarden::least, A64, 0);
        Wordgarden garden = garden("aaa");
        forNone(garden, NO_SHEETS, INDEX, "least", garden::least);
    }

    private static void p38IsApart() {
        Wordgarden garden = garden("ab");
        long before = garden.digest();
        due("isApart a b", garden.isApart(2, 3), true);
        due("isApart a a", garden.isApart(2, 2), false);
        due("isApart a aaaa", garden.isApart(2, 16), false);
        due("isApart ab abab", garden.isApart(5, 21), false);
        due("isApart ab ba", garden.isApart(5, 6), true);
        due("isApart bbbb aaab", garden.isApart(31, 17), true);
        due("isApart bbbb bbb", garden.isApart(31, 15), false);
        due("isApart aba abaa", garden.isApart(10, 20), true);
        due("isApart changes nothing", garden.digest(), before);
        int[] none = {1, 32, 0, -1, Integer.MIN_VALUE, Integer.MAX_VALUE};
        forNone(garden, none, ARGUMENT, "isApart x", x -> garden.isApart(x, 2));
        forNone(garden, none, ARGUMENT, "isApart y", y -> garden.isApart(2, y));
    }

    private static void p39Turns() {
        Wordgarden garden = grownBy(0, 3, 1, 2);
        due("turns", garden.turns(0), "312");
        due("no turns", garden.turns(1), "");
        forNone(garden, NO_GROWTHS, INDEX, "turns", garden::turns);
    }

    private static void p40Grown() {
        Wordgarden garden = grownBy(1, 2, 1);
        due("grown younger", garden.grown(1, false), "aaba");
        due("grown elder", garden.grown(1, true), "aab");
        due("grown younger at first", garden.grown(0, false), "a");
        due("grown elder at first", garden.grown(0, true), "b");
        forNone(garden, NO_GROWTHS, INDEX, "grown", growth -> garden.grown(growth, true));
    }

    private static void p41Size() {
        Wordgarden garden = grownBy(1, 2, 3);
        due("size younger", garden.size(1, false), 10);
        due("size elder", garden.size(1, true), 3);
        due("size younger at first", garden.size(0, false), 1);
        due("size elder at first", garden.size(0, true), 1);
        Wordgarden full = grownBy(0, 3, 3, 1, 3);
        due("size 64", full.size(0, false), 64);
        due("size of its elder", full.size(0, true), 17);
        forNone(garden, NO_GROWTHS, INDEX, "size", growth -> garden.size(growth, true));
    }

    private static void p42Ups() {
        Wordgarden garden = grownBy(1, 2, 3);
        due("ups younger", garden.ups(1, false), 3);
        due("ups elder", garden.ups(1, true), 1);
        due("ups younger at first", garden.ups(0, false), 0);
        due("ups elder at first", garden.ups(0, true), 1);
        forNone(garden, NO_GROWTHS, INDEX, "ups", growth -> garden.ups(growth, true));
    }

    private static void p43Cross() {
        Wordgarden garden = grownBy(1, 2, 3);
        due("cross at first", garden.cross(0), 1);
        due("cross of two", garden.cross(1), 1);
        garden.grow(1, 1);
        due("cross of three", garden.cross(1), -1);
        forNone(garden, NO_GROWTHS, INDEX, "cross", garden::cross);
    }

    private static void p44Alike() {
        Wordgarden garden = grownBy(1, 2);
        due("alike at first", garden.alike(0), 0);
        due("alike of one", garden.alike(1), 2);
        garden.grow(1, 3);
        due("alike of two", garden.alike(1), 11);
        Wordgarden full = grownBy(0, 3, 3, 1, 3);
        due("alike of the longest", full.alike(0), 64 + 17 - 2);
        forNone(garden, NO_GROWTHS, INDEX, "alike", garden::alike);
    }

    private static void p45House() {
        Wordgarden garden = new Wordgarden();
        garden.cutTo(0, 64);
        garden.cutTo(1, 3);
        garden.copy(1, 1);
        garden.append(0, 1);
        garden.insertSign(0, 0, true);
        garden.grow(0, 3);
        garden.fresh(1);
        garden.knock();
        due("houses", houses(garden), "3 2 2 1");
        garden.text(0);
        garden.count(0, true);
        garden.mirrors(0);
        garden.isSound();
        garden.digest();
        garden.isApart(2, 3);
        garden.find(1, 0, 0);
        due("questions count nowhere", houses(garden), "3 2 2 1");
        forNone(garden, new int[] {-1, 4, Integer.MIN_VALUE, Integer.MAX_VALUE}, ARGUMENT, "house", garden::house);
    }

    private static void p46Knock() {
        Wordgarden garden = new Wordgarden();
        due("knock", garden.knock(), 1);
        due("knock again", garden.knock(), 2);
        due("knocks", houses(garden), "0 0 0 2");
        due("knock elsewhere", new Wordgarden().knock(), 1);
    }

    private static void p47IsSound() {
        Wordgarden garden = garden("abbab", "", A64);
        due("isSound", garden.isSound(), true);
        due("isSound at first", new Wordgarden().isSound(), true);
        garden.grow(0, 3);
        garden.grow(1, 2);
        garden.grow(1, 3);
        due("isSound grown", garden.isSound(), true);
        due("isSound changes nothing", texts(garden) + growths(garden), "abbab  " + A64 + "3,a,aaab 23,aab,aabaabaaba ");
    }

    private static long digestOf(long... row) {
        long d = 7979;
        for (long v : row) {
            d = d * 31 + v;
        }
        return d;
    }

    private static void p48Digest() {
        Wordgarden garden = new Wordgarden();
        long[] atFirst = {
            0, 0, 1, 0, 0, 0, 0, 0, 0, 1, 0, 0, 0, 0, 0, 0, 1, 0, 0, 0, 0,
            0, 1, 1, 0, 1, 1, 0, 0, 1, 1, 0, 1, 1, 0, 0, 0, 0, 0, 1,
        };
        due("digest at first", garden.digest(), digestOf(atFirst));
        garden.write(0, 42);
        garden.write(2, 15);
        garden.grow(0, 1);
        garden.grow(0, 2);
        garden.lay(1, 1, 0);
        garden.insertSheet(2, 1, 2);
        garden.cutTo(1, 64);
        garden.append(1, 1);
        garden.cutTo(1, 1);
        garden.knock();
        long[] row = {
            5, 1, 2, 1, 2, 1, 2, 1, 2, 1, 1, 4,
            1, 1, 0, 1, 1, 0, 1, 0,
            6, 2, 2, 2, 2, 2, 2, 6, 1, 6, 6, 6, 0,
            2, 1, 2, 5, 2, 2, 1, 1, 5,
            0, 1, 1, 0, 1, 1, 0,
            6, 2, 1, 1, 1,
        };
        due("texts", texts(garden), "ababa a bbbbbb");
        due("digest", garden.digest(), digestOf(row));
        due("digest again", garden.digest(), digestOf(row));
    }

    public static void main(String[] arguments) {
        p01NewObject();
        p02Write();
        p03Append();
        p04InsertSign();
        p05InsertSheet();
        p06SetSign();
        p07RemoveSign();
        p08Remove();
        p09Replace();
        p10CutTo();
        p11Turn();
        p12Exchange();
        p13Rotate();
        p14Copy();
        p15Apply();
        p16Undo();
        p17Lay();
        p18Twos();
        p19Line();
        p20Grow();
        p21Shrink();
        p22Fresh();
        p23Length();
        p24IsB();
        p25Text();
        p26Count();
        p27Find();
        p28FindLast();
        p29Order();
        p30IsMirrored();
        p31Spread();
        p32Kinds();
        p33Times();
        p34Overlaps();
        p35Mirrors();
        p36Folds();
        p37Least();
        p38IsApart();
        p39Turns();
        p40Grown();
        p41Size();
        p42Ups();
        p43Cross();
        p44Alike();
        p45House();
        p46Knock();
        p47IsSound();
        p48Digest();
        Checks.end("PromiseTest");
    }
}
