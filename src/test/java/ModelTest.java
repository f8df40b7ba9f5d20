import java.util.ArrayList;
import java.util.Arrays;
import java.util.List;

/** Holds Wordgarden against the model: in runs of drawn calls, and on all short words, rules, lines and growths. */
public final class ModelTest {
    /** Each call of the face and how its arguments are drawn; acts first. */
    private static final String[] CALLS = {
        "write sheet code", "append sheet sheet", "insertSign sheet place flag", "insertSheet sheet place sheet",
        "setSign sheet place flag", "removeSign sheet place", "remove sheet place place",
        "replace sheet place place sheet", "cutTo sheet size", "turn sheet", "exchange sheet", "rotate sheet place",
        "copy sheet sheet", "apply sheet rule rule", "undo sheet rule rule", "undo sheet rule rule",
        "lay growth sheet road", "twos sheet step road", "line sheet size size size", "grow growth turn",
        "grow growth turn", "shrink growth", "fresh growth", "length sheet", "isB sheet place", "text sheet",
        "count sheet flag", "find sheet sheet place", "findLast sheet sheet place", "order sheet sheet",
        "isMirrored sheet", "spread sheet place flag", "kinds sheet place flag", "times sheet", "overlaps sheet",
        "mirrors sheet", "folds sheet", "least sheet", "isApart rule rule", "turns growth", "grown growth flag",
        "size growth flag", "ups growth flag", "cross growth", "alike growth", "house what", "knock", "isSound",
        "digest",
    };
    private static final int ACTS = 23;
    private static final int[] FAR = {Integer.MIN_VALUE, Integer.MAX_VALUE, Integer.MIN_VALUE + 1, 1 << 30, -1, 65};
    private static final int RUNS = 450;
    private static final int CALLS_BETWEEN_DIGESTS = 10;

    private static long seed = 20261119L;

    private static int draw(int below) {
        seed = seed * 6364136223846793005L + 1442695040888963407L;
        return (int) Math.floorMod(seed >>> 33, (long) below);
    }

    private static int drawOfKind(String kind, int length) {
        if (draw(40) == 0) {
            return FAR[draw(FAR.length)];
        }
        switch (kind) {
            case "sheet": return draw(30) == 0 ? 3 : draw(3);
            case "growth": return draw(30) == 0 ? 2 : draw(2);
            case "place": return draw(10) == 0 ? length - 1 + draw(3) : draw(length + 1);
            case "size": return draw(10) == 0 ? 62 + draw(4) : draw(draw(65) + 1);
            case "code": return draw(20) == 0 ? 65534 + draw(3) : draw(1 << draw(17));
            case "rule": return draw(30) == 0 ? draw(2) * 31 + 1 : 2 + draw(draw(3) == 0 ? 30 : 5);
            case "road": return draw(30) == 0 ? 3 : draw(3);
            case "step": return draw(30) == 0 ? 7 : draw(7);
            case "turn": return draw(30) == 0 ? draw(2) * 4 : 1 + draw(3);
            case "what": return draw(30) == 0 ? 4 : draw(4);
            default: throw new AssertionError(kind);
        }
    }

    private static Object[] drawArguments(Twin.Call call, Model model) {
        Object[] arguments = new Object[call.kinds.length];
        int length = 0;
        for (int i = 0; i < arguments.length; i++) {
            String kind = call.kinds[i];
            if (kind.equals("flag")) {
                arguments[i] = draw(2) == 0;
                continue;
            }
            int drawn = drawOfKind(kind, length);
            arguments[i] = drawn;
            if (kind.equals("sheet") && i == 0 && drawn >= 0 && drawn <= 2) {
                length = model.length(drawn);
            }
        }
        return arguments;
    }

    private static void drawnRun(int run, Twin.Call[] calls) throws IllegalAccessException {
        Twin twin = new Twin();
        for (int i = 0; twin.callsLeft() > 1; i++) {
            // Mostly acts, else questions would thin out the changes.
            Twin.Call call = calls[draw(draw(3) == 0 ? calls.length : ACTS)];
            Object[] arguments = drawArguments(call, twin.model);
            String told = "run " + run + ", call " + i + ", " + call.name + Arrays.toString(arguments);
            twin.call(told, call, arguments);
            if (i % CALLS_BETWEEN_DIGESTS == 0) {
                twin.sameDigest(told);
            }
        }
        twin.sameDigest("run " + run + ", its end");
    }

    private static void drawnRuns() throws IllegalAccessException {
        Twin.Call[] calls = new Twin.Call[CALLS.length];
        for (int i = 0; i < CALLS.length; i++) {
            calls[i] = new Twin.Call(CALLS[i]);
        }
        for (int run = 0; run < RUNS; run++) {
            drawnRun(run, calls);
        }
    }

    private static void sameOfWord(String told, int sheet, Wordgarden garden, Model model) {
        Checks.same(told + "text", garden.text(sheet), model.text(sheet));
        Checks.same(told + "count", garden.count(sheet, false), model.count(sheet, false));
        Checks.same(told + "isMirrored", garden.isMirrored(sheet), model.isMirrored(sheet));
        Checks.same(told + "times", garden.times(sheet), model.times(sheet));
        Checks.same(told + "overlaps", garden.overlaps(sheet), model.overlaps(sheet));
        Checks.same(told + "mirrors", garden.mirrors(sheet), model.mirrors(sheet));
        Checks.same(told + "folds", garden.folds(sheet), model.folds(sheet));
        Checks.same(told + "least", garden.least(sheet), model.least(sheet));
        for (int length = 0; length <= model.length(sheet); length++) {
            for (boolean isRing : new boolean[] {false, true}) {
                String asked = told + length + " " + isRing;
                Checks.same(asked + " kinds", garden.kinds(sheet, length, isRing), model.kinds(sheet, length, isRing));
                Checks.same(asked + " spread", garden.spread(sheet, length, isRing),
                        model.spread(sheet, length, isRing));
            }
        }
    }

    private static void allShortWords() {
        for (int code = 1; code < 4096; code++) {
            Wordgarden garden = new Wordgarden();
            Model model = new Model();
            String told = "code " + code + ": ";
            Checks.same(told + "write", garden.write(1, code), model.write(1, code));
            sameOfWord(told, 1, garden, model);
        }
    }

    /** Words of 64 signs and one fewer: a short one again and again, with one sign or another one set. */
    private static void longWords() {
        for (int code : new int[] {2, 3, 5, 9, 11, 19, 21, 45, 105, 700, 5000, 65535, 40000}) {
            for (int place : new int[] {-1, 0, 1, 31, 32, 47, 62, 63}) {
                for (int length = 63; length <= 64; length++) {
                    Twin twin = new Twin();
                    String word = Model.decoded(code).repeat(64).substring(0, length);
                    if (place >= 0 && place < length) {
                        word = word.substring(0, place) + (word.charAt(place) == 'a' ? 'b' : 'a')
                                + word.substring(place + 1);
                    }
                    twin.stand(new String[] {"", "", word}, new int[0][]);
                    sameOfWord(word + ": ", 2, twin.garden, twin.model);
                }
            }
        }
    }

    /** Each rule sent through all short words, there and back. */
    private static void allRules() {
        for (int x = 2; x <= 31; x++) {
            for (int y = 2; y <= 31; y++) {
                String told = "rule " + x + " " + y;
                Checks.same(told + " isApart", new Wordgarden().isApart(x, y), new Model().isApart(x, y));
                for (int code = 1; code < 64; code++) {
                    thereAndBack(told, x, y, code);
                }
            }
        }
    }

    private static void thereAndBack(String told, int x, int y, int code) {
        Wordgarden garden = new Wordgarden();
        Model model = new Model();
        garden.write(0, code);
        model.write(0, code);
        String word = model.text(0);
        boolean isApart = model.isApart(x, y);
        if (isApart) {
            Checks.same(told + " undo " + word, garden.undo(0, x, y), model.undo(0, x, y));
            Checks.same(told + " undone " + word, garden.text(0), model.text(0));
            garden.write(0, code);
            model.write(0, code);
        }
        Checks.same(told + " apply " + word, garden.apply(0, x, y), model.apply(0, x, y));
        Checks.same(told + " image of " + word, garden.text(0), model.text(0));
        if (isApart) {
            Checks.same(told + " back to " + word, garden.undo(0, x, y), word.length());
            Checks.same(told + " is back at " + word, garden.text(0), word);
        }
    }

    private static void allLines() {
        for (int length = 1; length <= 64; length++) {
            for (int rise = 0; rise <= length; rise++) {
                Wordgarden garden = new Wordgarden();
                for (int shift = 0; shift < length; shift++) {
                    garden.line(2, length, rise, shift);
                    Checks.same("line " + length + " " + rise + " " + shift, garden.text(2),
                            Model.onLine(length, rise, shift));
                }
            }
        }
    }

    private static Wordgarden grownBy(List<Integer> turns) {
        Wordgarden garden = new Wordgarden();
        for (int turn : turns) {
            garden.grow(1, turn);
        }
        return garden;
    }

    /** All rows of turns that a growth can have. */
    private static void allGrowths(List<Integer> turns) {
        String told = "turns " + turns + ": ";
        Wordgarden garden = grownBy(turns);
        String[] due = Model.elderAndYounger(turns);
        Checks.same(told + "elder", garden.grown(1, true), due[0]);
        Checks.same(told + "younger", garden.grown(1, false), due[1]);
        for (int road = 0; road <= 2; road++) {
            Checks.same(told + "lay by road " + road, garden.lay(1, road, road), due[1].length());
            Checks.same(told + "laid by road " + road, garden.text(road), due[1]);
        }
        Checks.same(told + "cross", garden.cross(1), turns.size() % 2 == 0 ? 1 : -1);
        Checks.same(told + "alike", garden.alike(1), due[0].length() + due[1].length() - 2);
        Checks.same(told + "isSound", garden.isSound(), true);
        for (int turn = 1; turn <= 3; turn++) {
            int length = turn * due[1].length() + due[0].length();
            Wordgarden next = grownBy(turns);
            Checks.same(told + "grow " + turn, next.grow(1, turn), length > 64 ? -9 : length);
            if (length <= 64) {
                Checks.same(told + "shrink", next.shrink(1), turn);
                List<Integer> more = new ArrayList<>(turns);
                more.add(turn);
                allGrowths(more);
            }
            Checks.same(told + "elder is back", next.grown(1, true), due[0]);
            Checks.same(told + "younger is back", next.grown(1, false), due[1]);
        }
    }

    public static void main(String[] arguments) throws IllegalAccessException {
        drawnRuns();
        allShortWords();
        longWords();
        allRules();
        allLines();
        allGrowths(new ArrayList<>());
        Checks.end("ModelTest");
    }
}
