import java.lang.reflect.InvocationTargetException;
import java.lang.reflect.Method;
import java.util.ArrayList;
import java.util.List;

/** Holds Wordgarden against the model: in runs of drawn calls, and on all short words, rules and growths. */
public final class ModelTest {
    /** Each call of the face and how its arguments are drawn. */
    private static final String[] CALLS = {
        "write sheet code", "append sheet sheet", "insertSign sheet place flag", "insertSheet sheet place sheet",
        "setSign sheet place flag", "removeSign sheet place", "remove sheet place place",
        "replace sheet place place sheet", "cutTo sheet size", "turn sheet", "exchange sheet", "rotate sheet place",
        "copy sheet sheet", "apply sheet rule rule", "undo sheet rule rule", "undo sheet rule rule",
        "lay growth sheet road", "twos sheet step road", "line sheet size size size", "grow growth turn",
        "grow growth turn", "shrink growth", "fresh growth", "length sheet", "isB sheet place", "text sheet",
        "count sheet flag", "find sheet sheet place", "findLast sheet sheet place", "order sheet sheet",
        "isMirrored sheet", "spread sheet place flag", "kinds sheet place flag", "times sheet", "overlaps sheet",
        "mirrors sheet", "folds sheet", "least sheet", "isApart rule rule", "turns growth", "grown growth flag",
        "size growth flag", "ups growth flag", "cross growth", "alike growth", "house what", "knock", "isSound",
        "digest",
    };
    private static final int[] FAR = {Integer.MIN_VALUE, Integer.MAX_VALUE, Integer.MIN_VALUE + 1, 1 << 30, -1, 65};
    private static final int RUNS = 400;
    private static final int CALLS_IN_RUN = 500;

    private static long seed = 20261119L;

    private static int draw(int below) {
        seed = seed * 6364136223846793005L + 1442695040888963407L;
        return (int) Math.floorMod(seed >>> 33, (long) below);
    }

    private static int drawOfKind(String kind, int length) {
        if (draw(40) == 0) {
            return FAR[draw(FAR.length)];
        }
        switch (kind) {
            case "sheet": return draw(30) == 0 ? 3 : draw(3);
            case "growth": return draw(30) == 0 ? 2 : draw(2);
            case "place": return draw(10) == 0 ? length - 1 + draw(3) : draw(length + 1);
            case "size": return draw(10) == 0 ? 62 + draw(4) : draw(draw(65) + 1);
            case "code": return draw(20) == 0 ? 65534 + draw(3) : draw(1 << draw(17));
            case "rule": return draw(30) == 0 ? draw(2) * 31 + 1 : 2 + draw(draw(3) == 0 ? 30 : 5);
            case "road": return draw(30) == 0 ? 3 : draw(3);
            case "step": return draw(30) == 0 ? 7 : draw(7);
            case "turn": return draw(30) == 0 ? draw(2) * 4 : 1 + draw(3);
            case "what": return draw(30) == 0 ? 4 : draw(4);
            default: throw new AssertionError(kind);
        }
    }

    private static Object[] drawArguments(String[] call, Model model) {
        Object[] arguments = new Object[call.length - 1];
        int length = 0;
        for (int i = 0; i < arguments.length; i++) {
            String kind = call[i + 1];
            if (kind.equals("flag")) {
                arguments[i] = draw(2) == 0;
                continue;
            }
            int drawn = drawOfKind(kind, length);
            arguments[i] = drawn;
            if (kind.equals("sheet") && i == 0 && drawn >= 0 && drawn <= 2) {
                length = model.length(drawn);
            }
        }
        return arguments;
    }

    private static Method method(Class<?> owner, String name) {
        for (Method method : owner.getMethods()) {
            if (method.getName().equals(name) && method.getDeclaringClass() == owner) {
                return method;
            }
        }
        throw new AssertionError(name);
    }

    private static String answer(Object owner, Method method, Object[] arguments) throws IllegalAccessException {
        try {
            return String.valueOf(method.invoke(owner, arguments));
        } catch (InvocationTargetException e) {
            return "throws." + e.getCause().getClass().getSimpleName();
        }
    }

    private static void drawnRun(int run, String[][] calls, Method[] own, Method[] due) throws IllegalAccessException {
        Wordgarden garden = new Wordgarden();
        Model model = new Model();
        // Acts alone at first, else questions would thin out the changes.
        for (int i = 0; i < CALLS_IN_RUN; i++) {
            int which = draw(draw(3) == 0 ? calls.length : 23);
            Object[] arguments = drawArguments(calls[which], model);
            String told = "run " + run + ", call " + i + ", " + String.join(" ", calls[which])
                    + " " + List.of(arguments);
            Checks.same(told, answer(garden, own[which], arguments), answer(model, due[which], arguments));
            if (i % 10 == 9) {
                Checks.same(told + ", digest then", garden.digest(), model.digest());
            }
        }
    }

    private static void drawnRuns() throws IllegalAccessException {
        String[][] calls = new String[CALLS.length][];
        Method[] own = new Method[CALLS.length];
        Method[] due = new Method[CALLS.length];
        for (int i = 0; i < CALLS.length; i++) {
            calls[i] = CALLS[i].split(" ");
            own[i] = method(Wordgarden.class, calls[i][0]);
            due[i] = method(Model.class, calls[i][0]);
        }
        for (int run = 0; run < RUNS; run++) {
            drawnRun(run, calls, own, due);
        }
    }

    private static void allShortWords() {
        Wordgarden garden = new Wordgarden();
        Model model = new Model();
        for (int code = 1; code < 4096; code++) {
            String told = "code " + code + ": ";
            Checks.same(told + "write", garden.write(1, code), model.write(1, code));
            Checks.same(told + "text", garden.text(1), model.text(1));
            Checks.same(told + "count", garden.count(1, false), model.count(1, false));
            Checks.same(told + "isMirrored", garden.isMirrored(1), model.isMirrored(1));
            Checks.same(told + "times", garden.times(1), model.times(1));
            Checks.same(told + "overlaps", garden.overlaps(1), model.overlaps(1));
            Checks.same(told + "mirrors", garden.mirrors(1), model.mirrors(1));
            Checks.same(told + "folds", garden.folds(1), model.folds(1));
            Checks.same(told + "least", garden.least(1), model.least(1));
            for (int length = 0; length <= model.length(1); length++) {
                for (boolean isRing : new boolean[] {false, true}) {
                    String asked = told + length + " " + isRing;
                    Checks.same(asked + " kinds", garden.kinds(1, length, isRing), model.kinds(1, length, isRing));
                    Checks.same(asked + " spread", garden.spread(1, length, isRing), model.spread(1, length, isRing));
                }
            }
        }
    }

    /** Each rule sent through all short words, there and back. */
    private static void allRules() {
        Wordgarden garden = new Wordgarden();
        Model model = new Model();
        for (int x = 2; x <= 31; x++) {
            for (int y = 2; y <= 31; y++) {
                String told = "rule " + x + " " + y;
                Checks.same(told + " isApart", garden.isApart(x, y), model.isApart(x, y));
                if (!model.isApart(x, y)) {
                    continue;
                }
                for (int code = 1; code < 64; code++) {
                    garden.write(0, code);
                    model.write(0, code);
                    String word = model.text(0);
                    Checks.same(told + " undo " + word, garden.undo(0, x, y), model.undo(0, x, y));
                    Checks.same(told + " undone " + word, garden.text(0), model.text(0));
                    garden.write(0, code);
                    model.write(0, code);
                    Checks.same(told + " apply " + word, garden.apply(0, x, y), model.apply(0, x, y));
                    Checks.same(told + " image of " + word, garden.text(0), model.text(0));
                    Checks.same(told + " back to " + word, garden.undo(0, x, y), word.length());
                    Checks.same(told + " is back at " + word, garden.text(0), word);
                    model.write(0, code);
                }
            }
        }
    }

    private static void allLines() {
        for (int length = 1; length <= 64; length++) {
            Wordgarden garden = new Wordgarden();
            for (int rise = 0; rise <= length; rise++) {
                for (int shift = 0; shift < length; shift += 1 + length / 8) {
                    garden.line(2, length, rise, shift);
                    Checks.same("line " + length + " " + rise + " " + shift, garden.text(2),
                            Model.onLine(length, rise, shift));
                }
            }
        }
    }

    /** All rows of turns that a growth can have. */
    private static void allGrowths(Wordgarden garden, List<Integer> turns) {
        String told = "turns " + turns + ": ";
        String[] due = Model.elderAndYounger(turns);
        Checks.same(told + "elder", garden.grown(1, true), due[0]);
        Checks.same(told + "younger", garden.grown(1, false), due[1]);
        for (int road = 0; road <= 2; road++) {
            Checks.same(told + "lay by road " + road, garden.lay(1, road, road), due[1].length());
            Checks.same(told + "laid by road " + road, garden.text(road), due[1]);
        }
        Checks.same(told + "cross", garden.cross(1), turns.size() % 2 == 0 ? 1 : -1);
        Checks.same(told + "alike", garden.alike(1), due[0].length() + due[1].length() - 2);
        Checks.same(told + "isSound", garden.isSound(), true);
        for (int turn = 1; turn <= 3; turn++) {
            int length = turn * due[1].length() + due[0].length();
            Checks.same(told + "grow " + turn, garden.grow(1, turn), length > 64 ? -9 : length);
            if (length <= 64) {
                turns.add(turn);
                allGrowths(garden, turns);
                turns.remove(turns.size() - 1);
                Checks.same(told + "shrink", garden.shrink(1), turn);
                Checks.same(told + "elder is back", garden.grown(1, true), due[0]);
                Checks.same(told + "younger is back", garden.grown(1, false), due[1]);
            }
        }
    }

    public static void main(String[] arguments) throws IllegalAccessException {
        drawnRuns();
        allShortWords();
        allRules();
        allLines();
        allGrowths(new Wordgarden(), new ArrayList<>());
        Checks.end("ModelTest");
    }
}
