import java.util.Arrays;
import java.util.LinkedHashSet;
import java.util.Set;

/** Each call of the face with all arguments around its bounds, on gardens that stand at theirs, against the model. */
public final class EdgeTest {
    private static final int LOWEST = Integer.MIN_VALUE;
    private static final int HIGHEST = Integer.MAX_VALUE;
    private static final String[] CALLS = {
        "write sheet code", "append sheet sheet", "insertSign sheet place flag", "insertSheet sheet place sheet",
        "setSign sheet place flag", "removeSign sheet place", "remove sheet place place",
        "replace sheet place place sheet", "cutTo sheet size", "turn sheet", "exchange sheet", "rotate sheet place",
        "copy sheet sheet", "apply sheet rule rule", "undo sheet rule rule", "lay growth sheet road",
        "twos sheet step road", "grow growth turn", "shrink growth", "fresh growth", "length sheet",
        "isB sheet place", "text sheet", "count sheet flag", "find sheet sheet place", "findLast sheet sheet place",
        "order sheet sheet", "isMirrored sheet", "spread sheet place flag", "kinds sheet place flag", "times sheet",
        "overlaps sheet", "mirrors sheet", "folds sheet", "least sheet", "isApart rule rule", "turns growth",
        "grown growth flag", "size growth flag", "ups growth flag", "cross growth", "alike growth", "house what",
        "knock", "isSound", "digest",
    };
    private static final String A64 = "a".repeat(64);
    private static final String[][] WORDS = {
        {"", "", ""},
        {"b", "", "ab"},
        {"abaab", "aab", "ab"},
        {"a".repeat(32), "b".repeat(33), "a".repeat(31) + "b"},
        {A64, "b", ""},
        {"a".repeat(63) + "b", "a".repeat(63), "b" + "a".repeat(63)},
        {"ab".repeat(32), "ab".repeat(16), "aaab".repeat(16)},
    };
    private static final int[][][] TURNS = {
        {{}, {}},
        {{2}, {1, 1, 1, 1, 1, 1, 1, 1}},
        {{3, 3, 1, 3}, {2, 3}},
        {{2, 2, 1, 2}, {1, 1, 2, 2}},
    };

    private static Set<Integer> numbers(Integer... numbers) {
        return new LinkedHashSet<>(Arrays.asList(numbers));
    }

    private static Set<Integer> fromTo(int first, int last) {
        Set<Integer> numbers = numbers(LOWEST, HIGHEST);
        for (int number = first; number <= last; number++) {
            numbers.add(number);
        }
        return numbers;
    }

    private static Set<Integer> around(int bound) {
        return numbers(LOWEST, -1, 0, 1, bound - 1, bound, bound + 1, HIGHEST);
    }

    private static Set<Integer> ofKind(String kind, int length) {
        switch (kind) {
            case "sheet": return numbers(-1, 0, 1, 2, 3);
            case "growth": return fromTo(-1, 2);
            case "flag": return numbers(0, 1);
            case "place":
                Set<Integer> places = around(length);
                places.addAll(numbers(2, length / 2, 63, 64, 65));
                return places;
            case "size": return numbers(LOWEST, -1, 0, 1, 2, 31, 32, 63, 64, 65, HIGHEST);
            case "code": return numbers(LOWEST, -1, 0, 1, 2, 3, 4, 32767, 32768, 65535, 65536, 65537, HIGHEST);
            case "rule": return numbers(LOWEST, -1, 0, 1, 2, 3, 4, 5, 6, 9, 16, 17, 31, 32, HIGHEST);
            case "road": return fromTo(-1, 3);
            case "step": return fromTo(-1, 7);
            case "turn": return fromTo(-1, 4);
            case "what": return fromTo(-1, 4);
            default: throw new AssertionError(kind);
        }
    }

    private static int lengthOf(Object sheet, String[] words) {
        return sheet instanceof Integer number && number >= 0 && number < words.length ? words[number].length() : 3;
    }

    private static void withAll(Twin.Call call, Object[] arguments, int at, String[] words, int[][] turns)
            throws IllegalAccessException {
        if (at == arguments.length) {
            once(call, arguments, words, turns);
            return;
        }
        String kind = call.kinds[at];
        for (int number : ofKind(kind, at == 0 ? 0 : lengthOf(arguments[0], words))) {
            if (kind.equals("flag")) {
                arguments[at] = number == 1;
            } else {
                arguments[at] = number;
            }
            withAll(call, arguments, at + 1, words, turns);
        }
    }

    private static void once(Twin.Call call, Object[] arguments, String[] words, int[][] turns)
            throws IllegalAccessException {
        String told = call.name + Arrays.toString(arguments) + " on " + Arrays.toString(words)
                + Arrays.deepToString(turns);
        Twin twin = new Twin();
        twin.stand(words, turns);
        twin.call(told, call, arguments);
        twin.sameSight(told);
    }

    private static boolean isOfGrowths(Twin.Call call) {
        return Arrays.asList(call.kinds).contains("growth");
    }

    /** All bounds of a line: those of its rise and its shift go with its length. */
    private static void lines() throws IllegalAccessException {
        Twin.Call line = new Twin.Call("line sheet size rise shift");
        for (int sheet : numbers(-1, 0, 2, 3)) {
            for (int length : ofKind("size", 0)) {
                for (int rise : around(length)) {
                    for (int shift : around(length)) {
                        once(line, new Object[] {sheet, length, rise, shift}, WORDS[2], TURNS[0]);
                    }
                }
            }
        }
    }

    public static void main(String[] arguments) throws IllegalAccessException {
        for (String told : CALLS) {
            Twin.Call call = new Twin.Call(told);
            for (String[] words : WORDS) {
                withAll(call, new Object[call.kinds.length], 0, words, TURNS[2]);
            }
            if (isOfGrowths(call)) {
                for (int[][] turns : TURNS) {
                    withAll(call, new Object[call.kinds.length], 0, WORDS[2], turns);
                }
            }
        }
        lines();
        Checks.end("EdgeTest");
    }
}
