import java.util.Arrays;

/** A garden that stands just so, and calls on it: what each one answers, what it changes, what it leaves as it was. */
final class Case {
    static final Class<?> INDEX = IndexOutOfBoundsException.class;
    static final Class<?> ARGUMENT = IllegalArgumentException.class;
    static final Class<?> STATE = IllegalStateException.class;
    static final int LOWEST = Integer.MIN_VALUE;
    static final int HIGHEST = Integer.MAX_VALUE;
    /** The document tells nothing of an object that has been called more often. */
    private static final int MOST_CALLS = 512;

    private final Wordgarden garden = new Wordgarden();
    private int calls;
    private int asked;

    /** A call of the face, or several of which the last one answers. */
    interface Call {
        Object of(Wordgarden garden);
    }

    /** What a garden shows of itself. */
    private static final class Sight {
        private final String[] words = new String[3];
        private final String[] growths = new String[2];
        private final int[] houses = new int[4];

        @Override
        public String toString() {
            return Arrays.toString(words) + Arrays.toString(growths) + Arrays.toString(houses);
        }
    }

    /** Sheet 0 has the word, and the others have some of their own, so that it shows if one of them changes. */
    static Case on(String word) {
        return on(word, "ba", "aab");
    }

    static Case on(String... words) {
        Case made = new Case();
        for (int sheet = 0; sheet < words.length; sheet++) {
            made.put(sheet, words[sheet]);
        }
        return made;
    }

    /** The word on a sheet, the other two empty. */
    static Case onSheet(int sheet, String word) {
        Case made = new Case();
        made.put(sheet, word);
        return made;
    }

    static Case grownBy(int growth, int... turns) {
        return new Case().growing(growth, turns);
    }

    static String a(int many) {
        return "a".repeat(many);
    }

    static String b(int many) {
        return "b".repeat(many);
    }

    Case growing(int growth, int... turns) {
        for (int turn : turns) {
            use(1);
            garden.grow(growth, turn);
        }
        return this;
    }

    private void put(int sheet, String word) {
        use(1);
        garden.cutTo(sheet, word.length());
        for (int place = 0; place < word.length(); place++) {
            if (word.charAt(place) == 'b') {
                use(1);
                garden.setSign(sheet, place, true);
            }
        }
    }

    private void use(int more) {
        calls += more;
        if (calls > MOST_CALLS) {
            throw new AssertionError("the test calls one object more than " + MOST_CALLS + " times");
        }
    }

    private Sight look() {
        use(13);
        Sight sight = new Sight();
        for (int sheet = 0; sheet < 3; sheet++) {
            sight.words[sheet] = garden.text(sheet);
        }
        for (int growth = 0; growth < 2; growth++) {
            sight.growths[growth] = stand(garden.turns(growth), garden.grown(growth, true), garden.grown(growth, false));
        }
        for (int what = 0; what < 4; what++) {
            sight.houses[what] = garden.house(what);
        }
        return sight;
    }

    private static String stand(String turns, String elder, String younger) {
        return turns + ":" + elder + "," + younger;
    }

    private long checksum() {
        use(1);
        return garden.digest();
    }

    private Object ask(Call call) {
        use(1);
        asked++;
        try {
            return call.of(garden);
        } catch (RuntimeException e) {
            return e.getClass();
        }
    }

    private void same(String what, Object got, Object want) {
        Checks.same("call " + asked + what, String.valueOf(got), String.valueOf(want));
    }

    /** An act on sheets that is done: the sheet has the word then, one act more is counted, all else stays. */
    Case acts(Call call, Object due, int sheet, String then) {
        Sight want = look();
        want.words[sheet] = then;
        want.houses[0]++;
        same("", ask(call), due);
        same(", all then", look(), want);
        return this;
    }

    /** An act on growths that is done: the growth stands so then, one act more is counted, all else stays. */
    Case grows(Call call, Object due, int growth, String turnsThen, String elderThen, String youngerThen) {
        Sight want = look();
        want.growths[growth] = stand(turnsThen, elderThen, youngerThen);
        want.houses[1]++;
        same("", ask(call), due);
        same(", all then", look(), want);
        return this;
    }

    /** An act that tells -9: nothing changes but how often one told it. */
    Case refuses(Call call) {
        Sight want = look();
        want.houses[2]++;
        same("", ask(call), -9);
        same(", all then", look(), want);
        return this;
    }

    /** A call that throws just this exception: nothing changes. */
    Case fails(Class<?> kind, Call call) {
        Sight before = look();
        long sum = checksum();
        same("", ask(call), kind);
        same(", all then", look(), before);
        same(", digest then", checksum(), sum);
        return this;
    }

    /** A question: nothing changes. */
    Case tells(Call call, Object due) {
        Sight before = look();
        long sum = checksum();
        same("", ask(call), due);
        same(", all then", look(), before);
        same(", digest then", checksum(), sum);
        return this;
    }

    /** A knock: only the knocks change. */
    Case knocks(int due) {
        Sight want = look();
        want.houses[3] = due;
        same("", ask(Wordgarden::knock), due);
        same(", all then", look(), want);
        return this;
    }
}
