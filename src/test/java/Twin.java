import java.lang.reflect.InvocationTargetException;
import java.lang.reflect.Method;
import java.util.Arrays;

/** A garden and the model, called alike. */
final class Twin {
    /** The document tells nothing of an object that has been called more often. */
    private static final int MOST_CALLS = 512;
    private static final int CALLS_OF_A_LOOK = 14;

    final Wordgarden garden = new Wordgarden();
    final Model model = new Model();
    private int calls;

    /** A method of the face, and the same one of the model. */
    static final class Call {
        final String name;
        /** What its arguments are, as words like sheet, place, flag. */
        final String[] kinds;
        private final Method own;
        private final Method due;

        /** Of a line with the name and the kinds. */
        Call(String line) {
            String[] words = line.split(" ");
            name = words[0];
            kinds = Arrays.copyOfRange(words, 1, words.length);
            own = method(Wordgarden.class, name);
            due = method(Model.class, name);
        }

        private static Method method(Class<?> owner, String name) {
            for (Method method : owner.getMethods()) {
                if (method.getName().equals(name) && method.getDeclaringClass() == owner) {
                    return method;
                }
            }
            throw new AssertionError(name);
        }
    }

    private void use(int more) {
        calls += more;
        if (calls > MOST_CALLS) {
            throw new AssertionError("one object is called more than " + MOST_CALLS + " times");
        }
    }

    /** How often the object may still be called. */
    int callsLeft() {
        return MOST_CALLS - calls;
    }

    private static String answer(Object owner, Method method, Object[] arguments) throws IllegalAccessException {
        try {
            return String.valueOf(method.invoke(owner, arguments));
        } catch (InvocationTargetException e) {
            return "throws." + e.getCause().getClass().getSimpleName();
        }
    }

    void call(String told, Call call, Object... arguments) throws IllegalAccessException {
        use(1);
        Checks.same(told, answer(garden, call.own, arguments), answer(model, call.due, arguments));
    }

    void stand(String[] words, int[][] turnRows) {
        for (int sheet = 0; sheet < words.length; sheet++) {
            use(1);
            garden.cutTo(sheet, words[sheet].length());
            model.cutTo(sheet, words[sheet].length());
            for (int place = 0; place < words[sheet].length(); place++) {
                if (words[sheet].charAt(place) == 'b') {
                    use(1);
                    garden.setSign(sheet, place, true);
                    model.setSign(sheet, place, true);
                }
            }
        }
        for (int growth = 0; growth < turnRows.length; growth++) {
            for (int turn : turnRows[growth]) {
                use(1);
                garden.grow(growth, turn);
                model.grow(growth, turn);
            }
        }
    }

    /** All that shows of the garden is as in the model. */
    void sameSight(String told) {
        use(CALLS_OF_A_LOOK);
        for (int sheet = 0; sheet < 3; sheet++) {
            Checks.same(told + ", text then", garden.text(sheet), model.text(sheet));
        }
        for (int growth = 0; growth < 2; growth++) {
            Checks.same(told + ", turns then", garden.turns(growth), model.turns(growth));
            Checks.same(told + ", elder then", garden.grown(growth, true), model.grown(growth, true));
            Checks.same(told + ", younger then", garden.grown(growth, false), model.grown(growth, false));
        }
        for (int what = 0; what < 4; what++) {
            Checks.same(told + ", house then", garden.house(what), model.house(what));
        }
        Checks.same(told + ", sound then", garden.isSound(), true);
    }

    void sameDigest(String told) {
        use(1);
        Checks.same(told + ", digest then", garden.digest(), model.digest());
    }
}
