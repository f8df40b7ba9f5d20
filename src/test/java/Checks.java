import java.util.Objects;

/** Counts checks; tells each one whose answer is not the one that is due. */
final class Checks {
    private static int made = 0;
    private static int wrong = 0;
    private static String test = "";

    private Checks() {
    }

    /** What is checked from here on belongs to the test of this name. */
    static void begin(String name) {
        test = name + ": ";
    }

    static int soFar() {
        return made;
    }

    static void same(String what, Object got, Object want) {
        made++;
        if (!Objects.equals(got, want)) {
            wrong++;
            System.out.println(test + what + ": answered " + got + ", due is " + want);
        }
    }

    /** The call throws just this exception, and the object is as it was. */
    static void fails(Wordgarden garden, Class<?> kind, String what, Runnable call) {
        long before = garden.digest();
        Object thrown = null;
        try {
            call.run();
        } catch (RuntimeException e) {
            thrown = e.getClass();
        }
        same(what + " throws", thrown, kind);
        same(what + " changes nothing", garden.digest(), before);
    }

    static void end(String name) {
        System.out.println(name + ": " + made + " checks, " + wrong + " wrong");
        if (wrong != 0) {
            System.exit(1);
        }
    }
}
