import java.lang.reflect.Array;
import java.lang.reflect.Field;

/**
 * No calls lead to a garden that isn't sound, so this test harms one from inside, to see that isSound() tells it
 * (promise 47), and which road lay() goes. It goes by the names of private fields: once the state is held in another way, it has to follow.
 */
public final class InsideTest {
    private interface Harm {
        void to(Wordgarden garden) throws ReflectiveOperationException;
    }

    private static Field field(Object owner, String name) throws NoSuchFieldException {
        Field field = owner.getClass().getDeclaredField(name);
        field.setAccessible(true);
        return field;
    }

    private static Object inside(Object owner, String name) throws ReflectiveOperationException {
        return field(owner, name).get(owner);
    }

    private static Object sheet(Wordgarden garden, int sheet) throws ReflectiveOperationException {
        return Array.get(inside(garden, "sheets"), sheet);
    }

    private static Object growth(Wordgarden garden, int growth) throws ReflectiveOperationException {
        return Array.get(inside(garden, "growths"), growth);
    }

    private static void setMany(Object word, int many) throws ReflectiveOperationException {
        field(word, "many").setInt(word, many);
    }

    private static void setSigns(Object word, String signs) throws ReflectiveOperationException {
        for (int place = 0; place < signs.length(); place++) {
            Array.setBoolean(inside(word, "signs"), place, signs.charAt(place) == 'b');
        }
    }

    private static boolean isKnown() {
        try {
            Wordgarden garden = new Wordgarden();
            inside(sheet(garden, 0), "many");
            inside(sheet(garden, 0), "signs");
            inside(growth(garden, 0), "elder");
            inside(growth(garden, 0), "younger");
            inside(growth(garden, 0), "turnRow");
            inside(growth(garden, 0), "turnCount");
            return true;
        } catch (ReflectiveOperationException | IllegalArgumentException e) {
            return false;
        }
    }

    /** Growth 0 has younger aab and elder a, growth 1 younger aaba and elder aab. */
    private static void harmed(String what, Harm harm) throws ReflectiveOperationException {
        Wordgarden garden = new Wordgarden();
        garden.write(0, 9);
        garden.cutTo(2, 64);
        garden.grow(0, 2);
        garden.grow(1, 2);
        garden.grow(1, 1);
        Checks.same(what + ": sound ahead of it", garden.isSound(), true);
        harm.to(garden);
        Checks.same(what + ": sound", garden.isSound(), false);
    }

    private static void harmedEach() throws ReflectiveOperationException {
        for (int sheet = 0; sheet < 3; sheet++) {
            int which = sheet;
            harmed("a length above 64 on sheet " + sheet, garden -> setMany(sheet(garden, which), 65));
        }
        harmed("younger has another sign", garden -> setSigns(inside(growth(garden, 0), "younger"), "bab"));
        harmed("younger has its signs in another order", garden -> setSigns(inside(growth(garden, 1), "younger"), "abaa"));
        harmed("younger is shorter", garden -> setMany(inside(growth(garden, 1), "younger"), 3));
        harmed("elder has another sign", garden -> setSigns(inside(growth(garden, 0), "elder"), "b"));
        harmed("elder has its signs in another order", garden -> setSigns(inside(growth(garden, 1), "elder"), "aba"));
        harmed("another turn", garden -> Array.setInt(inside(growth(garden, 0), "turnRow"), 0, 3));
        harmed("another number of turns", garden -> field(growth(garden, 1), "turnCount").setInt(growth(garden, 1), 1));
    }

    /** The last number of the checksum is 0 then (promise 48). */
    private static void digestTellsIt() throws ReflectiveOperationException {
        Wordgarden garden = new Wordgarden();
        garden.grow(0, 2);
        setSigns(inside(growth(garden, 0), "younger"), "aba");
        // aba and a: one b and none, cross 3 * 0 - 1 * 1, abaa and aaba are unlike from place 1 on.
        long d = 7979;
        for (int v : new int[] {0, 0, 1, 0, 0, 0, 0, 0, 0, 1, 0, 0, 0, 0, 0, 0, 1, 0, 0, 0, 0,
            1, 2, 3, 1, 1, 0, -1, 1, 0, 1, 1, 0, 1, 1, 0, 0, 1, 0, 0, 0}) {
            d = d * 31 + v;
        }
        Checks.same("digest of a harmed one", garden.digest(), d);
    }

    /** Only the road by copies takes younger as it is held; the other two go by the turns (promise 17). */
    private static void roadsGoTheirOwnWay() throws ReflectiveOperationException {
        Wordgarden garden = new Wordgarden();
        garden.grow(1, 2);
        garden.grow(1, 1);
        setSigns(inside(growth(garden, 1), "younger"), "bbbb");
        String[] due = {"bbbb", "aaba", "aaba"};
        for (int road = 0; road < due.length; road++) {
            garden.lay(1, 0, road);
            Checks.same("laid of a harmed one by road " + road, garden.text(0), due[road]);
        }
    }

    public static void main(String[] arguments) throws ReflectiveOperationException {
        if (!isKnown()) {
            System.out.println("InsideTest: the state is held in another way, nothing was harmed");
            return;
        }
        harmedEach();
        digestTellsIt();
        roadsGoTheirOwnWay();
        Checks.end("InsideTest");
    }
}
