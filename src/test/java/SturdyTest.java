import java.lang.reflect.Method;

/** No call throws, whatever it is given, on an empty gallery and on a full one; and none of the askings changes anything. */
public final class SturdyTest {
    private static final int[] VALUES = {Integer.MIN_VALUE, Integer.MIN_VALUE + 1, -65536, -64, -2, -1, 0, 1, 2, 3, 5, 6, 7, 8, 9, 10, 15,
        16, 20, 29, 30, 31, 32, 60, 63, 64, 255, 256, 9999, 10000, 99999, 100000, 1 << 30, Integer.MAX_VALUE - 20, Integer.MAX_VALUE};
    private static final java.util.Set<String> TELLING = java.util.Set.of(
        "state", "place", "row", "purse", "act", "days", "feed", "end", "text", "undo", "image");

    public static void main(String[] args) throws Exception {
        for (Method method : DryPlaces.class.getDeclaredMethods()) {
            if (java.lang.reflect.Modifier.isPublic(method.getModifiers())) {
                tryAll(method, new DryPlaces());
                tryAll(method, full());
            }
        }
        Due.close();
    }

    private static DryPlaces full() {
        DryPlaces x = new DryPlaces();
        for (int p = 0; p < 10; p++) {
            Due.place(x, 10 * p, "########", "#######.", "######.#", "#..##.##", "########", "#.#.#.#.", "########", "########");
        }
        Due.tell(x, 0, "creeps 600 when wet>2; worth dry; comes 3;");
        Due.tell(x, 1, "room 0 room 1 long 1;room 1 room 2 long 2;room 2 room 3 long 3;room 3 room 4 long 4;room 4 room 5 long 5;");
        Due.tell(x, 2, "on 2 sell 0; on 3 buy 0; on 3 hang 0 in 5;");
        Due.tell(x, 3, "place 0 by 1; place 1 by 0;");
        x.purse(99999);
        for (int p = 0; p < 5; p++) {
            x.act(0, p, 0);
            x.act(2, p, p);
        }
        return x;
    }

    private static long mark(DryPlaces x) {
        long mark = 0;
        for (int what = 0; what <= 11; what++) {
            mark = 31 * mark + x.look(what);
        }
        for (int p = 0; p < 10; p++) {
            for (int what = 0; what < 18; what++) {
                mark = 31 * mark + x.of(p, what);
            }
        }
        return 31 * (31 * mark + x.fault(0)) + x.fault(1);
    }

    private static void tryAll(Method method, DryPlaces x) throws Exception {
        int count = method.getParameterCount();
        long before = mark(x);
        int tries = count == 0 ? 1 : count == 1 ? VALUES.length : count == 2 ? VALUES.length * VALUES.length : 20000;
        long draw = 1;
        for (int i = 0; i < tries; i++) {
            Object[] given = new Object[count];
            for (int j = 0; j < count; j++) {
                draw = draw * 6364136223846793005L + 1442695040888963407L;
                int index = count == 1 ? i : count == 2 ? (j == 0 ? i / VALUES.length : i % VALUES.length) : (int) (draw >>> 33) % VALUES.length;
                given[j] = method.getParameterTypes()[j] == boolean.class ? (Object) (index % 2 == 0) : (Object) VALUES[index];
            }
            method.invoke(x, given);
        }
        Due.is(method.getName() + " changes nothing", TELLING.contains(method.getName()) || mark(x) == before, true);
    }
}
