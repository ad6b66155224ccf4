import java.lang.reflect.Array;
import java.lang.reflect.Field;
import java.lang.reflect.Modifier;
import java.util.IdentityHashMap;
import java.util.Map;
import java.util.NoSuchElementException;
import java.util.Random;

/**
 * LANGUAGE.md, rules 7 and 12: calls with any numbers in any state (beyond the 512th call too) throw nothing but
 * the document's exception, and an object never holds more than what its constructor made.
 */
public final class AnyCallTest {
    private static final int RUNS = 3000;
    private static final int[] ODD = {
        0, 1, 5, 6, 9, 10, 11, 12, 13, 19, 20, 21, 29, 30, 31, 32, 33, 59, 60, 64, 179, 180, 299, 300, 301, 399,
        400, 401, 599, 600, 601, 1000, 1001, -1, -2, -30, -31, -32, Integer.MAX_VALUE, Integer.MIN_VALUE, 1 << 16,
        1 << 27, 1 << 31, Integer.MAX_VALUE / 30 + 1, Integer.MAX_VALUE / 60 + 1};
    private static final int MOST_HELD = 6000;

    private final Random random;
    private final HawkRidge ridge = new HawkRidge();

    private AnyCallTest(long seed) {
        random = new Random(seed);
    }

    public static void main(String[] args) throws IllegalAccessException {
        int most = held(new HawkRidge());
        boolean holds = most <= MOST_HELD;
        for (int run = 0; run < RUNS && holds; run++) {
            holds = new AnyCallTest(run).passes(run, most);
        }
        System.out.println(holds ? "AnyCallTest: all is as due" : "AnyCallTest: not as due, an object holds " + most);
        if (!holds) {
            System.exit(1);
        }
    }

    private boolean passes(int run, int most) throws IllegalAccessException {
        int calls = run % 20 == 0 ? 3000 : 512;
        for (int i = 0; i < calls; i++) {
            String thrown = call(random.nextInt(i < 40 ? 21 : 30), i < 40);
            if (!thrown.isEmpty()) {
                System.out.println("AnyCallTest: run " + run + ", call " + i + " threw " + thrown);
                return false;
            }
        }
        int now = held(ridge);
        if (now > most) {
            System.out.println("AnyCallTest: run " + run + ": the object held " + most + ", now " + now);
        }
        return now <= most;
    }

    private int any() {
        int dice = random.nextInt(10);
        if (dice == 0) {
            return random.nextInt();
        }
        return dice < 5 ? ODD[random.nextInt(ODD.length)] : random.nextInt(7);
    }

    private String call(int which, boolean isSetUp) {
        try {
            if (which == 0 || which == 1) {
                return mayThrow(which);
            }
            if (which < 15) {
                anyNumbers(which);
            } else if (isSetUp) {
                setUp();
            } else {
                tellOne();
            }
            return "";
        } catch (RuntimeException e) {
            return e.toString();
        }
    }

    private String mayThrow(int which) {
        try {
            if (which == 0) {
                ridge.birds(any(), any(), any());
            } else {
                ridge.look(any(), any());
            }
            return "";
        } catch (NoSuchElementException e) {
            return e.getClass() == NoSuchElementException.class ? "" : e.toString();
        }
    }

    private void anyNumbers(int which) {
        switch (which) {
            case 2: ridge.post(any()); break;
            case 3: ridge.kind(any(), any(), any()); break;
            case 4: ridge.later(); break;
            case 5: ridge.tell(any(), any(), any(), any(), any()); break;
            case 6: ridge.off(any(), any(), any(), random.nextBoolean()); break;
            case 7: ridge.wind(any(), any(), any()); break;
            case 8: ridge.known(any()); break;
            case 9: ridge.partner(any()); break;
            case 10: ridge.bird(any()); break;
            case 11: ridge.year(any(), any()); break;
            case 12: ridge.passage(any(), any(), any()); break;
            case 13: ridge.change(any(), any()); break;
            default: ridge.count(any()); break;
        }
    }

    private void setUp() {
        if (random.nextInt(3) == 0) {
            ridge.post(100 * ridge.count(0) + random.nextInt(100));
        } else {
            ridge.kind(random.nextInt(ridge.count(1)), 1 + random.nextInt(200), 200 + random.nextInt(201));
        }
    }

    private void tellOne() {
        if (ridge.count(0) > 0) {
            ridge.tell(random.nextInt(2), random.nextInt(3), random.nextInt(600), random.nextInt(ridge.count(0)),
                    random.nextInt(ridge.count(1)));
        }
    }

    /** The fields and elements of all that hangs on an object. */
    private static int held(HawkRidge ridge) throws IllegalAccessException {
        return held(ridge, new IdentityHashMap<>());
    }

    private static int held(Object x, Map<Object, Boolean> met) throws IllegalAccessException {
        if (x == null || met.put(x, true) != null) {
            return 0;
        }
        if (x.getClass().isArray()) {
            int sum = Array.getLength(x);
            for (int i = 0; i < Array.getLength(x) && !x.getClass().getComponentType().isPrimitive(); i++) {
                sum += held(Array.get(x, i), met);
            }
            return sum;
        }
        int sum = 0;
        for (Field f : x.getClass().getDeclaredFields()) {
            if (!Modifier.isStatic(f.getModifiers())) {
                f.setAccessible(true);
                sum += 1 + (f.getType().isPrimitive() ? 0 : held(f.get(x), met));
            }
        }
        return sum;
    }
}
