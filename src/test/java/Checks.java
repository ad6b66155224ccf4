import java.lang.reflect.InvocationTargetException;
import java.lang.reflect.Method;
import java.lang.reflect.Modifier;
import java.util.ArrayList;
import java.util.Arrays;
import java.util.Comparator;
import java.util.LinkedHashSet;
import java.util.List;
import java.util.Set;
import java.util.function.IntPredicate;

/** Runs the tests of a class (its static methods that are not private) and tells what is not as due. */
final class Checks {
    private static String running = "";
    private static int wrong = 0;

    private Checks() {
    }

    static void run(Class<?> tests) {
        List<Method> found = new ArrayList<>();
        for (Method m : tests.getDeclaredMethods()) {
            int how = m.getModifiers();
            if (Modifier.isStatic(how) && !Modifier.isPrivate(how) && m.getParameterCount() == 0) {
                found.add(m);
            }
        }
        found.sort(Comparator.comparing(Method::getName));
        for (Method test : found) {
            running = tests.getSimpleName() + "." + test.getName();
            try {
                test.invoke(null);
            } catch (InvocationTargetException e) {
                fail("threw " + e.getCause());
            } catch (IllegalAccessException e) {
                fail("can't be run: " + e);
            }
        }
        System.out.println(tests.getSimpleName() + ": " + found.size() + " tests, "
                + (wrong == 0 ? "all answers are as due" : wrong + " answers are not as due"));
        if (wrong != 0 || found.isEmpty()) {
            System.exit(1);
        }
    }

    static void fail(String what) {
        wrong++;
        System.out.println(running + ": " + what);
    }

    static void due(String call, int got, int want) {
        if (got != want) {
            fail(call + " answered " + got + ", due is " + want);
        }
    }

    static void due(String call, boolean got, boolean want) {
        if (got != want) {
            fail(call + " answered " + got + ", due is " + want);
        }
    }

    /** Every value of an argument that lies outside its bounds, of those worth a try, is to be refused. */
    static void refused(String call, int low, int high, IntPredicate isRefused) {
        for (int value : outside(low, high)) {
            due(call + " with " + value + " is refused", isRefused.test(value), true);
        }
    }

    static void taken(String call, int low, int high, IntPredicate isTaken) {
        for (int value = low; value <= high; value++) {
            due(call + " with " + value + " is taken", isTaken.test(value), true);
        }
    }

    /**
     * The values next to the bounds, the ends of int, and those that fall into the bounds if they are cut to
     * their lower bits (as a shift does) or wrap round when they are multiplied (as YEAR * 30 + DAY would).
     */
    static List<Integer> outside(int low, int high) {
        Set<Integer> all = new LinkedHashSet<>(Arrays.asList(
                low - 1, low - 2, high + 1, high + 2, high + 10, high + 30, low - 10, low - 30,
                Integer.MIN_VALUE, Integer.MIN_VALUE + 1, Integer.MAX_VALUE, Integer.MAX_VALUE - 1));
        for (int bit = 5; bit < 32; bit++) {
            all.add(low + (1 << bit));
            all.add(high - (1 << bit));
        }
        for (int factor : new int[] {10, 12, 20, 30, 60, 300, 600}) {
            int wrapping = (int) ((1L << 32) / factor);
            all.add(wrapping + 1);
            all.add(-wrapping);
        }
        all.removeIf(value -> value >= low && value <= high);
        return new ArrayList<>(all);
    }
}
