import java.util.NoSuchElementException;

/** A HawkRidge for tests that never asks it more than the 512 calls that the document promises. */
final class Watch {
    static final int THROWN = Integer.MIN_VALUE;
    private static final int CALLS = 512;

    private final HawkRidge ridge = new HawkRidge();
    private int calls = 0;

    /** A ridge with POSTS at these places. */
    static Watch at(int... places) {
        Watch x = new Watch();
        for (int i = 0; i < places.length; i++) {
            Checks.due("post(" + places[i] + ")", x.post(places[i]), i);
        }
        return x;
    }

    private HawkRidge call() {
        calls++;
        if (calls == CALLS + 1) {
            Checks.fail("the test makes more than 512 calls, whose answers are free");
        }
        return ridge;
    }

    int post(int place) {
        return call().post(place);
    }

    int kind(int of, int slowest, int fastest) {
        return call().kind(of, slowest, fastest);
    }

    int later() {
        return call().later();
    }

    int tell(int year, int day, int minute, int post, int kind) {
        return call().tell(year, day, minute, post, kind);
    }

    boolean off(int year, int day, int hour, boolean yes) {
        return call().off(year, day, hour, yes);
    }

    boolean wind(int year, int day, int w) {
        return call().wind(year, day, w);
    }

    boolean known(int k) {
        return call().known(k);
    }

    int partner(int telling) {
        return call().partner(telling);
    }

    int bird(int telling) {
        return call().bird(telling);
    }

    int birds(int year, int kind, int what) {
        try {
            return call().birds(year, kind, what);
        } catch (NoSuchElementException e) {
            return thrown(e);
        }
    }

    int year(int year, int what) {
        return call().year(year, what);
    }

    int passage(int year, int kind, int what) {
        return call().passage(year, kind, what);
    }

    int change(int a, int b) {
        return call().change(a, b);
    }

    int look(int telling, int what) {
        try {
            return call().look(telling, what);
        } catch (NoSuchElementException e) {
            return thrown(e);
        }
    }

    int count(int what) {
        return call().count(what);
    }

    private static int thrown(NoSuchElementException e) {
        if (e.getClass() != NoSuchElementException.class) {
            Checks.fail("threw " + e);
        }
        return THROWN;
    }

    /** So many birds of a KIND at POST 0, none of which can be paired with another, twelve on a DAY. */
    void tellMany(int year, int firstDay, int kind, int many) {
        for (int i = 0; i < many; i++) {
            if (tell(year, firstDay + i / 12, 0, 0, kind) < 0) {
                Checks.fail("a TELLING is refused while the test sets up");
            }
        }
    }

    void shut(int year, int day, int fromHour, int toHour) {
        for (int hour = fromHour; hour <= toHour; hour++) {
            if (!off(year, day, hour, true)) {
                Checks.fail("an HOUR is refused while the test sets up");
            }
        }
    }

    /** DAYS of a wind whose first HOURS, so many in all, are open and the others off. */
    void windDays(int year, int firstDay, int days, int w, int off) {
        int left = off;
        for (int day = firstDay; day < firstDay + days; day++) {
            wind(year, day, w);
            int here = Math.min(left, 9);
            shut(year, day, 10 - here, 9);
            left -= here;
        }
        if (left != 0) {
            Checks.fail("too many HOURS off while the test sets up");
        }
    }
}
