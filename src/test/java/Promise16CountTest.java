/** Promise 16: count. */
public final class Promise16CountTest {
    public static void main(String[] args) {
        Checks.run(Promise16CountTest.class);
    }

    private static void counts(Watch x, int... want) {
        for (int what = 0; what < 6; what++) {
            Checks.due("count(" + what + ")", x.count(what), want[what]);
        }
    }

    static void whats() {
        Watch x = Scene.told();
        x.known(1);
        Checks.taken("what", 0, 5, what -> x.count(what) >= 0);
        Checks.due("count(-1)", x.count(-1), -1);
        Checks.due("count(6)", x.count(6), -1);
        Checks.refused("what", 0, 5, what -> x.count(what) == -1);
    }

    static void empty() {
        counts(new Watch(), 0, 1, 0, 0, 1, -1);
    }

    static void eachWhat() {
        Watch x = Watch.at(0, 1);
        x.kind(0, 1, 400);
        x.kind(0, 1, 400);
        x.kind(1, 1, 400);
        x.kind(1, 1, 400);
        x.later();
        counts(x, 2, 5, 1, 0, 3, -1);
        for (int year = 0; year < 6; year++) {
            x.tell(year, 0, 0, 0, 0);
        }
        counts(x, 2, 5, 1, 6, 3, -1);
        x.known(1);
        counts(x, 2, 5, 1, 6, 3, 1);
        x.later();
        counts(x, 2, 5, 2, 6, 3, 1);
        x.known(0);
        Checks.due("what known() told", x.count(5), 0);
        x.known(-1);
        counts(x, 2, 5, 2, 6, 3, -1);
    }

    static void full() {
        Watch x = Watch.at(0, 1, 2, 400);
        for (int k = 1; k < 20; k++) {
            x.kind(0, 1, 400);
        }
        x.tellMany(0, 0, 0, 300);
        counts(x, 4, 20, 0, 300, 19, -1);
        x.post(400);
        x.kind(0, 1, 400);
        x.tell(0, 29, 0, 0, 0);
        counts(x, 4, 20, 0, 300, 19, -1);
    }

    static void refusedCallsAreNotCounted() {
        Watch x = new Watch();
        x.post(401);
        x.kind(1, 1, 400);
        x.tell(0, 0, 0, 0, 0);
        x.known(1);
        counts(x, 0, 1, 0, 0, 1, -1);
    }

    static void refusedChangesNothing() {
        Scene.staysWith("count", x -> {
            for (int what : new int[] {-1, 6, Integer.MIN_VALUE, Integer.MAX_VALUE}) {
                Checks.due("count(" + what + ")", x.count(what), -1);
            }
        });
    }
}
