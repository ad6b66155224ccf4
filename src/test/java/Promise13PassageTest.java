/** Promise 13: passage. */
public final class Promise13PassageTest {
    private static final int FIRST = 0;
    private static final int HALF = 1;
    private static final int LAST = 2;

    public static void main(String[] args) {
        Checks.run(Promise13PassageTest.class);
    }

    private static Watch one() {
        Watch x = Watch.at(0);
        x.kind(0, 1, 400);
        for (int year = 0; year < 6; year++) {
            x.tell(year, 5, 60 * year, 0, 1);
        }
        return x;
    }

    static void years() {
        Watch x = one();
        Checks.taken("YEAR", 0, 5, year -> x.passage(year, 0, FIRST) == 50 + year);
        for (int what = 0; what < 3; what++) {
            int w = what;
            Checks.refused("YEAR", 0, 5, year -> x.passage(year, 0, w) == -1);
        }
    }

    static void kinds() {
        Watch x = one();
        Checks.taken("KIND", 0, 1, kind -> x.passage(0, kind, FIRST) == 50);
        for (int what = 0; what < 3; what++) {
            int w = what;
            Checks.refused("KIND", 0, 1, kind -> x.passage(0, kind, w) == -1);
        }
    }

    static void whats() {
        Watch x = one();
        Checks.taken("what", 0, 2, what -> x.passage(0, 0, what) == 50);
        Checks.refused("what", 0, 2, what -> x.passage(0, 0, what) == -1);
    }

    static void noBirdIsThere() {
        Watch x = Watch.at(0);
        x.kind(0, 1, 400);
        x.kind(0, 1, 400);
        x.tell(0, 0, 0, 0, 1);
        for (int what = 0; what < 3; what++) {
            Checks.due("none of that KIND", x.passage(0, 2, what), -1);
            Checks.due("none in that YEAR", x.passage(1, 0, what), -1);
            Checks.due("one of KIND 1", x.passage(0, 1, what), 0);
        }
    }

    static void oneOfAKindAboveIsNotUnderIt() {
        Watch x = Watch.at(0);
        x.kind(0, 1, 400);
        x.tell(0, 0, 0, 0, 0);
        Checks.due("KIND 0", x.passage(0, 0, FIRST), 0);
        Checks.due("KIND 1", x.passage(0, 1, FIRST), -1);
    }

    static void theFirstAndTheLastHourOfAYear() {
        Watch x = Watch.at(0);
        x.tell(3, 0, 59, 0, 0);
        x.tell(3, 29, 540, 0, 0);
        Checks.due("FIRST", x.passage(3, 0, FIRST), 0);
        Checks.due("HALF", x.passage(3, 0, HALF), 0);
        Checks.due("LAST", x.passage(3, 0, LAST), 299);
    }

    static void anHourIsSixtyMinutes() {
        for (int hour = 0; hour < 10; hour++) {
            Watch x = Watch.at(0);
            x.tell(0, 4, 60 * hour, 0, 0);
            x.tell(0, 4, 60 * hour + 59, 0, 0);
            Checks.due("FIRST", x.passage(0, 0, FIRST), 40 + hour);
            Checks.due("LAST", x.passage(0, 0, LAST), 40 + hour);
        }
    }

    static void oneBird() {
        Watch x = Watch.at(0);
        x.tell(0, 12, 345, 0, 0);
        for (int what = 0; what < 3; what++) {
            Checks.due("what " + what, x.passage(0, 0, what), 125);
        }
    }

    /** Birds on DAYS 1, 2, 3 ..: half of so many have come with the one in the middle, of two the first. */
    static void halfOfAll() {
        Watch x = Watch.at(0);
        int[] half = {10, 10, 20, 20, 30, 30, 40, 40};
        for (int birds = 1; birds <= half.length; birds++) {
            x.tell(0, birds, 0, 0, 0);
            Checks.due("HALF of " + birds, x.passage(0, 0, HALF), half[birds - 1]);
            Checks.due("FIRST of " + birds, x.passage(0, 0, FIRST), 10);
            Checks.due("LAST of " + birds, x.passage(0, 0, LAST), 10 * birds);
        }
    }

    static void halfIsTheHourWhenManyComeAtOnce() {
        Watch x = Watch.at(0);
        x.tellMany(0, 5, 0, 3);
        x.tellMany(0, 10, 0, 4);
        Checks.due("3 of 7 are less than half", x.passage(0, 0, HALF), 100);
        x.tellMany(0, 0, 0, 1);
        Checks.due("4 of 8 are half", x.passage(0, 0, HALF), 50);
        x.tellMany(0, 11, 0, 1);
        Checks.due("4 of 9 are less", x.passage(0, 0, HALF), 100);
    }

    static void toldInAnyOrder() {
        Watch x = Watch.at(0);
        x.tell(0, 20, 0, 0, 0);
        x.tell(0, 3, 599, 0, 0);
        x.tell(0, 3, 0, 0, 0);
        x.tell(0, 10, 60, 0, 0);
        Checks.due("FIRST", x.passage(0, 0, FIRST), 30);
        Checks.due("HALF", x.passage(0, 0, HALF), 39);
        Checks.due("LAST", x.passage(0, 0, LAST), 200);
    }

    static void birdsUnderTheKind() {
        Watch x = Watch.at(0);
        x.kind(0, 1, 400);
        x.kind(1, 1, 400);
        x.kind(0, 1, 400);
        x.tell(0, 1, 0, 0, 0);
        x.tell(0, 2, 0, 0, 1);
        x.tell(0, 3, 0, 0, 2);
        x.tell(0, 4, 0, 0, 3);
        int[][] want = {{10, 20, 40}, {20, 20, 30}, {30, 30, 30}, {40, 40, 40}};
        for (int kind = 0; kind < 4; kind++) {
            for (int what = 0; what < 3; what++) {
                Checks.due("passage(0, " + kind + ", " + what + ")", x.passage(0, kind, what), want[kind][what]);
            }
        }
    }

    static void aBirdComesWithItsFirstTelling() {
        Watch x = Watch.at(0, 60);
        x.kind(0, 1, 400);
        x.tell(0, 0, 61, 1, 1);
        x.tell(0, 0, 1, 0, 0);
        Checks.due("FIRST", x.passage(0, 1, FIRST), 0);
        Checks.due("LAST", x.passage(0, 1, LAST), 0);
        Checks.due("LAST of all", x.passage(0, 0, LAST), 0);
    }

    static void threeHundredBirds() {
        Watch x = Watch.at(0);
        x.tellMany(0, 0, 0, 300);
        Checks.due("FIRST", x.passage(0, 0, FIRST), 0);
        Checks.due("HALF: 12 on each DAY, 150 with the thirteenth", x.passage(0, 0, HALF), 120);
        Checks.due("LAST", x.passage(0, 0, LAST), 240);
    }

    static void refusedChangesNothing() {
        Scene.staysWith("passage", x -> {
            int[][] wrong = {{-1, 0, 0}, {6, 0, 0}, {0, -1, 0}, {0, 5, 0}, {0, 32, 0}, {0, 0, -1}, {0, 0, 3},
                {2, 0, 0}, {Integer.MIN_VALUE, 0, 0}, {0, 0, Integer.MAX_VALUE}};
            for (int[] w : wrong) {
                Checks.due("passage(" + w[0] + ", " + w[1] + ", " + w[2] + ")", x.passage(w[0], w[1], w[2]), -1);
            }
            for (int what = 0; what < 3; what++) {
                x.passage(0, 0, what);
                x.passage(1, 1, what);
            }
        });
    }
}
