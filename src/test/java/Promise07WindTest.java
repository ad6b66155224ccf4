/** Promise 7: wind. */
public final class Promise07WindTest {
    public static void main(String[] args) {
        Checks.run(Promise07WindTest.class);
    }

    static void years() {
        Watch x = new Watch();
        Checks.taken("YEAR", 0, 5, year -> x.wind(year, 0, 1));
        Checks.refused("YEAR", 0, 5, year -> !x.wind(year, 0, 1));
    }

    static void days() {
        Watch x = new Watch();
        Checks.taken("DAY", 0, 29, day -> x.wind(2, day, 1));
        Checks.refused("DAY", 0, 29, day -> !x.wind(2, day, 1));
    }

    static void winds() {
        Watch x = new Watch();
        Checks.taken("wind", 0, 3, w -> x.wind(2, 7, w));
        Checks.refused("wind", 0, 3, w -> !x.wind(2, 7, w));
    }

    static void theSameWindAgain() {
        Watch x = new Watch();
        for (int w = 0; w < 4; w++) {
            Checks.due("wind " + w, x.wind(0, 0, w), true);
            Checks.due("wind " + w + " again", x.wind(0, 0, w), true);
        }
    }

    /** A bird on one DAY and an HOUR off on another: only of one wind does the one tell of the other. */
    static void eachWindIsOneOfItsOwn() {
        for (int bird = 0; bird < 4; bird++) {
            for (int hour = 0; hour < 4; hour++) {
                Watch x = Watch.at(0);
                x.tell(0, 10, 0, 0, 0);
                x.off(0, 20, 0, true);
                x.wind(0, 10, bird);
                x.wind(0, 20, hour);
                int open = bird == 0 ? 299 : 19;
                Checks.due("MISSED of winds " + bird + " and " + hour, x.year(0, 4), bird == hour ? 1000 / open : 0);
            }
        }
    }

    static void eachDayHasItsOwn() {
        Watch x = Watch.at(0);
        x.tell(2, 0, 0, 0, 0);
        x.tell(2, 29, 0, 0, 0);
        x.off(2, 15, 0, true);
        x.wind(1, 29, 1);
        x.wind(3, 0, 1);
        x.wind(1, 15, 1);
        x.wind(3, 15, 1);
        Checks.due("the YEARS ahead and behind", x.year(2, 4), 2000 / 299);
        x.wind(2, 14, 1);
        x.wind(2, 16, 1);
        Checks.due("the DAYS ahead and behind", x.year(2, 4), 2000 / 279);
        x.wind(2, 29, 2);
        Checks.due("the last DAY", x.year(2, 4), 1000 / 269);
        x.wind(2, 0, 2);
        Checks.due("the first DAY", x.year(2, 4), 0);
    }

    static void theLastOneToldCounts() {
        Watch x = Watch.at(0);
        x.tell(0, 0, 0, 0, 0);
        x.off(0, 1, 0, true);
        x.wind(0, 0, 1);
        x.wind(0, 0, 3);
        x.wind(0, 1, 1);
        Checks.due("another one", x.year(0, 4), 0);
        x.wind(0, 1, 3);
        Checks.due("the same one", x.year(0, 4), 1000 / 19);
        x.wind(0, 0, 0);
        x.wind(0, 1, 0);
        Checks.due("back to 0", x.year(0, 4), 1000 / 299);
    }

    static void itMayComeAtAnyTime() {
        Watch x = new Watch();
        Checks.due("no POST", x.wind(0, 0, 1), true);
        x.post(0);
        x.tell(0, 0, 0, 0, 0);
        Checks.due("a TELLING", x.wind(0, 0, 2), true);
        x.shut(0, 1, 0, 9);
        Checks.due("a DAY off", x.wind(0, 1, 3), true);
    }

    static void itCountsAsKnownOnAnyDay() {
        Watch x = Watch.at(0);
        x.tell(0, 0, 0, 0, 0);
        x.off(0, 1, 0, true);
        x.later();
        x.known(0);
        x.wind(0, 1, 1);
        Checks.due("MISSED", x.year(0, 4), 0);
    }

    static void refusedChangesNothing() {
        Scene.staysWith("a refused wind", x -> {
            int[][] wrong = {{-1, 0, 1}, {6, 0, 1}, {0, -1, 1}, {0, 30, 1}, {0, 0, -1}, {0, 0, 4}, {1, -30, 1},
                {0, 32, 3}, {0, 0, 32}, {Integer.MIN_VALUE, 0, 1}, {0, 0, Integer.MAX_VALUE}};
            for (int[] w : wrong) {
                Checks.due("wind(" + w[0] + ", " + w[1] + ", " + w[2] + ")", x.wind(w[0], w[1], w[2]), false);
            }
        });
    }
}
