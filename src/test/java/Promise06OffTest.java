/** Promise 6: off. */
public final class Promise06OffTest {
    public static void main(String[] args) {
        Checks.run(Promise06OffTest.class);
    }

    static void years() {
        Watch x = new Watch();
        Checks.taken("YEAR", 0, 5, year -> x.off(year, 0, 0, true));
        Checks.refused("YEAR", 0, 5, year -> !x.off(year, 0, 0, true));
        Checks.refused("YEAR, not off", 0, 5, year -> !x.off(year, 0, 0, false));
    }

    static void days() {
        Watch x = new Watch();
        Checks.taken("DAY", 0, 29, day -> x.off(2, day, 0, true));
        Checks.refused("DAY", 0, 29, day -> !x.off(2, day, 0, true));
        Checks.refused("DAY, not off", 0, 29, day -> !x.off(2, day, 0, false));
        Checks.due("HOURS off", x.year(2, 3), 30);
        Checks.due("HOURS off of the YEAR ahead", x.year(1, 3), 0);
        Checks.due("HOURS off of the YEAR behind", x.year(3, 3), 0);
    }

    static void hours() {
        Watch x = new Watch();
        Checks.taken("HOUR", 0, 9, hour -> x.off(2, 7, hour, true));
        Checks.refused("HOUR", 0, 9, hour -> !x.off(2, 7, hour, true));
        Checks.refused("HOUR, not off", 0, 9, hour -> !x.off(2, 7, hour, false));
        Checks.due("HOURS off", x.year(2, 3), 10);
    }

    static void itIsSo() {
        Watch x = new Watch();
        Checks.due("not off, at first", x.off(0, 0, 0, false), false);
        Checks.due("off", x.off(0, 0, 0, true), true);
        Checks.due("off again", x.off(0, 0, 0, true), false);
        Checks.due("HOURS off", x.year(0, 3), 1);
        Checks.due("not off", x.off(0, 0, 0, false), true);
        Checks.due("not off again", x.off(0, 0, 0, false), false);
        Checks.due("HOURS off", x.year(0, 3), 0);
        Checks.due("off once more", x.off(0, 0, 0, true), true);
    }

    static void eachHourIsOffByItself() {
        Watch x = new Watch();
        x.off(2, 7, 3, true);
        int[][] others = {{2, 7, 2}, {2, 7, 4}, {2, 6, 3}, {2, 8, 3}, {1, 7, 3}, {3, 7, 3}};
        for (int[] o : others) {
            Checks.due("another one is not", x.off(o[0], o[1], o[2], false), false);
        }
        Checks.due("it is", x.off(2, 7, 3, false), true);
    }

    static void theLastHourOfAYearIsNotTheNextYears() {
        Watch x = new Watch();
        x.off(2, 29, 9, true);
        Checks.due("the first HOUR of the next YEAR", x.off(3, 0, 0, false), false);
        Checks.due("the YEAR's", x.year(2, 3), 1);
        Checks.due("the next YEAR's", x.year(3, 3), 0);
    }

    static void aTellingIsInIt() {
        for (int minute : new int[] {180, 210, 239}) {
            Watch x = Watch.at(0, 1);
            x.tell(2, 7, minute, 1, 0);
            Checks.due("a TELLING at " + minute, x.off(2, 7, 3, true), false);
            Checks.due("the HOUR ahead", x.off(2, 7, 2, true), true);
            Checks.due("the HOUR behind", x.off(2, 7, 4, true), true);
            Checks.due("the DAY ahead", x.off(2, 6, 3, true), true);
            Checks.due("the DAY behind", x.off(2, 8, 3, true), true);
            Checks.due("the YEAR ahead", x.off(1, 7, 3, true), true);
            Checks.due("the YEAR behind", x.off(3, 7, 3, true), true);
            Checks.due("HOURS off", x.year(2, 3), 4);
        }
    }

    static void aTellingIsInTheFirstOrTheLastHour() {
        Watch x = Watch.at(0);
        x.tell(0, 0, 0, 0, 0);
        x.tell(5, 29, 599, 0, 0);
        Checks.due("the first HOUR of all", x.off(0, 0, 0, true), false);
        Checks.due("the last HOUR of all", x.off(5, 29, 9, true), false);
    }

    static void aTellingIsInItThoughNotKnown() {
        Watch x = Watch.at(0);
        x.later();
        x.tell(0, 0, 0, 0, 0);
        x.known(0);
        Checks.due("a TELLING not known", x.off(0, 0, 0, true), false);
    }

    static void notOffWithATellingInItIsSo() {
        Watch x = Watch.at(0);
        x.tell(0, 0, 0, 0, 0);
        Checks.due("not off", x.off(0, 0, 0, false), false);
        Checks.due("HOURS off", x.year(0, 3), 0);
    }

    static void itNeedsNoPostAndNoTelling() {
        Watch x = new Watch();
        Checks.due("off", x.off(0, 0, 0, true), true);
        Checks.due("HOURS off", x.year(0, 3), 1);
        Checks.due("MISSED", x.year(0, 4), 0);
    }

    static void allHoursOfAYear() {
        Watch x = Watch.at(0);
        for (int hour = 0; hour < 300; hour++) {
            Checks.due("off", x.off(1, hour / 10, hour % 10, true), true);
        }
        Checks.due("HOURS off", x.year(1, 3), 300);
        Checks.due("no TELLING can be", x.tell(1, 29, 599, 0, 0), -1);
        Checks.due("the next YEAR has all", x.year(2, 3), 0);
    }

    /** HOURS off are as they are, on whatever day looks are as known. */
    static void itCountsAsKnownOnAnyDay() {
        Watch x = Watch.at(0);
        x.later();
        x.known(0);
        Checks.due("off", x.off(0, 0, 0, true), true);
        Checks.due("HOURS off", x.year(0, 3), 1);
    }

    static void refusedChangesNothing() {
        Scene.staysWith("a refused off", x -> {
            int[][] wrong = {{-1, 0, 0}, {6, 0, 0}, {0, -1, 0}, {0, 30, 0}, {0, 0, -1}, {0, 0, 10}, {0, 0, 32},
                {1, -1, 0}, {0, 60, 3}, {Integer.MIN_VALUE, 0, 0}, {0, 0, Integer.MAX_VALUE}};
            for (int[] w : wrong) {
                String call = "off(" + w[0] + ", " + w[1] + ", " + w[2];
                Checks.due(call + ", true)", x.off(w[0], w[1], w[2], true), false);
                Checks.due(call + ", false)", x.off(w[0], w[1], w[2], false), false);
            }
            Checks.due("off, it is so", x.off(0, 0, 7, true), false);
            Checks.due("not off, it is so", x.off(0, 0, 6, false), false);
        });
        Scene.staysIn("an off with a TELLING", Scene::toldAsKnownOnZero, x -> {
            Checks.due("off(0, 0, 0, true)", x.off(0, 0, 0, true), false);
            Checks.due("off(1, 29, 9, true)", x.off(1, 29, 9, true), false);
        });
    }
}
