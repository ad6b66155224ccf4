/** Promise 14: change. */
public final class Promise14ChangeTest {
    public static void main(String[] args) {
        Checks.run(Promise14ChangeTest.class);
    }

    static void years() {
        Watch x = new Watch();
        Checks.taken("a", 0, 5, year -> x.change(year, 0) == 0);
        Checks.taken("b", 0, 5, year -> x.change(0, year) == 0);
        Checks.refused("a", 0, 5, year -> x.change(year, 0) == -2);
        Checks.refused("b", 0, 5, year -> x.change(5, year) == -2);
        Checks.refused("both", 0, 5, year -> x.change(year, year) == -2);
    }

    static void noBirdInBoth() {
        Watch x = Watch.at(0);
        Checks.due("change(0, 1)", x.change(0, 1), 0);
        x.shut(0, 0, 0, 9);
        Checks.due("with HOURS off", x.change(0, 1), 0);
        Checks.due("with HOURS off, back", x.change(1, 0), 0);
    }

    static void noBirdInOne() {
        Watch x = Watch.at(0);
        x.tell(1, 0, 0, 0, 0);
        Checks.due("from none", x.change(0, 1), 1);
        Checks.due("to none", x.change(1, 0), -1);
    }

    static void aYearAgainstItself() {
        Watch x = Watch.at(0);
        x.tellMany(3, 0, 0, 5);
        Checks.due("no HOUR off", x.change(3, 3), 0);
        x.shut(3, 9, 0, 9);
        Checks.due("HOURS off", x.change(3, 3), 0);
    }

    static void asManyIsNoChange() {
        Watch x = Watch.at(0);
        x.tellMany(0, 0, 0, 4);
        x.tellMany(1, 9, 0, 4);
        Checks.due("as many", x.change(0, 1), 0);
        x.tellMany(1, 20, 0, 1);
        Checks.due("one more", x.change(0, 1), 1);
        Checks.due("one less", x.change(1, 0), -1);
    }

    /** The TOTAL of YEAR 1 is just 2000: 150 HOURS off tell of one more bird. */
    static void justTheTotalIsNoChange() {
        Watch x = Watch.at(0);
        x.tellMany(1, 0, 0, 1);
        x.tellMany(2, 0, 0, 2);
        for (int day = 1; day < 16; day++) {
            x.shut(1, day, 0, 9);
        }
        Checks.due("TOTAL", x.year(1, 5), 2000);
        Checks.due("not above the TOTAL of a", x.change(1, 2), 0);
        Checks.due("the TOTAL of b not below", x.change(2, 1), 0);
        x.off(1, 1, 0, false);
        Checks.due("TOTAL less", x.year(1, 5), 1986);
        Checks.due("above the TOTAL of a", x.change(1, 2), 1);
        Checks.due("the TOTAL of b below", x.change(2, 1), -1);
    }

    /** 8 birds and 999 missed (999.17, cut) are a thousandth below 9 birds. */
    static void aThousandthBelow() {
        Watch x = Watch.at(0);
        x.windDays(0, 0, 4, 1, 1);
        x.windDays(0, 4, 4, 2, 9);
        x.tellMany(0, 0, 0, 5);
        x.tellMany(0, 4, 0, 3);
        x.tellMany(1, 0, 0, 9);
        Checks.due("TOTAL", x.year(0, 5), 8999);
        Checks.due("9000 is above 8999", x.change(0, 1), 1);
        Checks.due("8999 is below 9000", x.change(1, 0), -1);
    }

    /** 6 birds and 1000.96 missed: cut, they are just 7 birds, not less and not more. */
    static void theMissedAreCutAhead() {
        Watch x = Watch.at(0);
        x.windDays(0, 0, 2, 1, 3);
        x.windDays(0, 2, 7, 2, 9);
        x.tellMany(0, 0, 0, 4);
        x.tellMany(0, 2, 0, 2);
        x.tellMany(1, 0, 0, 7);
        Checks.due("TOTAL", x.year(0, 5), 7000);
        Checks.due("7000 is not above it", x.change(0, 1), 0);
        Checks.due("it is not below 7000", x.change(1, 0), 0);
        x.tellMany(1, 0, 0, 1);
        Checks.due("8000 is above it", x.change(0, 1), 1);
        Checks.due("it is below 8000", x.change(1, 0), -1);
    }

    /** The TOTAL counts on one side alone: HOURS off of the greater YEAR change nothing. */
    static void theBirdsOfBAgainstTheTotalOfA() {
        Watch x = Watch.at(0);
        x.tellMany(0, 0, 0, 3);
        x.tellMany(1, 0, 0, 4);
        for (int day = 10; day < 25; day++) {
            x.shut(1, day, 0, 9);
        }
        Checks.due("TOTAL of b", x.year(1, 5), 8000);
        Checks.due("4 birds against 3", x.change(0, 1), 1);
        x.tellMany(0, 1, 0, 2);
        Checks.due("4 birds, 8000 in all, against 5", x.change(0, 1), 0);
        Checks.due("5 birds against 8000", x.change(1, 0), 0);
        x.tellMany(0, 2, 0, 4);
        Checks.due("8000 against 9 birds", x.change(0, 1), -1);
        Checks.due("9 birds against 8000", x.change(1, 0), 1);
    }

    static void asKnown() {
        Watch x = Watch.at(0);
        x.tell(1, 0, 0, 0, 0);
        x.later();
        x.tell(0, 0, 0, 0, 0);
        x.tell(0, 1, 0, 0, 0);
        Checks.due("NOW", x.change(0, 1), -1);
        x.known(0);
        Checks.due("on 0", x.change(0, 1), 1);
    }

    static void refusedChangesNothing() {
        Scene.staysWith("change", x -> {
            int[][] wrong = {{-1, 0}, {0, -1}, {6, 0}, {0, 6}, {-1, -1}, {6, 6}, {Integer.MIN_VALUE, 0},
                {0, Integer.MAX_VALUE}};
            for (int[] w : wrong) {
                Checks.due("change(" + w[0] + ", " + w[1] + ")", x.change(w[0], w[1]), -2);
            }
            x.change(0, 1);
            x.change(1, 0);
        });
    }
}
