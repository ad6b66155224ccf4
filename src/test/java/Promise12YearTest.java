/** Promise 12: year, with the MISSED and the TOTAL. */
public final class Promise12YearTest {
    public static void main(String[] args) {
        Checks.run(Promise12YearTest.class);
    }

    static void years() {
        Watch x = new Watch();
        Checks.taken("YEAR", 0, 5, year -> x.year(year, 0) == 0);
        for (int what = 0; what < 6; what++) {
            int w = what;
            Watch y = new Watch();
            Checks.refused("YEAR, what " + what, 0, 5, year -> y.year(year, w) == -1);
        }
    }

    static void whats() {
        Watch x = Watch.at(0);
        x.tell(0, 0, 0, 0, 0);
        Checks.taken("what", 0, 5, what -> x.year(0, what) >= 0);
        Checks.refused("what", 0, 5, what -> x.year(0, what) == -1);
    }

    static void noTellingIsThere() {
        Watch x = Watch.at(0, 60);
        for (int what = 0; what < 6; what++) {
            Checks.due("year(0, " + what + ")", x.year(0, what), 0);
        }
    }

    static void eachWhat() {
        Watch x = Watch.at(0, 60);
        x.tell(3, 0, 0, 0, 0);
        x.tell(3, 0, 60, 1, 0);
        x.tell(3, 29, 599, 1, 0);
        x.off(3, 1, 0, true);
        x.off(3, 29, 8, true);
        int[] want = {3, 1, 2, 2, 4000 / 298, 2000 + 4000 / 298};
        for (int what = 0; what < 6; what++) {
            Checks.due("year(3, " + what + ")", x.year(3, what), want[what]);
            Checks.due("the YEAR ahead", x.year(2, what), 0);
            Checks.due("the YEAR behind", x.year(4, what), 0);
        }
    }

    static void theFirstAndTheLastDayAreOfTheYear() {
        Watch x = Watch.at(0);
        x.tell(2, 29, 0, 0, 0);
        x.tell(3, 0, 0, 0, 0);
        x.tell(3, 29, 0, 0, 0);
        x.tell(4, 0, 0, 0, 0);
        x.off(2, 29, 9, true);
        x.off(3, 0, 9, true);
        x.off(3, 29, 9, true);
        x.off(4, 0, 9, true);
        Checks.due("TELLINGS", x.year(3, 0), 2);
        Checks.due("BIRDS", x.year(3, 2), 2);
        Checks.due("HOURS off", x.year(3, 3), 2);
    }

    static void noHourIsOff() {
        Watch x = Watch.at(0);
        x.tellMany(0, 0, 0, 5);
        Checks.due("HOURS off", x.year(0, 3), 0);
        Checks.due("MISSED", x.year(0, 4), 0);
        Checks.due("TOTAL", x.year(0, 5), 5000);
    }

    static void allHoursAreOff() {
        Watch x = Watch.at(0);
        for (int day = 0; day < 30; day++) {
            x.wind(1, day, day % 4);
            x.shut(1, day, 0, 9);
        }
        Checks.due("HOURS off", x.year(1, 3), 300);
        Checks.due("MISSED of n 0", x.year(1, 4), 0);
        Checks.due("TOTAL of n 0", x.year(1, 5), 0);
    }

    /** One HOUR is open, on a DAY of another wind or the same, with as many birds as it can hold. */
    static void allHoursButOneAreOff() {
        Watch x = Watch.at(0, 1, 2, 3);
        for (int day = 0; day < 30; day++) {
            x.shut(1, day, day == 29 ? 1 : 0, 9);
        }
        for (int i = 0; i < 48; i++) {
            x.tell(1, 29, 0, i / 12, 0);
        }
        Checks.due("BIRDS", x.year(1, 2), 48);
        Checks.due("HOURS off", x.year(1, 3), 299);
        Checks.due("MISSED", x.year(1, 4), 48 * 299 * 1000);
        Checks.due("TOTAL", x.year(1, 5), 48 * 300 * 1000);
        x.wind(1, 29, 3);
        Checks.due("MISSED by all: wind 0 has no open HOUR", x.year(1, 4), 48 * 299 * 1000);
    }

    static void noOpenHourOfThatWindIsByAll() {
        Watch x = Watch.at(0);
        x.tell(1, 0, 0, 0, 0);
        x.wind(1, 1, 3);
        x.shut(1, 1, 0, 9);
        Checks.due("one such wind", x.year(1, 4), 10000 / 290);
        x.wind(1, 2, 2);
        x.shut(1, 2, 0, 9);
        Checks.due("two such winds", x.year(1, 4), 20000 / 280);
        x.wind(1, 3, 1);
        x.shut(1, 3, 0, 9);
        Checks.due("three such winds", x.year(1, 4), 30000 / 270);
        x.off(1, 3, 9, false);
        Checks.due("an open HOUR, no bird of that wind", x.year(1, 4), 20000 / 271);
    }

    static void oneOpenHourOfThatWindIsEnough() {
        Watch x = Watch.at(0);
        x.wind(0, 0, 2);
        x.shut(0, 0, 1, 9);
        x.tell(0, 1, 0, 0, 0);
        Checks.due("no bird in it", x.year(0, 4), 0);
        x.tell(0, 0, 0, 0, 0);
        Checks.due("a bird in it", x.year(0, 4), 9000);
    }

    static void aWindWithoutDaysCountsNothing() {
        Watch x = Watch.at(0);
        for (int day = 0; day < 30; day++) {
            x.wind(0, day, 2);
        }
        x.tell(0, 0, 0, 0, 0);
        x.off(0, 5, 5, true);
        Checks.due("MISSED", x.year(0, 4), 1000 / 299);
    }

    static void birdsOfAnotherWindDoNotCount() {
        Watch x = Watch.at(0);
        x.wind(0, 0, 1);
        x.wind(0, 1, 2);
        x.tellMany(0, 0, 0, 3);
        x.tellMany(0, 1, 0, 5);
        x.shut(0, 0, 9, 9);
        Checks.due("wind 1", x.year(0, 4), 3000 / 9);
        x.shut(0, 1, 8, 9);
        Checks.due("winds 1 and 2: 3 / 9 and 10 / 8", x.year(0, 4), 1583);
        x.shut(0, 2, 0, 9);
        Checks.due("wind 0 without a bird", x.year(0, 4), 1583);
    }

    /** Three times 7 / 3 is 7: cut one by one it would be 6.999. */
    static void theSumIsCutOnce() {
        Watch x = Watch.at(0);
        for (int day = 0; day < 3; day++) {
            x.wind(0, day, day + 1);
            x.tell(0, day, 0, 0, 0);
            x.shut(0, day, 3, 9);
        }
        Checks.due("MISSED", x.year(0, 4), 7000);
        Checks.due("TOTAL", x.year(0, 5), 10000);
    }

    /** 5 / 39 and 27 / 31 is 0.99917 and 12 / 17 and 18 / 61 is 1.00096: neither is rounded. */
    static void itIsCutNotRounded() {
        Watch x = Watch.at(0);
        x.windDays(0, 0, 4, 1, 1);
        x.windDays(0, 4, 4, 2, 9);
        x.tellMany(0, 0, 0, 5);
        x.tellMany(0, 4, 0, 3);
        Checks.due("just below", x.year(0, 4), 999);
        x.windDays(1, 0, 2, 1, 3);
        x.windDays(1, 2, 7, 2, 9);
        x.tellMany(1, 0, 0, 4);
        x.tellMany(1, 2, 0, 2);
        Checks.due("just above", x.year(1, 4), 1000);
        x.off(2, 0, 9, true);
        x.tellMany(2, 1, 0, 1);
        Checks.due("3.34", x.year(2, 4), 3);
        x.tellMany(2, 1, 0, 1);
        Checks.due("6.69", x.year(2, 4), 6);
        x.tellMany(2, 1, 0, 1);
        Checks.due("10.03", x.year(2, 4), 10);
    }

    /** All four winds have HOURS off, and divisors that have nothing in common. */
    static void fourFractionsAreExact() {
        Watch x = Watch.at(0);
        x.windDays(0, 0, 7, 1, 9);
        x.windDays(0, 7, 7, 2, 11);
        x.windDays(0, 14, 8, 3, 7);
        x.shut(0, 22, 9, 9);
        x.tellMany(0, 0, 0, 7);
        x.tellMany(0, 7, 0, 8);
        x.tellMany(0, 14, 0, 10);
        x.tellMany(0, 22, 0, 11);
        // 63 / 61 and 88 / 59 and 70 / 73 and 11 / 79 by hand: 3.62245..
        Checks.due("MISSED", x.year(0, 4), 3622);
        Checks.due("TOTAL", x.year(0, 5), 39622);
    }

    static void asManyOffAsOpenAreAsManyMissed() {
        Watch x = Watch.at(0);
        x.tell(0, 0, 0, 0, 0);
        for (int day = 1; day < 16; day++) {
            x.shut(0, day, 0, 9);
        }
        Checks.due("150 off, 150 open", x.year(0, 4), 1000);
        x.off(0, 1, 0, false);
        Checks.due("149 off, 151 open", x.year(0, 4), 149000 / 151);
    }

    static void aPairIsOneBirdOfTwoTellings() {
        Watch x = Watch.at(0, 60, 120);
        x.tell(0, 0, 0, 0, 0);
        x.tell(0, 0, 60, 1, 0);
        x.tell(0, 0, 120, 2, 0);
        x.off(0, 0, 9, true);
        Checks.due("TELLINGS", x.year(0, 0), 3);
        Checks.due("PAIRS", x.year(0, 1), 2);
        Checks.due("BIRDS", x.year(0, 2), 1);
        Checks.due("MISSED by BIRDS", x.year(0, 4), 1000 / 299);
    }

    static void threeHundredTellings() {
        Watch x = Watch.at(0);
        x.tellMany(0, 0, 0, 300);
        x.shut(0, 29, 0, 9);
        Checks.due("TELLINGS", x.year(0, 0), 300);
        Checks.due("MISSED", x.year(0, 4), 300 * 10 * 1000 / 290);
    }

    static void refusedChangesNothing() {
        Scene.staysWith("year", x -> {
            int[][] wrong = {{-1, 0}, {6, 0}, {0, -1}, {0, 6}, {Integer.MIN_VALUE, 0}, {0, Integer.MAX_VALUE}};
            for (int[] w : wrong) {
                Checks.due("year(" + w[0] + ", " + w[1] + ")", x.year(w[0], w[1]), -1);
            }
            for (int what = 0; what < 6; what++) {
                x.year(0, what);
                x.year(1, what);
            }
        });
    }
}
