/** Promise 5: tell. */
public final class Promise05TellTest {
    public static void main(String[] args) {
        Checks.run(Promise05TellTest.class);
    }

    private static Watch plain() {
        Watch x = Watch.at(0, 1, 2);
        x.kind(0, 1, 400);
        x.kind(0, 1, 400);
        return x;
    }

    static void numbersGoUpFromZero() {
        Watch x = plain();
        for (int t = 0; t < 20; t++) {
            Checks.due("tell", x.tell(t % 6, t, t, t % 3, t % 3), t);
            Checks.due("TELLINGS", x.count(3), t + 1);
        }
    }

    static void years() {
        Watch x = plain();
        Checks.taken("YEAR", 0, 5, year -> x.tell(year, 0, 0, 0, 0) == year);
        Checks.refused("YEAR", 0, 5, year -> x.tell(year, 0, 0, 0, 0) == -1);
        Checks.due("TELLINGS", x.count(3), 6);
    }

    static void days() {
        Watch x = plain();
        Checks.taken("DAY", 0, 29, day -> x.tell(3, day, 0, 0, 0) == day);
        Checks.refused("DAY", 0, 29, day -> x.tell(3, day, 0, 0, 0) == -1);
        Checks.due("TELLINGS", x.count(3), 30);
    }

    static void minutes() {
        Watch x = plain();
        Checks.due("MINUTE 0", x.tell(0, 0, 0, 0, 0), 0);
        Checks.due("MINUTE 599", x.tell(0, 0, 599, 0, 0), 1);
        Checks.due("MINUTE -1", x.tell(0, 0, -1, 0, 0), -1);
        Checks.due("MINUTE 600", x.tell(0, 0, 600, 0, 0), -1);
        Checks.refused("MINUTE", 0, 599, minute -> x.tell(0, 0, minute, 0, 0) == -1);
        Checks.due("TELLINGS", x.count(3), 2);
    }

    static void posts() {
        Watch x = plain();
        Checks.taken("POST", 0, 2, post -> x.tell(0, 0, 0, post, 0) == post);
        Checks.refused("POST", 0, 2, post -> x.tell(0, 0, 0, post, 0) == -1);
        Checks.due("TELLINGS", x.count(3), 3);
    }

    static void kinds() {
        Watch x = plain();
        Checks.taken("KIND", 0, 2, kind -> x.tell(0, 0, 0, 0, kind) == kind);
        Checks.refused("KIND", 0, 2, kind -> x.tell(0, 0, 0, 0, kind) == -1);
        Checks.due("TELLINGS", x.count(3), 3);
    }

    static void noPostIsThere() {
        Watch x = new Watch();
        Checks.due("POST 0", x.tell(0, 0, 0, 0, 0), -1);
        Checks.due("POST NONE", x.tell(0, 0, 0, HawkRidge.NONE, 0), -1);
    }

    static void theLastOfAllBoundsAtOnce() {
        Watch x = Watch.at(0, 1, 2, 400);
        for (int k = 1; k < 20; k++) {
            x.kind(0, 1, 400);
        }
        Checks.due("the last", x.tell(5, 29, 599, 3, 19), 0);
        int[] last = {5, 29, 599, 3, 19, 0};
        for (int what = 0; what < 6; what++) {
            Checks.due("look(0, " + what + ")", x.look(0, what), last[what]);
        }
    }

    static void theHourIsOff() {
        for (int hour = 0; hour < 10; hour++) {
            Watch x = plain();
            x.off(2, 7, hour, true);
            for (int minute = 0; minute < 60; minute++) {
                Checks.due("in the HOUR off", x.tell(2, 7, 60 * hour + minute, 0, 0), -1);
            }
            Checks.due("the MINUTE ahead", x.tell(2, 7, 60 * hour - 1, 0, 0), hour == 0 ? -1 : 0);
            int told = x.count(3);
            Checks.due("the MINUTE behind", x.tell(2, 7, 60 * hour + 60, 0, 0), hour == 9 ? -1 : told);
        }
    }

    static void theHourIsOffForAllPosts() {
        Watch x = plain();
        x.off(0, 0, 3, true);
        for (int post = 0; post < 3; post++) {
            Checks.due("POST " + post, x.tell(0, 0, 200, post, 0), -1);
        }
    }

    static void theHourIsOffOnThatDayAlone() {
        Watch x = plain();
        x.off(2, 7, 3, true);
        Checks.due("the DAY ahead", x.tell(2, 6, 200, 0, 0), 0);
        Checks.due("the DAY behind", x.tell(2, 8, 200, 0, 0), 1);
        Checks.due("the YEAR ahead", x.tell(1, 7, 200, 0, 0), 2);
        Checks.due("the YEAR behind", x.tell(3, 7, 200, 0, 0), 3);
        x.off(2, 29, 9, true);
        Checks.due("the first DAY of the next YEAR", x.tell(3, 0, 599, 0, 0), 4);
        x.off(4, 0, 0, true);
        Checks.due("the last DAY of the YEAR ahead", x.tell(3, 29, 0, 0, 0), 5);
    }

    static void theHourIsOnAgain() {
        Watch x = plain();
        x.off(0, 0, 0, true);
        Checks.due("off", x.tell(0, 0, 0, 0, 0), -1);
        x.off(0, 0, 0, false);
        Checks.due("not off", x.tell(0, 0, 0, 0, 0), 0);
    }

    static void twelveOfOneYearDayAndPost() {
        Watch x = plain();
        for (int i = 0; i < 12; i++) {
            Checks.due("up to 12", x.tell(2, 7, 50 * i, 1, i % 3), i);
        }
        Checks.due("a thirteenth", x.tell(2, 7, 0, 1, 0), -1);
        Checks.due("a thirteenth in another HOUR, of another KIND", x.tell(2, 7, 599, 1, 2), -1);
        Checks.due("TELLINGS", x.count(3), 12);
        Checks.due("the POST ahead", x.tell(2, 7, 0, 0, 0), 12);
        Checks.due("the POST behind", x.tell(2, 7, 0, 2, 0), 13);
        Checks.due("the DAY ahead", x.tell(2, 6, 0, 1, 0), 14);
        Checks.due("the DAY behind", x.tell(2, 8, 0, 1, 0), 15);
        Checks.due("the YEAR ahead", x.tell(1, 7, 0, 1, 0), 16);
        Checks.due("the YEAR behind", x.tell(3, 7, 0, 1, 0), 17);
    }

    static void twelveAtEachOfFourPosts() {
        Watch x = Watch.at(0, 1, 2, 3);
        for (int t = 0; t < 48; t++) {
            Checks.due("up to 48", x.tell(0, 0, t, t % 4, 0), t);
        }
        for (int post = 0; post < 4; post++) {
            Checks.due("a thirteenth", x.tell(0, 0, 0, post, 0), -1);
        }
        Checks.due("TELLINGS", x.year(0, 0), 48);
    }

    static void twelveAreThereThoughNotKnown() {
        Watch x = plain();
        x.later();
        for (int i = 0; i < 12; i++) {
            x.tell(0, 0, i, 0, 0);
        }
        x.known(0);
        Checks.due("TELLINGS as known", x.year(0, 0), 0);
        Checks.due("a thirteenth", x.tell(0, 0, 0, 0, 0), -1);
    }

    static void threeHundredAreThereAndNoMore() {
        Watch x = plain();
        for (int t = 0; t < 300; t++) {
            Checks.due("up to 300", x.tell(t % 6, t % 30, t, t / 100, 0), t);
        }
        Checks.due("TELLINGS", x.count(3), 300);
        for (int year = 0; year < 6; year++) {
            Checks.due("one more", x.tell(year, 29 - year, 0, 2, 0), -1);
        }
        Checks.due("TELLINGS still", x.count(3), 300);
        Checks.due("the last one's MINUTE", x.look(299, 2), 299);
        Checks.due("one more's", x.look(300, 2), Watch.THROWN);
        Checks.due("the last one's BIRD", x.bird(299) >= 0, true);
        Checks.due("one more's BIRD", x.bird(300), -2);
    }

    static void threeHundredAreThereThoughNotKnown() {
        Watch x = plain();
        x.later();
        for (int t = 0; t < 300; t++) {
            x.tell(t % 6, t % 30, t, t / 100, 0);
        }
        x.known(0);
        Checks.due("one more", x.tell(0, 29, 0, 0, 0), -1);
        Checks.due("TELLINGS as known", x.year(0, 0), 0);
    }

    static void threeHundredMayBeOfOneYear() {
        Watch x = Watch.at(0);
        x.tellMany(4, 0, 0, 300);
        Checks.due("one more", x.tell(4, 29, 0, 0, 0), -1);
        Checks.due("TELLINGS", x.year(4, 0), 300);
        Checks.due("BIRDS", x.year(4, 2), 300);
        Checks.due("TOTAL", x.year(4, 5), 300000);
    }

    static void theSameMayBeToldTwice() {
        Watch x = plain();
        Checks.due("once", x.tell(0, 0, 0, 0, 0), 0);
        Checks.due("twice", x.tell(0, 0, 0, 0, 0), 1);
        Checks.due("BIRDS", x.year(0, 2), 2);
    }

    static void aTellingNotKnownHasANumber() {
        Watch x = plain();
        x.known(0);
        x.later();
        Checks.due("tell", x.tell(0, 0, 0, 0, 0), 0);
        Checks.due("tell again", x.tell(0, 0, 0, 0, 0), 1);
        Checks.due("its partner", x.partner(1), -2);
        x.known(-1);
        Checks.due("its partner when known", x.partner(1), -1);
    }

    static void refusedChangesNothing() {
        Scene.staysWith("a refused tell", x -> {
            int[][] wrong = {{-1, 0, 0, 0, 0}, {6, 0, 0, 0, 0}, {0, -1, 0, 0, 0}, {0, 30, 0, 0, 0},
                {0, 0, -1, 0, 0}, {0, 0, 600, 0, 0}, {0, 0, 0, -1, 0}, {0, 0, 0, 3, 0}, {0, 0, 0, 0, -1},
                {0, 0, 0, 0, 5}, {0, 0, 420, 0, 0}, {0, 0, 539, 1, 1}, {0, 1, 540, 2, 2}, {1, 2, 0, 0, 0},
                {1, 2, 119, 0, 0}, {Integer.MIN_VALUE, 0, 0, 0, 0}, {0, 0, Integer.MAX_VALUE, 0, 0}};
            for (int[] w : wrong) {
                Checks.due("tell(" + w[0] + ", " + w[1] + ", " + w[2] + ", " + w[3] + ", " + w[4] + ")",
                        x.tell(w[0], w[1], w[2], w[3], w[4]), -1);
            }
        });
    }

    static void refusedForTwelveChangesNothing() {
        Scene.staysIn("a thirteenth", () -> {
            Watch x = Scene.told();
            for (int i = 0; i < 9; i++) {
                x.tell(0, 0, 100 + i, 0, 0);
            }
            return x;
        }, x -> Checks.due("tell", x.tell(0, 0, 0, 0, 1), -1));
    }

    static void refusedForThreeHundredChangesNothing() {
        Watch x = Watch.at(0, 60);
        x.kind(0, 1, 400);
        x.tellMany(0, 0, 0, 288);
        for (int i = 0; i < 12; i++) {
            x.tell(1, 0, i, 0, 0);
        }
        Checks.due("one more", x.tell(1, 0, 100, 1, 1), -1);
        Checks.due("no partner for it", x.partner(288), -1);
        Checks.due("no PAIR", x.year(1, 1), 0);
        Checks.due("no BIRD of KIND 1", x.birds(1, 1, 1), 0);
        Checks.due("the HOUR is free of it", x.off(1, 0, 1, true), true);
    }
}
