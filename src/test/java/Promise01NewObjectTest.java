/** Promise 1: no POST; one KIND; NOW is 0; and nothing else is there. */
public final class Promise01NewObjectTest {
    public static void main(String[] args) {
        Checks.run(Promise01NewObjectTest.class);
    }

    static void noPostIsThere() {
        Watch x = new Watch();
        Checks.due("POSTS", x.count(0), 0);
        Checks.due("tell at POST 0", x.tell(0, 0, 0, 0, 0), -1);
        Checks.due("tell at POST -1", x.tell(0, 0, 0, -1, 0), -1);
        Checks.due("the first POST's number", x.post(0), 0);
    }

    static void oneKindIsThere() {
        Watch x = new Watch();
        Checks.due("KINDS", x.count(1), 1);
        Checks.due("birds of KIND 0", x.birds(0, 0, 0), 0);
        Checks.due("birds of KIND 1", x.birds(0, 1, 0), Watch.THROWN);
        Checks.due("a KIND of KIND 1", x.kind(1, 1, 400), -1);
        Checks.due("a KIND of KIND 0", x.kind(0, 1, 400), 1);
    }

    static void theOneKindIsALeaf() {
        Watch x = Watch.at(0);
        Checks.due("LEAVES", x.count(4), 1);
        x.tell(0, 0, 0, 0, 0);
        Checks.due("NUMBER of KIND 0", x.birds(0, 0, 2), 1);
    }

    static void theOneKindHasSpeedsOneToFourHundred() {
        Watch x = Watch.at(0, 1, 201);
        x.tell(0, 0, 0, 0, 0);
        x.tell(0, 0, 60, 1, 0);
        Checks.due("1 place in 60 minutes", x.partner(0), 1);
        x.tell(0, 1, 0, 0, 0);
        x.tell(0, 1, 61, 1, 0);
        Checks.due("1 place in 61 minutes", x.partner(2), -1);
        x.tell(0, 2, 0, 1, 0);
        x.tell(0, 2, 30, 2, 0);
        Checks.due("200 places in 30 minutes", x.partner(4), 5);
        x.tell(0, 3, 0, 1, 0);
        x.tell(0, 3, 29, 2, 0);
        Checks.due("200 places in 29 minutes", x.partner(6), -1);
    }

    static void nowIsZero() {
        Watch x = Watch.at(0);
        Checks.due("NOW", x.count(2), 0);
        Checks.due("known(1)", x.known(1), false);
        Checks.due("known(0)", x.known(0), true);
        x.tell(0, 0, 0, 0, 0);
        Checks.due("since when known", x.look(0, 5), 0);
        Checks.due("NOW grows to", x.later(), 1);
    }

    static void knownToldNone() {
        Checks.due("what known() told", new Watch().count(5), -1);
        Checks.due("NONE", HawkRidge.NONE, -1);
    }

    static void noTellingIsThere() {
        Watch x = new Watch();
        Checks.due("TELLINGS", x.count(3), 0);
        Checks.due("partner(0)", x.partner(0), -2);
        Checks.due("bird(0)", x.bird(0), -2);
        Checks.due("look(0, 0)", x.look(0, 0), Watch.THROWN);
    }

    static void noYearHasAnything() {
        Watch x = new Watch();
        for (int year = 0; year < 6; year++) {
            for (int what = 0; what < 6; what++) {
                Checks.due("year(" + year + ", " + what + ")", x.year(year, what), 0);
            }
            for (int what = 0; what < 3; what++) {
                Checks.due("birds(" + year + ", 0, " + what + ")", x.birds(year, 0, what), 0);
                Checks.due("passage(" + year + ", 0, " + what + ")", x.passage(year, 0, what), -1);
            }
            Checks.due("change(0, " + year + ")", x.change(0, year), 0);
        }
    }

    static void noHourIsOff() {
        for (int year = 0; year < 6; year++) {
            Watch x = new Watch();
            for (int hour = 0; hour < 300; hour++) {
                Checks.due("off, not", x.off(year, hour / 10, hour % 10, false), false);
            }
        }
    }

    /** A DAY with a bird has the wind of one with an HOUR off if both have their first one, 0. */
    static void windsAreZero() {
        for (int year = 0; year < 6; year++) {
            Watch x = Watch.at(0);
            x.tell(year, 29, 0, 0, 0);
            x.off(year, 0, 9, true);
            Checks.due("MISSED by wind 0", x.year(year, 4), 1000 / 299);
            x.wind(year, 29, 0);
            x.wind(year, 0, 0);
            Checks.due("MISSED with wind 0 told", x.year(year, 4), 1000 / 299);
        }
    }

    static void objectsShareNothing() {
        Watch other = Scene.told();
        other.known(1);
        noPostIsThere();
        oneKindIsThere();
        nowIsZero();
        knownToldNone();
        noTellingIsThere();
        noYearHasAnything();
    }
}
