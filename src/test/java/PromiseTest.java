import java.util.NoSuchElementException;

/** At least one check for each promise: ordinary inputs, the edges the document names, wrong inputs. */
public final class PromiseTest {
    private static final int THROWN = Integer.MIN_VALUE;
    private static int wrong = 0;

    private static void due(String call, int got, int want) {
        if (got != want) {
            wrong++;
            System.out.println(call + " answered " + got + ", due is " + want);
        }
    }

    private static void due(String call, boolean got, boolean want) {
        due(call, got ? 1 : 0, want ? 1 : 0);
    }

    private static int birds(HawkRidge x, int year, int kind, int what) {
        try {
            return x.birds(year, kind, what);
        } catch (NoSuchElementException e) {
            return THROWN;
        }
    }

    private static int look(HawkRidge x, int telling, int what) {
        try {
            return x.look(telling, what);
        } catch (NoSuchElementException e) {
            return THROWN;
        }
    }

    private static HawkRidge ridge(int... places) {
        HawkRidge x = new HawkRidge();
        for (int i = 0; i < places.length; i++) {
            due("post", x.post(places[i]), i);
        }
        return x;
    }

    public static void main(String[] args) {
        newObject();
        post();
        kind();
        later();
        tell();
        tellLimits();
        off();
        wind();
        known();
        knownHidesOnlyTellings();
        partner();
        partnerSpeeds();
        partnerKinds();
        partnerFirstWay();
        bird();
        birdKind();
        birds();
        numbers();
        numbersOfNested();
        year();
        missed();
        passage();
        change();
        look();
        count();
        System.out.println(wrong == 0 ? "PromiseTest: all answers are as due" : wrong + " answers are not as due");
        if (wrong != 0) {
            System.exit(1);
        }
    }

    private static void newObject() {
        HawkRidge x = new HawkRidge();
        due("1 POSTS", x.count(0), 0);
        due("1 KINDS", x.count(1), 1);
        due("1 NOW", x.count(2), 0);
        due("1 TELLINGS", x.count(3), 0);
        due("1 LEAVES", x.count(4), 1);
        due("1 known", x.count(5), HawkRidge.NONE);
        for (int y = 0; y < 6; y++) {
            for (int what = 0; what < 6; what++) {
                due("1 year", x.year(y, what), 0);
            }
            due("1 birds", birds(x, y, 0, 2), 0);
            due("1 passage", x.passage(y, 0, 0), -1);
        }
        due("1 no POST to tell at", x.tell(0, 0, 0, 0, 0), -1);
    }

    private static void post() {
        HawkRidge x = new HawkRidge();
        due("2 post(-1)", x.post(-1), -1);
        due("2 post(401)", x.post(401), -1);
        due("2 post(MAX)", x.post(Integer.MAX_VALUE), -1);
        due("2 post(MIN)", x.post(Integer.MIN_VALUE), -1);
        due("2 post(0)", x.post(0), 0);
        due("2 not above", x.post(0), -1);
        due("2 post(1)", x.post(1), 1);
        due("2 below", x.post(0), -1);
        due("2 post(399)", x.post(399), 2);
        due("2 post(400)", x.post(400), 3);
        due("2 a fifth", x.post(400), -1);
        due("2 POSTS", x.count(0), 4);
        HawkRidge full = ridge(0, 1, 2, 3);
        due("2 a fifth above", full.post(4), -1);
        HawkRidge one = ridge(400);
        due("2 none above 400", one.post(400), -1);
        HawkRidge told = ridge(0);
        told.tell(0, 0, 0, 0, 0);
        due("2 a TELLING is there", told.post(1), -1);
        told.later();
        HawkRidge hidden = ridge(0);
        hidden.later();
        hidden.tell(0, 0, 0, 0, 0);
        hidden.known(0);
        due("2 a TELLING is there, not known", hidden.post(1), -1);
    }

    private static void kind() {
        HawkRidge x = ridge(0);
        due("3 of 1", x.kind(1, 1, 1), -1);
        due("3 of -1", x.kind(-1, 1, 1), -1);
        due("3 slowest 0", x.kind(0, 0, 1), -1);
        due("3 fastest 401", x.kind(0, 1, 401), -1);
        due("3 slowest above", x.kind(0, 2, 1), -1);
        due("3 MIN", x.kind(Integer.MIN_VALUE, Integer.MIN_VALUE, Integer.MIN_VALUE), -1);
        due("3 MAX", x.kind(0, Integer.MAX_VALUE, Integer.MAX_VALUE), -1);
        due("3 whole range", x.kind(0, 1, 400), 1);
        due("3 one speed", x.kind(1, 400, 400), 2);
        due("3 speeds outside those above it", x.kind(2, 1, 1), 3);
        for (int k = 4; k < 20; k++) {
            due("3 more", x.kind(k - 1, 1, 1), k);
        }
        due("3 20 are there", x.kind(0, 1, 1), -1);
        due("3 KINDS", x.count(1), 20);
        due("3 LEAVES", x.count(4), 1);
        HawkRidge told = ridge(0);
        told.tell(0, 0, 0, 0, 0);
        due("3 a TELLING is there", told.kind(0, 1, 1), -1);
        HawkRidge hidden = ridge(0);
        hidden.later();
        hidden.tell(0, 0, 0, 0, 0);
        hidden.known(0);
        due("3 a TELLING is there, not known", hidden.kind(0, 1, 1), -1);
    }

    private static void later() {
        HawkRidge x = new HawkRidge();
        for (int now = 1; now <= 400; now++) {
            due("4 later", x.later(), now);
        }
        due("4 NOW", x.count(2), 400);
        // Beyond 512 calls answers are free; the class keeps the bound of 1000 all the same.
        for (int now = 401; now <= 1000; now++) {
            x.later();
        }
        due("4 it is 1000", x.later(), -1);
        due("4 NOW stays", x.count(2), 1000);
    }

    private static void tell() {
        HawkRidge x = ridge(0, 1);
        x.kind(0, 1, 1);
        due("5 year -1", x.tell(-1, 0, 0, 0, 0), -1);
        due("5 year 6", x.tell(6, 0, 0, 0, 0), -1);
        due("5 day -1", x.tell(0, -1, 0, 0, 0), -1);
        due("5 day 30", x.tell(0, 30, 0, 0, 0), -1);
        due("5 minute -1", x.tell(0, 0, -1, 0, 0), -1);
        due("5 minute 600", x.tell(0, 0, 600, 0, 0), -1);
        due("5 post -1", x.tell(0, 0, 0, -1, 0), -1);
        due("5 post 2", x.tell(0, 0, 0, 2, 0), -1);
        due("5 kind -1", x.tell(0, 0, 0, 0, -1), -1);
        due("5 kind 2", x.tell(0, 0, 0, 0, 2), -1);
        due("5 MAX", x.tell(Integer.MAX_VALUE, Integer.MAX_VALUE, 0, 0, 0), -1);
        due("5 MIN", x.tell(0, 0, Integer.MIN_VALUE, Integer.MIN_VALUE, Integer.MIN_VALUE), -1);
        due("5 the first", x.tell(0, 0, 0, 0, 0), 0);
        due("5 the last of all", x.tell(5, 29, 599, 1, 1), 1);
        x.off(2, 3, 4, true);
        due("5 off at its first minute", x.tell(2, 3, 240, 0, 0), -1);
        due("5 off at its last minute", x.tell(2, 3, 299, 0, 0), -1);
        due("5 ahead of it", x.tell(2, 3, 239, 0, 0), 2);
        due("5 behind it", x.tell(2, 3, 300, 0, 0), 3);
        due("5 the day behind", x.tell(2, 4, 240, 0, 0), 4);
        due("5 the year behind", x.tell(3, 3, 240, 0, 0), 5);
        x.off(2, 3, 4, false);
        due("5 on again", x.tell(2, 3, 240, 0, 0), 6);
    }

    private static void tellLimits() {
        HawkRidge x = ridge(0, 1);
        int told = 0;
        for (int day = 0; day < 12; day++) {
            for (int i = 0; i < 12; i++) {
                due("5 twelve below", x.tell(0, day, i, 0, 0), told++);
                due("5 twelve above", x.tell(0, day, i, 1, 0), told++);
            }
            due("5 a thirteenth below", x.tell(0, day, 0, 0, 0), -1);
            due("5 a thirteenth above", x.tell(0, day, 500, 1, 0), -1);
        }
        for (int i = 0; i < 12; i++) {
            due("5 up to 300", x.tell(1, 0, i, 0, 0), told++);
        }
        due("5 300 are there", x.tell(2, 0, 0, 0, 0), -1);
        due("5 TELLINGS", x.count(3), 300);
        due("5 of YEAR 0", x.year(0, 0), 288);

        HawkRidge hidden = ridge(0);
        hidden.later();
        for (int i = 0; i < 12; i++) {
            hidden.tell(0, 0, i, 0, 0);
        }
        hidden.known(0);
        due("5 12 are there, not known", hidden.tell(0, 0, 0, 0, 0), -1);
        due("5 the next number", hidden.tell(0, 1, 0, 0, 0), 12);
    }

    private static void off() {
        HawkRidge x = ridge(0);
        due("6 year -1", x.off(-1, 0, 0, true), false);
        due("6 year 6", x.off(6, 0, 0, true), false);
        due("6 day -1", x.off(0, -1, 0, true), false);
        due("6 day 30", x.off(0, 30, 0, true), false);
        due("6 hour -1", x.off(0, 0, -1, true), false);
        due("6 hour 10", x.off(0, 0, 10, true), false);
        due("6 hour 32", x.off(0, 0, 32, true), false);
        due("6 is not off", x.off(0, 0, 0, false), false);
        due("6 off", x.off(0, 0, 0, true), true);
        due("6 is off", x.off(0, 0, 0, true), false);
        due("6 HOURS off", x.year(0, 3), 1);
        due("6 not off", x.off(0, 0, 0, false), true);
        due("6 no HOURS off", x.year(0, 3), 0);
        due("6 the last of all", x.off(5, 29, 9, true), true);
        x.tell(0, 7, 119, 0, 0);
        due("6 a TELLING is in it", x.off(0, 7, 1, true), false);
        due("6 the HOUR ahead", x.off(0, 7, 0, true), true);
        due("6 the HOUR behind", x.off(0, 7, 2, true), true);
        due("6 another YEAR", x.off(1, 7, 1, true), true);
        x.later();
        x.tell(0, 8, 0, 0, 0);
        x.known(0);
        due("6 a TELLING is in it, not known", x.off(0, 8, 0, true), false);
        due("6 HOURS off of YEAR 0", x.year(0, 3), 2);
        due("6 HOURS off of YEAR 1", x.year(1, 3), 1);
    }

    private static void wind() {
        HawkRidge x = ridge(0);
        due("7 year -1", x.wind(-1, 0, 0), false);
        due("7 year 6", x.wind(6, 0, 0), false);
        due("7 day -1", x.wind(0, -1, 0), false);
        due("7 day 30", x.wind(0, 30, 0), false);
        due("7 wind -1", x.wind(0, 0, -1), false);
        due("7 wind 4", x.wind(0, 0, 4), false);
        due("7 as it is", x.wind(0, 0, 0), true);
        due("7 wind 3", x.wind(5, 29, 3), true);
        x.tell(0, 0, 0, 0, 0);
        x.off(0, 1, 0, true);
        due("7 all of wind 0", x.year(0, 4), 1000 / 299);
        due("7 the DAY with the BIRD", x.wind(0, 0, 1), true);
        due("7 no BIRD by wind 0", x.year(0, 4), 0);
        due("7 the DAY with the HOUR off", x.wind(0, 1, 1), true);
        due("7 both by wind 1", x.year(0, 4), 1000 / 19);
        due("7 back", x.wind(0, 1, 0), true);
        due("7 no BIRD by wind 0 again", x.year(0, 4), 0);
    }

    private static void known() {
        HawkRidge x = ridge(0);
        due("8 known(1)", x.known(1), false);
        due("8 known(-2)", x.known(-2), false);
        due("8 known(MIN)", x.known(Integer.MIN_VALUE), false);
        due("8 known(0)", x.known(0), true);
        due("8 told", x.count(5), 0);
        due("8 refused", x.known(1), false);
        due("8 told still", x.count(5), 0);
        x.tell(0, 0, 0, 0, 0);
        due("8 known at once", x.year(0, 2), 1);
        x.later();
        x.tell(0, 0, 0, 0, 0);
        due("8 not known on 0", x.year(0, 2), 1);
        due("8 known(1) now", x.known(1), true);
        due("8 known on 1", x.year(0, 2), 2);
        due("8 NOW", x.known(-1), true);
        due("8 told NONE", x.count(5), -1);
        x.later();
        x.tell(0, 0, 0, 0, 0);
        due("8 NOW grows", x.year(0, 2), 3);
        x.known(1);
        due("8 back to 1", x.year(0, 2), 2);
        x.known(0);
        due("8 back to 0", x.year(0, 2), 1);
        due("8 partner", x.partner(1), -2);
        due("8 bird", x.bird(1), -2);
        due("8 birds", birds(x, 0, 0, 0), 1);
        due("8 missed", x.year(0, 5), 1000);
    }

    private static void knownHidesOnlyTellings() {
        HawkRidge x = ridge(0, 60);
        x.tell(0, 0, 0, 0, 0);
        x.later();
        x.tell(0, 0, 20, 1, 0);
        x.tell(0, 0, 30, 1, 0);
        due("8 pair", x.partner(0), 1);
        x.known(0);
        due("8 pair not known", x.partner(0), -1);
        due("8 PAIRS not known", x.year(0, 1), 0);
        due("8 off is as it is", x.off(0, 1, 0, true), true);
        due("8 HOURS off as they are", x.year(0, 3), 1);
        due("8 MISSED as they are", x.year(0, 4), 3);
        x.wind(0, 1, 2);
        due("8 wind is as it is", x.year(0, 4), 0);
        x.known(-1);
        due("8 PAIRS known", x.year(0, 1), 1);
        due("8 BIRDS known", x.year(0, 2), 2);
    }

    private static void partner() {
        HawkRidge x = ridge(0, 60, 120);
        due("9 none there", x.partner(0), -2);
        x.tell(0, 0, 0, 0, 0);
        x.tell(0, 0, 30, 1, 0);
        x.tell(0, 0, 60, 2, 0);
        x.tell(0, 1, 30, 1, 0);
        x.tell(1, 0, 30, 1, 0);
        x.tell(2, 0, 0, 0, 0);
        x.tell(2, 0, 60, 2, 0);
        due("9 -1", x.partner(-1), -2);
        due("9 past", x.partner(7), -2);
        due("9 MIN", x.partner(Integer.MIN_VALUE), -2);
        due("9 at the next POST", x.partner(0), 1);
        due("9 at both sides", x.partner(1), 2);
        due("9 at the last POST", x.partner(2), -1);
        due("9 another DAY", x.partner(3), -1);
        due("9 another YEAR", x.partner(4), -1);
        due("9 not over a POST", x.partner(5), -1);
    }

    /** Answers whether a bird of speeds slow to fast may need so many minutes for the way. */
    private static boolean meets(int way, int slow, int fast, int minutes) {
        HawkRidge x = ridge(0, way);
        x.kind(0, slow, fast);
        x.tell(0, 0, 300, 0, 1);
        x.tell(0, 0, 300 + minutes, 1, 1);
        return x.partner(0) == 1;
    }

    private static void partnerSpeeds() {
        due("9 too fast", meets(60, 20, 60, 59), false);
        due("9 the fastest", meets(60, 20, 60, 60), true);
        due("9 the slowest", meets(60, 20, 60, 180), true);
        due("9 too slow", meets(60, 20, 60, 181), false);
        due("9 at once", meets(1, 1, 400, 0), false);
        due("9 one minute", meets(1, 1, 400, 1), true);
        due("9 ahead", meets(60, 1, 400, -60), false);
        due("9 no cut of the speed", meets(100, 30, 30, 199), false);
        due("9 just the speed", meets(100, 30, 30, 200), true);
        due("9 the least speed", meets(1, 1, 1, 60), true);
        due("9 below the least speed", meets(1, 1, 1, 61), false);
        HawkRidge x = ridge(100, 101, 301);
        x.tell(0, 0, 0, 0, 0);
        x.tell(0, 0, 60, 1, 0);
        due("9 any bird's slowest", x.partner(0), 1);
        x.tell(0, 1, 0, 0, 0);
        x.tell(0, 1, 61, 1, 0);
        due("9 slower than any bird", x.partner(2), -1);
        x.tell(0, 2, 0, 1, 0);
        x.tell(0, 2, 30, 2, 0);
        due("9 any bird's fastest", x.partner(4), 5);
        x.tell(0, 3, 0, 1, 0);
        x.tell(0, 3, 29, 2, 0);
        due("9 faster than any bird", x.partner(6), -1);
    }

    private static void partnerKinds() {
        HawkRidge x = ridge(0, 60);
        x.kind(0, 1, 400);
        x.kind(0, 1, 400);
        x.kind(1, 60, 60);
        x.tell(0, 0, 0, 0, 1);
        x.tell(0, 0, 60, 1, 2);
        due("9 kinds apart", x.partner(0), -1);
        x.tell(0, 1, 0, 0, 1);
        x.tell(0, 1, 60, 1, 3);
        due("9 the deeper's speed, above", x.partner(2), 3);
        x.tell(0, 2, 0, 0, 1);
        x.tell(0, 2, 61, 1, 3);
        due("9 not the deeper's speed, above", x.partner(4), -1);
        x.tell(0, 3, 0, 0, 3);
        x.tell(0, 3, 60, 1, 0);
        due("9 the deeper's speed, below", x.partner(6), 7);
        x.tell(0, 4, 0, 0, 3);
        x.tell(0, 4, 59, 1, 0);
        due("9 not the deeper's speed, below", x.partner(8), -1);
        x.tell(0, 5, 0, 0, 2);
        x.tell(0, 5, 60, 1, 3);
        due("9 a nephew", x.partner(10), -1);
    }

    private static void partnerFirstWay() {
        HawkRidge x = ridge(0, 60);
        x.tell(0, 0, 50, 0, 0);
        x.tell(0, 0, 0, 0, 0);
        x.tell(0, 0, 100, 1, 0);
        x.tell(0, 0, 30, 1, 0);
        due("9 as many as can be, 0", x.partner(0), 2);
        due("9 as many as can be, 1", x.partner(1), 3);
        x.tell(0, 0, 90, 1, 0);
        due("9 the least partner, 0", x.partner(0), 2);
        due("9 the least partner, 1", x.partner(1), 3);
        x.tell(0, 0, 0, 0, 0);
        x.tell(0, 0, 0, 0, 0);
        due("9 by numbers, 0", x.partner(0), 2);
        due("9 by numbers, 1", x.partner(1), 3);
        due("9 by numbers, 5", x.partner(5), 4);
        due("9 by numbers, 6", x.partner(6), -1);

        HawkRidge none = ridge(0, 60);
        none.kind(0, 300, 400);
        none.tell(0, 0, 0, 0, 1);
        none.tell(0, 0, 0, 0, 0);
        none.tell(0, 0, 10, 1, 0);
        due("9 the first one has it", none.partner(0), 2);
        due("9 the second has none", none.partner(1), -1);

        HawkRidge chain = ridge(0, 60);
        chain.kind(0, 60, 60);
        chain.tell(0, 0, 0, 0, 0);
        chain.tell(0, 0, 10, 0, 1);
        chain.tell(0, 0, 20, 0, 1);
        chain.tell(0, 0, 70, 1, 0);
        chain.tell(0, 0, 80, 1, 0);
        chain.tell(0, 0, 15, 1, 0);
        due("9 the others make it good, 0", chain.partner(0), 5);
        due("9 the others make it good, 1", chain.partner(1), 3);
        due("9 the others make it good, 2", chain.partner(2), 4);
        chain.tell(0, 0, 0, 0, 0);
        due("9 one that had none makes it good, 0", chain.partner(0), 3);
        due("9 one that had none makes it good, 1", chain.partner(1), -1);
        due("9 one that had none makes it good, 2", chain.partner(2), 4);
        due("9 one that had none makes it good, 6", chain.partner(6), 5);

        HawkRidge all = ridge(0, 60);
        for (int i = 0; i < 12; i++) {
            all.tell(0, 0, 0, 0, 0);
            all.tell(0, 0, 100, 1, 0);
        }
        for (int i = 0; i < 12; i++) {
            due("9 twelve with twelve", all.partner(2 * i), 2 * i + 1);
        }
    }

    private static void bird() {
        HawkRidge x = ridge(0, 60, 120, 180);
        due("10 none there", x.bird(0), -2);
        x.tell(0, 0, 180, 3, 0);
        x.tell(0, 0, 120, 2, 0);
        x.tell(0, 0, 60, 1, 0);
        x.tell(0, 0, 0, 0, 0);
        x.tell(0, 1, 180, 3, 0);
        x.tell(0, 1, 120, 2, 0);
        x.tell(0, 1, 0, 0, 0);
        for (int t = 0; t < 4; t++) {
            due("10 the one at the lowest POST", x.bird(t), 3);
        }
        due("10 a gap, above", x.bird(4), 5);
        due("10 a gap, its first", x.bird(5), 5);
        due("10 a gap, below", x.bird(6), 6);
        due("10 -1", x.bird(-1), -2);
        due("10 past", x.bird(7), -2);
        due("10 BIRDS", x.year(0, 2), 3);
        due("10 PAIRS", x.year(0, 1), 4);
        due("10 the HOUR of its first", x.passage(0, 0, 2), 12);
    }

    private static void birdKind() {
        HawkRidge x = ridge(0, 60, 120, 180);
        x.kind(0, 1, 400);
        x.kind(0, 1, 400);
        x.kind(2, 1, 400);
        x.tell(0, 0, 0, 0, 2);
        x.tell(0, 0, 60, 1, 0);
        x.tell(0, 0, 120, 2, 1);
        due("10 one BIRD", x.bird(2), 0);
        due("11 of as deep ones the first's", birds(x, 0, 2, 0), 1);
        due("11 not the later one's", birds(x, 0, 1, 0), 0);
        x.tell(1, 0, 60, 1, 0);
        x.tell(1, 0, 120, 2, 1);
        x.tell(1, 0, 0, 0, 2);
        due("10 one BIRD, told late", x.bird(4), 5);
        due("11 by POSTS, not by numbers", birds(x, 1, 2, 0), 1);
        x.tell(2, 0, 0, 0, 1);
        x.tell(2, 0, 60, 1, 0);
        x.tell(2, 0, 120, 2, 2);
        x.tell(2, 0, 180, 3, 3);
        due("11 the deepest", birds(x, 2, 3, 0), 1);
        due("11 just that", birds(x, 2, 2, 0), 0);
        due("11 UNDER", birds(x, 2, 2, 1), 1);
        due("11 not under another", birds(x, 2, 1, 1), 0);
        due("13 as the deepest", x.passage(2, 2, 0), 0);
        due("13 not as the first", x.passage(2, 1, 0), -1);
    }

    private static void birds() {
        HawkRidge x = ridge(0);
        x.kind(0, 1, 400);
        due("11 year -1", birds(x, -1, 0, 0), THROWN);
        due("11 year 6", birds(x, 6, 0, 0), THROWN);
        due("11 kind -1", birds(x, 0, -1, 0), THROWN);
        due("11 kind 2", birds(x, 0, 2, 0), THROWN);
        due("11 what -1", birds(x, 0, 0, -1), THROWN);
        due("11 what 3", birds(x, 0, 0, 3), THROWN);
        x.tell(0, 0, 0, 0, 0);
        x.tell(0, 0, 0, 0, 1);
        x.tell(0, 0, 0, 0, 1);
        x.tell(5, 0, 0, 0, 1);
        due("11 just 0", birds(x, 0, 0, 0), 1);
        due("11 under 0", birds(x, 0, 0, 1), 3);
        due("11 NUMBERS under 0", birds(x, 0, 0, 2), 3);
        due("11 just 1", birds(x, 0, 1, 0), 2);
        due("11 under 1", birds(x, 0, 1, 1), 2);
        due("11 NUMBER of 1", birds(x, 0, 1, 2), 3);
        due("11 YEAR 5", birds(x, 5, 1, 2), 1);
        HawkRidge bare = ridge(0);
        bare.tell(0, 0, 0, 0, 0);
        due("11 the only KIND is a LEAF", birds(bare, 0, 0, 2), 1);
    }

    private static void tellMany(HawkRidge x, int year, int firstDay, int kind, int many) {
        for (int i = 0; i < many; i++) {
            x.tell(year, firstDay + i / 12, i, 0, kind);
        }
    }

    private static void dueNumbers(HawkRidge x, int year, int... numbers) {
        for (int k = 0; k < numbers.length; k++) {
            due("11 NUMBER of KIND " + (k + 1), birds(x, year, k + 1, 2), numbers[k]);
        }
    }

    private static void numbers() {
        HawkRidge x = ridge(0);
        x.kind(0, 1, 400);
        x.kind(0, 1, 400);
        x.kind(0, 1, 400);
        tellMany(x, 0, 0, 0, 5);
        dueNumbers(x, 0, 2, 2, 1);
        tellMany(x, 0, 1, 2, 1);
        dueNumbers(x, 0, 0, 6, 0);
        tellMany(x, 0, 2, 3, 1);
        dueNumbers(x, 0, 0, 4, 3);
        tellMany(x, 0, 3, 3, 2);
        dueNumbers(x, 0, 0, 2, 7);
        tellMany(x, 1, 0, 1, 3);
        tellMany(x, 1, 1, 2, 3);
        tellMany(x, 1, 2, 3, 1);
        tellMany(x, 1, 3, 0, 4);
        // 4 * 3, 4 * 3, 4 * 1 by 7: 1 rest 5, 1 rest 5, 0 rest 4.
        dueNumbers(x, 1, 5, 5, 1);
        tellMany(x, 2, 0, 1, 1);
        tellMany(x, 2, 1, 2, 2);
        tellMany(x, 2, 2, 3, 4);
        tellMany(x, 2, 3, 0, 5);
        // 5, 10, 20 by 7: 0 rest 5, 1 rest 3, 2 rest 6.
        dueNumbers(x, 2, 2, 3, 7);
    }

    private static void numbersOfNested() {
        HawkRidge x = ridge(0);
        x.kind(0, 1, 400);
        x.kind(1, 1, 400);
        x.kind(1, 1, 400);
        x.kind(0, 1, 400);
        tellMany(x, 0, 0, 1, 3);
        tellMany(x, 0, 1, 0, 4);
        due("11 the doubtful are no weights", birds(x, 0, 2, 2), 4);
        due("11 the least KIND has the rest", birds(x, 0, 3, 2), 2);
        due("11 a LEAF under 0 alone", birds(x, 0, 4, 2), 1);
        due("11 the sum of LEAVES under 1", birds(x, 0, 1, 2), 6);
        due("11 the sum of all", birds(x, 0, 0, 2), 7);
        tellMany(x, 0, 2, 3, 1);
        due("11 nothing for none", birds(x, 0, 2, 2), 0);
        due("11 all from both", birds(x, 0, 3, 2), 8);
        due("11 none from 0", birds(x, 0, 4, 2), 0);
        HawkRidge two = ridge(0);
        two.kind(0, 1, 400);
        two.kind(0, 1, 400);
        tellMany(two, 0, 0, 0, 25);
        dueNumbers(two, 0, 13, 12);
    }

    private static void year() {
        HawkRidge x = ridge(0, 60);
        due("12 year -1", x.year(-1, 0), -1);
        due("12 year 6", x.year(6, 0), -1);
        due("12 what -1", x.year(0, -1), -1);
        due("12 what 6", x.year(0, 6), -1);
        x.tell(3, 0, 0, 0, 0);
        x.tell(3, 0, 60, 1, 0);
        x.tell(3, 29, 599, 1, 0);
        x.off(3, 1, 0, true);
        x.off(3, 29, 8, true);
        due("12 TELLINGS", x.year(3, 0), 3);
        due("12 PAIRS", x.year(3, 1), 1);
        due("12 BIRDS", x.year(3, 2), 2);
        due("12 HOURS off", x.year(3, 3), 2);
        due("12 MISSED", x.year(3, 4), 4000 / 298);
        due("12 TOTAL", x.year(3, 5), 2000 + 4000 / 298);
        for (int what = 0; what < 6; what++) {
            due("12 the YEAR ahead", x.year(2, what), 0);
            due("12 the YEAR behind", x.year(4, what), 0);
        }
    }

    private static void shutDay(HawkRidge x, int year, int day, int from) {
        for (int hour = from; hour < 10; hour++) {
            x.off(year, day, hour, true);
        }
    }

    private static void missed() {
        HawkRidge x = ridge(0);
        for (int day = 0; day < 3; day++) {
            x.wind(0, day, day + 1);
            x.tell(0, day, 0, 0, 0);
            shutDay(x, 0, day, 3);
        }
        // Three times 7 / 3: cut one by one it would be 6999.
        due("12 cut once", x.year(0, 4), 7000);
        due("12 TOTAL cut once", x.year(0, 5), 10000);

        x.tell(1, 0, 0, 0, 0);
        x.wind(1, 1, 3);
        shutDay(x, 1, 1, 0);
        due("12 no HOUR of that wind: by all", x.year(1, 4), 10000 / 290);
        x.wind(1, 2, 2);
        shutDay(x, 1, 2, 0);
        due("12 two such winds", x.year(1, 4), 20000 / 280);
        x.wind(1, 0, 1);
        due("12 wind 0 has none", x.year(1, 4), 20000 / 280);

        for (int day = 0; day < 30; day++) {
            shutDay(x, 2, day, 0);
        }
        due("12 no HOUR at all", x.year(2, 4), 0);
        due("12 all HOURS off", x.year(2, 3), 300);

        for (int day = 1; day < 12; day++) {
            shutDay(x, 3, day, 0);
        }
        for (int i = 0; i < 12; i++) {
            x.tell(3, 0, i, 0, 0);
        }
        due("12 many", x.year(3, 4), 12 * 110 * 1000 / 190);

        x.tell(4, 0, 0, 0, 0);
        x.tell(4, 1, 0, 0, 0);
        x.wind(4, 0, 2);
        shutDay(x, 4, 0, 1);
        due("12 one HOUR of that wind", x.year(4, 4), 9000);
    }

    private static void passage() {
        HawkRidge x = ridge(0);
        x.kind(0, 1, 400);
        x.kind(1, 1, 400);
        due("13 no BIRD", x.passage(0, 0, 0), -1);
        x.tell(0, 29, 599, 0, 0);
        x.tell(0, 3, 60, 0, 1);
        x.tell(0, 3, 59, 0, 2);
        x.tell(0, 10, 300, 0, 2);
        due("13 year -1", x.passage(-1, 0, 0), -1);
        due("13 year 6", x.passage(6, 0, 0), -1);
        due("13 kind -1", x.passage(0, -1, 0), -1);
        due("13 kind 3", x.passage(0, 3, 0), -1);
        due("13 kind 32", x.passage(0, 32, 0), -1);
        due("13 what -1", x.passage(0, 0, -1), -1);
        due("13 what 3", x.passage(0, 0, 3), -1);
        due("13 FIRST", x.passage(0, 0, 0), 30);
        due("13 HALF of four", x.passage(0, 0, 1), 31);
        due("13 LAST", x.passage(0, 0, 2), 299);
        due("13 FIRST of 1", x.passage(0, 1, 0), 30);
        due("13 HALF of three", x.passage(0, 1, 1), 31);
        due("13 LAST of 1", x.passage(0, 1, 2), 105);
        due("13 HALF of two", x.passage(0, 2, 1), 30);
        due("13 LAST of 2", x.passage(0, 2, 2), 105);
        due("13 another YEAR", x.passage(1, 0, 1), -1);
        x.tell(2, 0, 0, 0, 1);
        due("13 HALF of one", x.passage(2, 1, 1), 0);
        due("13 none of 2", x.passage(2, 2, 1), -1);
    }

    private static void change() {
        HawkRidge x = ridge(0);
        due("14 a -1", x.change(-1, 0), -2);
        due("14 a 6", x.change(6, 0), -2);
        due("14 b -1", x.change(0, -1), -2);
        due("14 b 6", x.change(0, 6), -2);
        due("14 none in both", x.change(0, 5), 0);
        x.tell(1, 0, 0, 0, 0);
        x.tell(2, 0, 0, 0, 0);
        x.tell(2, 0, 1, 0, 0);
        due("14 more", x.change(1, 2), 1);
        due("14 less", x.change(2, 1), -1);
        due("14 the same", x.change(1, 1), 0);
        for (int day = 1; day < 15; day++) {
            shutDay(x, 1, day, 0);
        }
        // 140 HOURS off of 300: 875 missed, still below 2000.
        due("14 TOTAL", x.year(1, 5), 1875);
        due("14 above the TOTAL", x.change(1, 2), 1);
        due("14 TOTAL below", x.change(2, 1), -1);
        shutDay(x, 1, 15, 0);
        due("14 TOTAL of just 2000", x.year(1, 5), 2000);
        due("14 not above the TOTAL", x.change(1, 2), 0);
        due("14 TOTAL not below", x.change(2, 1), 0);
        x.later();
        x.tell(2, 0, 2, 0, 0);
        due("14 as known now", x.change(1, 2), 1);
        x.known(0);
        due("14 as known then", x.change(1, 2), 0);
    }

    private static void look() {
        HawkRidge x = ridge(0, 1, 2);
        x.kind(0, 1, 400);
        due("15 none there", look(x, 0, 0), THROWN);
        x.later();
        x.later();
        x.tell(4, 17, 233, 2, 1);
        int[] told = {4, 17, 233, 2, 1, 2};
        for (int what = 0; what < 6; what++) {
            due("15 what " + what, look(x, 0, what), told[what]);
        }
        due("15 what -1", look(x, 0, -1), THROWN);
        due("15 what 6", look(x, 0, 6), THROWN);
        due("15 -1", look(x, -1, 0), THROWN);
        due("15 past", look(x, 1, 0), THROWN);
        due("15 MAX", look(x, Integer.MAX_VALUE, 0), THROWN);
        x.later();
        due("15 since when, later", look(x, 0, 5), 2);
    }

    private static void count() {
        HawkRidge x = ridge(0, 1);
        x.kind(0, 1, 400);
        x.kind(0, 1, 400);
        x.kind(1, 1, 400);
        x.later();
        x.tell(0, 0, 0, 0, 0);
        x.tell(1, 0, 0, 0, 0);
        x.tell(2, 0, 0, 0, 0);
        due("16 POSTS", x.count(0), 2);
        due("16 KINDS", x.count(1), 4);
        due("16 NOW", x.count(2), 1);
        due("16 TELLINGS", x.count(3), 3);
        due("16 LEAVES", x.count(4), 2);
        due("16 known", x.count(5), -1);
        x.known(1);
        due("16 known(1)", x.count(5), 1);
        due("16 what -1", x.count(-1), -1);
        due("16 what 6", x.count(6), -1);
    }
}
