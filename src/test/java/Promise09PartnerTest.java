import java.util.Arrays;
import java.util.Random;

/** Promise 9: partner, and when two TELLINGS MEET and are PAIRED. */
public final class Promise09PartnerTest {
    public static void main(String[] args) {
        Checks.run(Promise09PartnerTest.class);
    }

    static void tellings() {
        Watch x = Watch.at(0, 60);
        x.tell(0, 0, 0, 0, 0);
        x.tell(0, 0, 60, 1, 0);
        Checks.due("partner(-1)", x.partner(-1), -2);
        Checks.due("partner(0)", x.partner(0), 1);
        Checks.due("partner(1)", x.partner(1), -1);
        Checks.due("partner(2)", x.partner(2), -2);
        Checks.refused("partner", 0, 1, t -> x.partner(t) == -2);
    }

    static void noTellingIsThere() {
        Checks.due("partner(0)", new Watch().partner(0), -2);
        Checks.due("partner(0) with POSTS", Watch.at(0, 60).partner(0), -2);
    }

    static void notKnownIsNoSuchTelling() {
        Watch x = Watch.at(0, 60);
        x.later();
        x.tell(0, 0, 0, 0, 0);
        x.known(0);
        Checks.due("as known on 0", x.partner(0), -2);
        x.known(1);
        Checks.due("as known on 1", x.partner(0), -1);
    }

    static void theLastPostHasNoNext() {
        Watch one = Watch.at(0);
        one.tell(0, 0, 0, 0, 0);
        one.tell(0, 0, 1, 0, 0);
        Checks.due("one POST", one.partner(0), -1);
        Watch four = Watch.at(0, 60, 120, 180);
        for (int post = 0; post < 4; post++) {
            four.tell(0, 0, 60 * post, post, 0);
        }
        for (int post = 0; post < 4; post++) {
            Checks.due("POST " + post, four.partner(post), post == 3 ? -1 : post + 1);
        }
    }

    static void nothingAtTheNextPost() {
        Watch x = Watch.at(0, 60, 120);
        x.tell(0, 0, 0, 0, 0);
        x.tell(0, 0, 60, 2, 0);
        Checks.due("none is skipped", x.partner(0), -1);
    }

    static void anotherDayOrYear() {
        Watch x = Watch.at(0, 60);
        x.tell(2, 7, 0, 0, 0);
        x.tell(2, 6, 60, 1, 0);
        x.tell(2, 8, 60, 1, 0);
        x.tell(1, 7, 60, 1, 0);
        x.tell(3, 7, 60, 1, 0);
        x.tell(2, 29, 0, 0, 0);
        x.tell(3, 0, 60, 1, 0);
        Checks.due("the DAYS and YEARS ahead and behind", x.partner(0), -1);
        Checks.due("the next YEAR's first DAY", x.partner(5), -1);
        x.tell(2, 7, 60, 1, 0);
        Checks.due("that DAY", x.partner(0), 7);
    }

    private static boolean meet(int way, int slowest, int fastest, int minutes) {
        Watch x = Watch.at(0, way);
        x.kind(0, slowest, fastest);
        int from = minutes < 0 ? 599 : 0;
        x.tell(0, 0, from, 0, 1);
        x.tell(0, 0, from + minutes, 1, 1);
        return x.partner(0) == 1;
    }

    static void oneMinuteBehindAtLeast() {
        Checks.due("at once", meet(1, 1, 400, 0), false);
        Checks.due("one MINUTE", meet(1, 1, 400, 1), true);
        Checks.due("a MINUTE ahead", meet(1, 1, 400, -1), false);
        Checks.due("far ahead", meet(400, 1, 400, -60), false);
    }

    static void asSlowAsTheSlowest() {
        Checks.due("just the slowest", meet(60, 20, 400, 180), true);
        Checks.due("a MINUTE more", meet(60, 20, 400, 181), false);
        Checks.due("1 of 1", meet(1, 1, 400, 60), true);
        Checks.due("1 of 1, a MINUTE more", meet(1, 1, 400, 61), false);
        Checks.due("6000 by 31 at 193", meet(100, 31, 400, 193), true);
        Checks.due("6000 by 31 at 194", meet(100, 31, 400, 194), false);
    }

    static void asFastAsTheFastest() {
        Checks.due("just the fastest", meet(60, 1, 60, 60), true);
        Checks.due("a MINUTE less", meet(60, 1, 60, 59), false);
        Checks.due("400 of 400", meet(400, 1, 400, 60), true);
        Checks.due("400 of 400, a MINUTE less", meet(400, 1, 400, 59), false);
        Checks.due("6000 by 31 at 194", meet(100, 1, 31, 194), true);
        Checks.due("6000 by 31 at 193", meet(100, 1, 31, 193), false);
    }

    static void oneSpeedAlone() {
        for (int minutes = 198; minutes <= 202; minutes++) {
            Checks.due("30 in an hour, 100 places in " + minutes, meet(100, 30, 30, minutes), minutes == 200);
        }
        for (int minutes = 190; minutes <= 197; minutes++) {
            Checks.due("31 in an hour, 100 places: never", meet(100, 31, 31, minutes), false);
        }
    }

    static void theLongestWayAndTime() {
        Checks.due("400 places in 599", meet(400, 40, 400, 599), true);
        Checks.due("400 places in 599, faster", meet(400, 41, 400, 599), false);
    }

    static void theWayIsBetweenThePosts() {
        Watch x = Watch.at(100, 160, 280);
        x.kind(0, 60, 60);
        x.tell(0, 0, 0, 0, 1);
        x.tell(0, 0, 60, 1, 1);
        x.tell(0, 0, 180, 2, 1);
        Checks.due("60 places", x.partner(0), 1);
        Checks.due("120 places", x.partner(1), 2);
    }

    /** KINDS: 1 and 2 of 0, 3 of 1, 4 of 3; 60 places in 60 minutes. */
    private static boolean meetKinds(int below, int above) {
        Watch x = Watch.at(0, 60);
        x.kind(0, 1, 400);
        x.kind(0, 1, 400);
        x.kind(1, 1, 400);
        x.kind(3, 1, 400);
        x.tell(0, 0, 0, 0, below);
        x.tell(0, 0, 60, 1, above);
        return x.partner(0) == 1;
    }

    static void oneKindIsUnderTheOther() {
        int[][] apart = {{1, 2}, {2, 3}, {2, 4}};
        for (int a = 0; a < 5; a++) {
            for (int b = 0; b < 5; b++) {
                boolean areApart = false;
                for (int[] pair : apart) {
                    areApart |= pair[0] == a && pair[1] == b || pair[0] == b && pair[1] == a;
                }
                Checks.due("KINDS " + a + " and " + b, meetKinds(a, b), !areApart);
            }
        }
    }

    static void theSpeedsAreTheDeeperKinds() {
        for (int minutes : new int[] {59, 60, 61}) {
            Watch x = Watch.at(0, 60);
            x.kind(0, 1, 400);
            x.kind(1, 60, 60);
            x.kind(2, 1, 400);
            x.tell(0, 0, 0, 0, 1);
            x.tell(0, 0, minutes, 1, 2);
            Checks.due("the deeper above", x.partner(0), minutes == 60 ? 1 : -1);
            x.tell(0, 1, 0, 0, 2);
            x.tell(0, 1, minutes, 1, 0);
            Checks.due("the deeper below", x.partner(2), minutes == 60 ? 3 : -1);
            x.tell(0, 2, 0, 0, 2);
            x.tell(0, 2, minutes, 1, 2);
            Checks.due("both", x.partner(4), minutes == 60 ? 5 : -1);
            x.tell(0, 3, 0, 0, 3);
            x.tell(0, 3, minutes, 1, 2);
            Checks.due("one deeper still", x.partner(6), 7);
        }
    }

    static void noneTwiceAtThatSide() {
        Watch x = Watch.at(0, 60, 120);
        x.tell(0, 0, 0, 0, 0);
        x.tell(0, 0, 0, 0, 0);
        x.tell(0, 0, 60, 1, 0);
        x.tell(0, 0, 120, 2, 0);
        x.tell(0, 0, 120, 2, 0);
        Checks.due("the first has it", x.partner(0), 2);
        Checks.due("the second has none", x.partner(1), -1);
        Checks.due("it has one at its other side", x.partner(2), 3);
        Checks.due("PAIRS", x.year(0, 1), 2);
    }

    static void asManyAsCanBe() {
        Watch x = Watch.at(0, 60);
        x.tell(0, 0, 0, 0, 0);
        x.tell(0, 0, 30, 0, 0);
        x.tell(0, 0, 60, 1, 0);
        x.tell(0, 0, 20, 1, 0);
        Checks.due("the first leaves its least one", x.partner(0), 3);
        Checks.due("to the second", x.partner(1), 2);
    }

    static void theLeastPartnerByNumbers() {
        Watch x = Watch.at(0, 60);
        x.tell(0, 0, 300, 1, 0);
        x.tell(0, 0, 100, 1, 0);
        x.tell(0, 0, 200, 1, 0);
        x.tell(0, 0, 20, 0, 0);
        x.tell(0, 0, 10, 0, 0);
        x.tell(0, 0, 0, 0, 0);
        Checks.due("the first by numbers", x.partner(3), 0);
        Checks.due("the second", x.partner(4), 1);
        Checks.due("the third", x.partner(5), 2);
    }

    /** Any one of two may have none: the first by numbers has a partner. */
    static void noneIsTheLast() {
        Watch x = Watch.at(0, 60);
        x.tell(0, 0, 20, 0, 0);
        x.tell(0, 0, 0, 0, 0);
        x.tell(0, 0, 10, 0, 0);
        x.tell(0, 0, 300, 1, 0);
        x.tell(0, 0, 310, 1, 0);
        Checks.due("the first", x.partner(0), 3);
        Checks.due("the second", x.partner(1), 4);
        Checks.due("the third", x.partner(2), -1);
    }

    /** The first has its least one though a later TELLING, which had none, must then make the number good. */
    static void aLaterOneMakesItGood() {
        Watch x = Watch.at(0, 60);
        x.kind(0, 60, 60);
        x.tell(0, 0, 0, 0, 0);
        x.tell(0, 0, 10, 0, 1);
        x.tell(0, 0, 20, 0, 1);
        x.tell(0, 0, 70, 1, 0);
        x.tell(0, 0, 80, 1, 0);
        x.tell(0, 0, 15, 1, 0);
        Checks.due("three pairs: the first", x.partner(0), 5);
        Checks.due("three pairs: the second", x.partner(1), 3);
        Checks.due("three pairs: the third", x.partner(2), 4);
        x.tell(0, 0, 0, 0, 0);
        Checks.due("with a fourth: the first", x.partner(0), 3);
        Checks.due("with a fourth: the second", x.partner(1), -1);
        Checks.due("with a fourth: the third", x.partner(2), 4);
        Checks.due("with a fourth: itself", x.partner(6), 5);
    }

    static void twelveWithTwelve() {
        Watch x = Watch.at(0, 60);
        for (int i = 0; i < 12; i++) {
            x.tell(0, 0, 0, 0, 0);
            x.tell(0, 0, 100, 1, 0);
        }
        for (int i = 0; i < 12; i++) {
            Checks.due("partner(" + 2 * i + ")", x.partner(2 * i), 2 * i + 1);
        }
        Checks.due("PAIRS", x.year(0, 1), 12);
    }

    /** The last meets one alone, the one ahead of it that and one more, and so on: one way pairs all twelve. */
    static void twelveInOneWayAlone() {
        Watch x = Watch.at(0, 60);
        for (int i = 0; i < 12; i++) {
            x.tell(0, 0, 10 * i, 0, 0);
        }
        for (int i = 0; i < 12; i++) {
            x.tell(0, 0, 9 + 10 * (11 - i), 1, 0);
        }
        for (int i = 0; i < 12; i++) {
            Checks.due("partner(" + i + ")", x.partner(i), 23 - i);
        }
        Checks.due("PAIRS", x.year(0, 1), 12);
    }

    static void twelveThatMeetOneEach() {
        Watch x = Watch.at(0, 60);
        x.kind(0, 60, 60);
        for (int i = 0; i < 12; i++) {
            x.tell(0, 0, 10 * i, 0, 1);
            x.tell(0, 0, 60 + 10 * (11 - i), 1, 1);
        }
        for (int i = 0; i < 12; i++) {
            Checks.due("partner(" + 2 * i + ")", x.partner(2 * i), 2 * (11 - i) + 1);
        }
    }

    static void twelveWithOneAndOneWithTwelve() {
        Watch x = Watch.at(0, 60);
        x.tellMany(0, 0, 0, 12);
        x.tell(0, 0, 60, 1, 0);
        x.tell(0, 1, 0, 0, 0);
        for (int i = 0; i < 12; i++) {
            x.tell(0, 1, 60, 1, 0);
        }
        Checks.due("the first of twelve", x.partner(0), 12);
        for (int i = 1; i < 12; i++) {
            Checks.due("no other", x.partner(i), -1);
        }
        Checks.due("the first of twelve above", x.partner(13), 14);
    }

    private static final int[][] SPEEDS = {{1, 400}, {60, 60}, {90, 400}, {1, 72}};

    /** Small crowds, drawn by a fixed seed, against every way there is to pair them. */
    static void theFirstOfAllWaysThereAre() {
        Random random = new Random(20261117);
        for (int round = 0; round < 10000; round++) {
            int lower = 1 + random.nextInt(8);
            int upper = 1 + random.nextInt(5);
            Watch x = Watch.at(0, 60);
            for (int kind = 1; kind < SPEEDS.length; kind++) {
                x.kind(0, SPEEDS[kind][0], SPEEDS[kind][1]);
            }
            int[] minutes = new int[lower + upper];
            int[] kinds = new int[lower + upper];
            for (int t = 0; t < lower + upper; t++) {
                int post = t < lower ? 0 : 1;
                minutes[t] = 5 * random.nextInt(18) + 40 * post;
                kinds[t] = random.nextInt(SPEEDS.length);
                x.tell(0, 0, minutes[t], post, kinds[t]);
            }
            int[] best = new int[lower + 1];
            Arrays.fill(best, -1);
            firstWay(meetings(lower, minutes, kinds), 0, new int[lower + 1], 0, best);
            for (int s = 0; s < lower; s++) {
                int want = best[s] == upper ? -1 : lower + best[s];
                Checks.due("round " + round + ", partner(" + s + ")", x.partner(s), want);
            }
        }
    }

    private static boolean[][] meetings(int lower, int[] minutes, int[] kinds) {
        boolean[][] meet = new boolean[lower][minutes.length - lower];
        for (int s = 0; s < lower; s++) {
            for (int t = lower; t < minutes.length; t++) {
                int m = minutes[t] - minutes[s];
                int[] speed = SPEEDS[Math.max(kinds[s], kinds[t])];
                boolean isUnder = kinds[s] == kinds[t] || kinds[s] == 0 || kinds[t] == 0;
                meet[s][t - lower] = isUnder && m >= 1 && 3600 >= speed[0] * m && 3600 <= speed[1] * m;
            }
        }
        return meet;
    }

    /** Tries the ways from the first one on (none last), so only one with more pairs is better. */
    private static void firstWay(boolean[][] meet, int s, int[] way, int gone, int[] best) {
        int lower = meet.length;
        int upper = meet[0].length;
        if (s == lower) {
            way[lower] = Integer.bitCount(gone);
            if (way[lower] > best[lower]) {
                System.arraycopy(way, 0, best, 0, way.length);
            }
            return;
        }
        for (int t = 0; t < upper; t++) {
            if (meet[s][t] && (gone >> t & 1) == 0) {
                way[s] = t;
                firstWay(meet, s + 1, way, gone | 1 << t, best);
            }
        }
        way[s] = upper;
        firstWay(meet, s + 1, way, gone, best);
    }

    static void aNewTellingPairsAnew() {
        Watch x = Watch.at(0, 60);
        x.tell(0, 0, 0, 0, 0);
        Checks.due("alone", x.partner(0), -1);
        x.tell(0, 0, 60, 1, 0);
        Checks.due("with one", x.partner(0), 1);
        x.tell(0, 0, 10, 0, 0);
        x.tell(0, 0, 11, 1, 0);
        Checks.due("with more", x.partner(0), 3);
        Checks.due("its earlier one has another", x.partner(2), 1);
    }

    static void refusedChangesNothing() {
        Scene.staysWith("partner", x -> {
            for (int t : new int[] {-1, 11, 300, Integer.MIN_VALUE, Integer.MAX_VALUE}) {
                Checks.due("partner(" + t + ")", x.partner(t), -2);
            }
            for (int t = 0; t < 11; t++) {
                x.partner(t);
            }
        });
    }
}
