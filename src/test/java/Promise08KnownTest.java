/** Promise 8: known. */
public final class Promise08KnownTest {
    public static void main(String[] args) {
        Checks.run(Promise08KnownTest.class);
    }

    static void daysUpToNow() {
        Watch x = new Watch();
        for (int now = 0; now < 5; now++) {
            Checks.taken("known", 0, now, x::known);
            Checks.due("known(" + (now + 1) + ")", x.known(now + 1), false);
            x.later();
        }
    }

    static void noneIsTakenAndTheOneBelowItIsNot() {
        Watch x = new Watch();
        Checks.due("known(-2)", x.known(-2), false);
        Checks.due("known(NONE)", x.known(HawkRidge.NONE), true);
        Checks.due("known(0)", x.known(0), true);
    }

    static void allOthersAreRefused() {
        Watch x = new Watch();
        Checks.refused("known, NOW 0", -1, 0, k -> !x.known(k));
        x.later();
        x.later();
        Checks.refused("known, NOW 2", -1, 2, k -> !x.known(k));
    }

    static void whatItToldIsShown() {
        Watch x = new Watch();
        x.later();
        x.later();
        for (int k : new int[] {0, 2, 1, -1, 2}) {
            x.known(k);
            Checks.due("what known() told", x.count(5), k);
        }
    }

    static void refusedLeavesWhatWasTold() {
        Watch x = Watch.at(0);
        x.tell(0, 0, 0, 0, 0);
        x.later();
        x.tell(0, 1, 0, 0, 0);
        Checks.due("known(2)", x.known(2), false);
        Checks.due("NONE still", x.count(5), -1);
        Checks.due("BIRDS as known NOW", x.year(0, 2), 2);
        x.known(0);
        Checks.due("known(2)", x.known(2), false);
        Checks.due("known(-2)", x.known(-2), false);
        Checks.due("0 still", x.count(5), 0);
        Checks.due("BIRDS as known on 0", x.year(0, 2), 1);
    }

    /** Three TELLINGS, known from 0, 1 and 2 on. */
    private static Watch threeDays() {
        Watch x = Watch.at(0);
        for (int now = 0; now < 3; now++) {
            x.tell(0, now, 0, 0, 0);
            x.later();
        }
        return x;
    }

    static void aTellingIsKnownFromItsDayOn() {
        Watch x = threeDays();
        for (int k = 0; k <= 3; k++) {
            x.known(k);
            Checks.due("TELLINGS as known on " + k, x.year(0, 0), Math.min(k + 1, 3));
            for (int t = 0; t < 3; t++) {
                Checks.due("bird(" + t + ") as known on " + k, x.bird(t), t <= k ? t : -2);
                Checks.due("partner(" + t + ") as known on " + k, x.partner(t), t <= k ? -1 : -2);
            }
        }
    }

    static void noneIsOnNowAsItGrows() {
        Watch x = threeDays();
        x.known(0);
        x.known(-1);
        Checks.due("BIRDS", x.year(0, 2), 3);
        x.tell(0, 9, 0, 0, 0);
        Checks.due("one more at once", x.year(0, 2), 4);
        x.later();
        x.tell(0, 10, 0, 0, 0);
        Checks.due("one more, later", x.year(0, 2), 5);
    }

    static void aDayStaysAsNowGrows() {
        Watch x = Watch.at(0);
        x.known(0);
        x.tell(0, 0, 0, 0, 0);
        Checks.due("told on that day: known at once", x.year(0, 2), 1);
        x.later();
        x.tell(0, 1, 0, 0, 0);
        Checks.due("told on a later day", x.year(0, 2), 1);
        Checks.due("its BIRD", x.bird(1), -2);
    }

    static void allLooksAreAsKnown() {
        Watch x = Watch.at(0, 60);
        x.kind(0, 1, 400);
        x.tell(0, 10, 300, 0, 0);
        x.off(0, 11, 0, true);
        x.later();
        x.tell(0, 10, 330, 1, 1);
        x.tell(0, 3, 0, 0, 1);
        x.tell(0, 20, 599, 0, 1);
        int[] now = {x.partner(0), x.bird(1), x.birds(0, 1, 0), x.birds(0, 0, 1), x.birds(0, 1, 2), x.year(0, 0),
            x.year(0, 1), x.year(0, 2), x.year(0, 4), x.year(0, 5), x.passage(0, 0, 0), x.passage(0, 0, 1),
            x.passage(0, 0, 2), x.change(1, 0)};
        int[] dueNow = {1, 0, 3, 3, 3, 4, 1, 3, 3000 / 299, 3010, 30, 105, 209, 1};
        x.known(0);
        int[] then = {x.partner(0), x.bird(1), x.birds(0, 1, 0), x.birds(0, 0, 1), x.birds(0, 1, 2), x.year(0, 0),
            x.year(0, 1), x.year(0, 2), x.year(0, 4), x.year(0, 5), x.passage(0, 0, 0), x.passage(0, 0, 1),
            x.passage(0, 0, 2), x.change(1, 0)};
        int[] dueThen = {-1, -2, 0, 1, 1, 1, 0, 1, 1000 / 299, 1003, 105, 105, 105, 1};
        for (int i = 0; i < now.length; i++) {
            Checks.due("look " + i + " as known NOW", now[i], dueNow[i]);
            Checks.due("look " + i + " as known on 0", then[i], dueThen[i]);
        }
    }

    static void noBirdIsKnownYet() {
        Watch x = Watch.at(0);
        x.later();
        x.tell(0, 0, 0, 0, 0);
        x.known(0);
        Checks.due("BIRDS", x.year(0, 2), 0);
        Checks.due("birds", x.birds(0, 0, 0), 0);
        Checks.due("passage", x.passage(0, 0, 0), -1);
        Checks.due("change", x.change(1, 0), 0);
    }

    static void allElseIsAsItIs() {
        Watch x = Watch.at(0);
        x.tell(0, 0, 0, 0, 0);
        x.later();
        x.known(0);
        x.shut(0, 1, 0, 1);
        Checks.due("HOURS off", x.year(0, 3), 2);
        Checks.due("MISSED", x.year(0, 4), 2000 / 298);
        x.wind(0, 1, 1);
        Checks.due("winds", x.year(0, 4), 0);
        Checks.due("NOW", x.count(2), 1);
    }

    /** Without one that is not known yet, the others are PAIRED in another way. */
    static void pairsAreAsKnown() {
        Watch x = Watch.at(0, 60);
        x.tell(0, 0, 0, 0, 0);
        x.tell(0, 0, 20, 0, 0);
        x.tell(0, 0, 40, 1, 0);
        x.later();
        x.tell(0, 0, 15, 1, 0);
        Checks.due("partner(0), all known", x.partner(0), 3);
        Checks.due("partner(1), all known", x.partner(1), 2);
        x.known(0);
        Checks.due("partner(0) on 0", x.partner(0), 2);
        Checks.due("partner(1) on 0", x.partner(1), -1);
        x.known(1);
        Checks.due("partner(0) on 1", x.partner(0), 3);
        Checks.due("partner(1) on 1", x.partner(1), 2);
    }

    static void theFirstOfABirdIsAsKnown() {
        Watch x = Watch.at(0, 60);
        x.tell(0, 0, 60, 1, 0);
        x.later();
        x.tell(0, 0, 0, 0, 0);
        Checks.due("bird(0)", x.bird(0), 1);
        Checks.due("passage", x.passage(0, 0, 0), 0);
        x.known(0);
        Checks.due("bird(0) on 0", x.bird(0), 0);
        Checks.due("passage on 0", x.passage(0, 0, 0), 1);
    }

    static void refusedChangesNothing() {
        Scene.staysWith("a refused known", x -> {
            int now = x.count(2);
            for (int k : new int[] {-2, now + 1, now + 2, Integer.MIN_VALUE, Integer.MAX_VALUE, 1000}) {
                Checks.due("known(" + k + ")", x.known(k), false);
            }
        });
    }

    static void thereAndBackChangesNothing() {
        Scene.staysIn("known(0), known(NONE)", Scene::told, x -> {
            x.known(0);
            x.year(0, 2);
            x.known(-1);
        });
    }
}
