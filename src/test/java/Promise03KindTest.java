/** Promise 3: kind. */
public final class Promise03KindTest {
    public static void main(String[] args) {
        Checks.run(Promise03KindTest.class);
    }

    static void numbersGoUpFromOne() {
        Watch x = new Watch();
        for (int k = 1; k < 5; k++) {
            Checks.due("KIND " + k, x.kind(0, 1, 400), k);
            Checks.due("KINDS", x.count(1), k + 1);
        }
    }

    static void itIsOfAKindThatIsThere() {
        Watch x = new Watch();
        Checks.due("of -1", x.kind(-1, 1, 400), -1);
        Checks.due("of 1, itself", x.kind(1, 1, 400), -1);
        Checks.due("of 0", x.kind(0, 1, 400), 1);
        Checks.due("of 2, itself", x.kind(2, 1, 400), -1);
        Checks.due("of 1, the last", x.kind(1, 1, 400), 2);
        Checks.due("of 0 again", x.kind(0, 1, 400), 3);
        Checks.refused("of", 0, 3, of -> x.kind(of, 1, 400) == -1);
    }

    static void slowestIsOneAtLeast() {
        Checks.due("slowest 0", new Watch().kind(0, 0, 400), -1);
        Checks.due("slowest 1", new Watch().kind(0, 1, 400), 1);
        Checks.due("slowest and fastest 0", new Watch().kind(0, 0, 0), -1);
        Checks.due("slowest and fastest 1", new Watch().kind(0, 1, 1), 1);
        Checks.refused("slowest", 1, 400, speed -> new Watch().kind(0, speed, 400) == -1);
    }

    static void fastestIs400AtMost() {
        Checks.due("fastest 401", new Watch().kind(0, 1, 401), -1);
        Checks.due("fastest 400", new Watch().kind(0, 1, 400), 1);
        Checks.due("slowest and fastest 401", new Watch().kind(0, 401, 401), -1);
        Checks.due("slowest and fastest 400", new Watch().kind(0, 400, 400), 1);
        Checks.refused("fastest", 1, 400, speed -> new Watch().kind(0, 1, speed) == -1);
    }

    static void slowestIsNotAboveFastest() {
        Checks.due("200, 199", new Watch().kind(0, 200, 199), -1);
        Checks.due("200, 200", new Watch().kind(0, 200, 200), 1);
        Checks.due("199, 200", new Watch().kind(0, 199, 200), 1);
        Checks.due("400, 1", new Watch().kind(0, 400, 1), -1);
        Checks.refused("both", 1, 400, speed -> new Watch().kind(0, speed, speed) == -1);
        Checks.taken("both", 1, 400, speed -> new Watch().kind(0, speed, speed) == 1);
    }

    static void itsSpeedsMayLieOutsideThoseItIsOf() {
        Watch x = Watch.at(0, 60);
        x.kind(0, 100, 200);
        Checks.due("slower and faster", x.kind(1, 1, 400), 2);
        Checks.due("slower", x.kind(1, 60, 60), 3);
        x.tell(0, 0, 0, 0, 1);
        x.tell(0, 0, 60, 1, 3);
        Checks.due("its own speed counts", x.partner(0), 1);
    }

    static void twentyAreThereAndNoMore() {
        Watch x = Watch.at(0);
        for (int k = 1; k < 20; k++) {
            Checks.due("KIND " + k, x.kind(0, k, 400), k);
        }
        Checks.due("one more", x.kind(0, 1, 400), -1);
        Checks.due("one more of the last", x.kind(19, 1, 400), -1);
        Checks.due("KINDS", x.count(1), 20);
        Checks.due("LEAVES", x.count(4), 19);
        Checks.due("tell of the last", x.tell(0, 0, 0, 0, 19), 0);
        Checks.due("tell of one more", x.tell(0, 0, 0, 0, 20), -1);
    }

    static void twentyMayBeOneUnderTheOther() {
        Watch x = Watch.at(0, 60);
        for (int k = 1; k < 20; k++) {
            Checks.due("KIND " + k, x.kind(k - 1, k == 19 ? 60 : 1, k == 19 ? 60 : 400), k);
        }
        Checks.due("one more", x.kind(19, 1, 400), -1);
        Checks.due("LEAVES", x.count(4), 1);
        x.tell(0, 0, 0, 0, 0);
        x.tell(0, 0, 60, 1, 19);
        Checks.due("the deepest is under the first", x.partner(0), 1);
        Checks.due("the BIRD is of the deepest", x.birds(0, 19, 0), 1);
        for (int k = 0; k < 20; k++) {
            Checks.due("UNDER " + k, x.birds(0, k, 1), 1);
        }
        x.tell(0, 1, 0, 0, 0);
        x.tell(0, 1, 61, 1, 19);
        Checks.due("by the deepest's speed", x.partner(2), -1);
    }

    static void aTellingIsThere() {
        Watch x = Watch.at(0);
        x.tell(0, 0, 0, 0, 0);
        Checks.due("kind behind a TELLING", x.kind(0, 1, 400), -1);
        Checks.due("KINDS", x.count(1), 1);
        Checks.due("LEAVES", x.count(4), 1);
    }

    static void aTellingIsThereThoughNotKnown() {
        Watch x = Watch.at(0);
        x.later();
        x.tell(0, 0, 0, 0, 0);
        x.known(0);
        Checks.due("kind behind a TELLING not known", x.kind(0, 1, 400), -1);
    }

    static void aRefusedTellIsNoTelling() {
        Watch x = Watch.at(0);
        x.tell(0, 0, 600, 0, 0);
        Checks.due("kind behind a refused tell", x.kind(0, 1, 400), 1);
    }

    static void itNeedsNoPost() {
        Checks.due("kind without a POST", new Watch().kind(0, 1, 400), 1);
    }

    static void leavesAreKindsOfWhichThereIsNone() {
        Watch x = new Watch();
        int[] of = {0, 1, 1, 0, 3};
        int[] leaves = {1, 1, 2, 3, 3};
        for (int i = 0; i < of.length; i++) {
            x.kind(of[i], 1, 400);
            Checks.due("LEAVES of " + (i + 2) + " KINDS", x.count(4), leaves[i]);
        }
    }

    static void refusedChangesNothing() {
        Scene.staysWith("a refused kind", x -> {
            int[][] wrong = {{-1, 1, 1}, {5, 1, 1}, {20, 1, 1}, {32, 1, 1}, {2, 0, 1}, {2, 1, 401}, {2, 2, 1},
                {2, -1, -1}, {Integer.MIN_VALUE, 1, 1}, {2, Integer.MIN_VALUE, 400}, {2, 1, Integer.MAX_VALUE}};
            for (int[] w : wrong) {
                Checks.due("kind(" + w[0] + ", " + w[1] + ", " + w[2] + ")", x.kind(w[0], w[1], w[2]), -1);
            }
        });
        Scene.staysIn("a kind behind TELLINGS", Scene::told, x -> Checks.due("kind", x.kind(2, 1, 400), -1));
    }
}
