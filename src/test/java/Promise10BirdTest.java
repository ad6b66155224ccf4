/** Promise 10: bird, and what a BIRD has of its TELLINGS. */
public final class Promise10BirdTest {
    public static void main(String[] args) {
        Checks.run(Promise10BirdTest.class);
    }

    static void tellings() {
        Watch x = Watch.at(0, 60);
        x.tell(0, 0, 0, 0, 0);
        x.tell(0, 0, 60, 1, 0);
        Checks.due("bird(-1)", x.bird(-1), -2);
        Checks.due("bird(0)", x.bird(0), 0);
        Checks.due("bird(1)", x.bird(1), 0);
        Checks.due("bird(2)", x.bird(2), -2);
        Checks.refused("bird", 0, 1, t -> x.bird(t) == -2);
    }

    static void noTellingIsThere() {
        Checks.due("bird(0)", new Watch().bird(0), -2);
        Checks.due("bird(0) with POSTS", Watch.at(0, 60).bird(0), -2);
    }

    static void notKnownIsNoSuchTelling() {
        Watch x = Watch.at(0);
        x.later();
        x.tell(0, 0, 0, 0, 0);
        x.known(0);
        Checks.due("as known on 0", x.bird(0), -2);
        x.known(1);
        Checks.due("as known on 1", x.bird(0), 0);
    }

    static void oneTellingAtLeast() {
        Watch x = Watch.at(0, 60, 120);
        for (int post = 0; post < 3; post++) {
            x.tell(0, post, 0, post, 0);
            Checks.due("alone at POST " + post, x.bird(post), post);
        }
        Checks.due("BIRDS", x.year(0, 2), 3);
        Checks.due("PAIRS", x.year(0, 1), 0);
    }

    static void fourTellingsAtMost() {
        Watch x = Watch.at(0, 60, 120, 180);
        for (int post = 3; post >= 0; post--) {
            x.tell(0, 0, 60 * post, post, 0);
        }
        for (int t = 0; t < 4; t++) {
            Checks.due("the one at the lowest POST", x.bird(t), 3);
        }
        Checks.due("BIRDS", x.year(0, 2), 1);
        Checks.due("PAIRS", x.year(0, 1), 3);
    }

    static void itMayBeginBehindTheFirstPost() {
        Watch x = Watch.at(0, 60, 120, 180);
        x.tell(0, 0, 200, 3, 0);
        x.tell(0, 0, 100, 2, 0);
        Checks.due("the upper", x.bird(0), 1);
        Checks.due("the lower", x.bird(1), 1);
    }

    static void aGapParts() {
        Watch x = Watch.at(0, 60, 120, 180);
        x.tell(0, 0, 0, 0, 0);
        x.tell(0, 0, 60, 1, 0);
        x.tell(0, 0, 180, 3, 0);
        Checks.due("below the gap", x.bird(1), 0);
        Checks.due("above the gap", x.bird(2), 2);
        Checks.due("BIRDS", x.year(0, 2), 2);
    }

    static void itHasTheHourOfItsFirst() {
        Watch x = Watch.at(0, 60);
        x.tell(0, 4, 120, 1, 0);
        Checks.due("alone", x.passage(0, 0, 0), 42);
        x.tell(0, 4, 59, 0, 0);
        Checks.due("with one below", x.passage(0, 0, 0), 40);
        Checks.due("LAST too", x.passage(0, 0, 2), 40);
    }

    /** KINDS: 1 and 2 of 0, 3 of 2. */
    private static Watch kinds() {
        Watch x = Watch.at(0, 60, 120, 180);
        x.kind(0, 1, 400);
        x.kind(0, 1, 400);
        x.kind(2, 1, 400);
        return x;
    }

    private static void tellOne(Watch x, int... kindsByPost) {
        for (int post = 0; post < kindsByPost.length; post++) {
            x.tell(0, 0, 60 * post, post, kindsByPost[post]);
        }
        Checks.due("BIRDS", x.year(0, 2), 1);
    }

    static void itsKindIsTheDeepest() {
        Watch first = kinds();
        tellOne(first, 3, 2, 0);
        Checks.due("the first is the deepest", first.birds(0, 3, 0), 1);
        Watch between = kinds();
        tellOne(between, 0, 3, 2);
        Checks.due("one between is the deepest", between.birds(0, 3, 0), 1);
        Watch last = kinds();
        tellOne(last, 0, 0, 2, 3);
        Checks.due("the last is the deepest", last.birds(0, 3, 0), 1);
        Checks.due("no other", last.birds(0, 2, 0) + last.birds(0, 1, 0) + last.birds(0, 0, 0), 0);
    }

    static void ofAsDeepOnesTheFirsts() {
        Watch x = kinds();
        tellOne(x, 1, 0, 2);
        Checks.due("1 is the first", x.birds(0, 1, 0), 1);
        Checks.due("2 is not", x.birds(0, 2, 0), 0);
        Watch y = kinds();
        tellOne(y, 2, 0, 1);
        Checks.due("2 is the first", y.birds(0, 2, 0), 1);
        Checks.due("1 is not", y.birds(0, 1, 0), 0);
    }

    static void theFirstIsByPostsNotByNumbers() {
        Watch x = kinds();
        x.tell(0, 0, 120, 2, 1);
        x.tell(0, 0, 60, 1, 0);
        x.tell(0, 0, 0, 0, 2);
        Checks.due("BIRDS", x.year(0, 2), 1);
        Checks.due("2 is at the lowest POST", x.birds(0, 2, 0), 1);
    }

    static void twelveBirdsOverFourPosts() {
        Watch x = Watch.at(0, 60, 120, 180);
        for (int i = 0; i < 12; i++) {
            for (int post = 3; post >= 0; post--) {
                x.tell(0, 0, 100 * post, post, 0);
            }
        }
        Checks.due("BIRDS", x.year(0, 2), 12);
        Checks.due("PAIRS", x.year(0, 1), 36);
        for (int t = 0; t < 48; t++) {
            Checks.due("bird(" + t + ")", x.bird(t), t / 4 * 4 + 3);
        }
    }

    static void refusedChangesNothing() {
        Scene.staysWith("bird", x -> {
            for (int t : new int[] {-1, 11, 300, Integer.MIN_VALUE, Integer.MAX_VALUE}) {
                Checks.due("bird(" + t + ")", x.bird(t), -2);
            }
            for (int t = 0; t < 11; t++) {
                x.bird(t);
            }
        });
    }
}
