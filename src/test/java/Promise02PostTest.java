/** Promise 2: post. */
public final class Promise02PostTest {
    public static void main(String[] args) {
        Checks.run(Promise02PostTest.class);
    }

    static void numbersGoUpFromZero() {
        Watch x = new Watch();
        for (int i = 0; i < 4; i++) {
            Checks.due("POST " + i, x.post(100 * i + 7), i);
            Checks.due("POSTS", x.count(0), i + 1);
        }
    }

    static void placeZeroIsTheLeast() {
        Checks.due("post(-1)", new Watch().post(-1), -1);
        Checks.due("post(0)", new Watch().post(0), 0);
    }

    static void place400IsTheGreatest() {
        Checks.due("post(401)", new Watch().post(401), -1);
        Checks.due("post(400)", new Watch().post(400), 0);
        Watch x = Watch.at(399);
        Checks.due("post(401) behind 399", x.post(401), -1);
        Checks.due("post(400) behind 399", x.post(400), 1);
    }

    static void everyPlaceInTheBoundsIsTaken() {
        Checks.taken("post", 0, 400, place -> new Watch().post(place) == 0);
    }

    static void everyPlaceOutOfTheBoundsIsRefused() {
        Checks.refused("post", 0, 400, place -> new Watch().post(place) == -1);
        Watch x = Watch.at(0);
        Checks.refused("a second post", 1, 400, place -> x.post(place) == -1);
    }

    static void aPlaceMustBeAboveTheOneAhead() {
        Watch x = Watch.at(0);
        Checks.due("the same place, 0", x.post(0), -1);
        Checks.due("the next place", x.post(1), 1);
        Checks.due("the same place, 1", x.post(1), -1);
        Checks.due("below it", x.post(0), -1);
        Checks.due("far above", x.post(200), 2);
        Checks.due("below the last, above the first ones", x.post(199), -1);
        Checks.due("the same place, 200", x.post(200), -1);
        Checks.due("the next place", x.post(201), 3);
    }

    static void noneIsAbove400() {
        Watch x = Watch.at(400);
        Checks.due("400 again", x.post(400), -1);
        Checks.due("401", x.post(401), -1);
        Checks.due("399", x.post(399), -1);
        Checks.due("POSTS", x.count(0), 1);
    }

    static void fourAreThereAndNoMore() {
        Watch x = Watch.at(0, 1, 2);
        Checks.due("a fourth", x.post(3), 3);
        Checks.due("a fifth", x.post(4), -1);
        Checks.due("a fifth at 400", x.post(400), -1);
        Checks.due("POSTS", x.count(0), 4);
        Checks.due("tell at the fourth", x.tell(0, 0, 0, 3, 0), 0);
        Checks.due("tell at a fifth", x.tell(0, 0, 0, 4, 0), -1);
    }

    static void aTellingIsThere() {
        Watch x = Watch.at(0);
        x.tell(0, 0, 0, 0, 0);
        Checks.due("post behind a TELLING", x.post(1), -1);
        Checks.due("POSTS", x.count(0), 1);
    }

    static void aTellingIsThereThoughNotKnown() {
        Watch x = Watch.at(0);
        x.later();
        x.tell(0, 0, 0, 0, 0);
        x.known(0);
        Checks.due("post behind a TELLING not known", x.post(1), -1);
    }

    static void aRefusedTellIsNoTelling() {
        Watch x = Watch.at(0);
        x.tell(0, 0, 0, 1, 0);
        x.tell(0, 30, 0, 0, 0);
        Checks.due("post behind a refused tell", x.post(1), 1);
    }

    static void allElseMayComeAhead() {
        Watch x = new Watch();
        x.kind(0, 1, 400);
        x.later();
        x.off(0, 0, 0, true);
        x.wind(0, 0, 3);
        x.known(0);
        Checks.due("post behind all else", x.post(0), 0);
    }

    static void refusedChangesNothing() {
        Scene.staysWith("a refused post", x -> {
            for (int place : new int[] {-1, 401, 130, 129, 0, Integer.MIN_VALUE, Integer.MAX_VALUE}) {
                Checks.due("post(" + place + ")", x.post(place), -1);
            }
        });
        Scene.staysIn("a post behind TELLINGS", Scene::told, x -> Checks.due("post(400)", x.post(400), -1));
    }

    /** The way between POSTS would show a place that was taken by mistake. */
    static void refusedLeavesThePlaces() {
        Watch x = new Watch();
        x.post(-1);
        x.post(401);
        Checks.due("the first", x.post(40), 0);
        x.post(401);
        x.post(40);
        x.post(0);
        Checks.due("the second", x.post(100), 1);
        x.kind(0, 60, 60);
        x.tell(0, 0, 0, 0, 1);
        x.tell(0, 0, 60, 1, 1);
        x.post(400);
        Checks.due("60 places in 60 minutes", x.partner(0), 1);
    }
}
