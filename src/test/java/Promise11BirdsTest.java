/** Promise 11: birds, and how those of doubtful KINDS are PARTED. */
public final class Promise11BirdsTest {
    public static void main(String[] args) {
        Checks.run(Promise11BirdsTest.class);
    }

    private static Watch withKinds(int... of) {
        Watch x = Watch.at(0);
        for (int i = 0; i < of.length; i++) {
            Checks.due("kind of " + of[i], x.kind(of[i], 1, 400), i + 1);
        }
        return x;
    }

    private static void numbers(Watch x, int year, int... want) {
        for (int kind = 0; kind < want.length; kind++) {
            Checks.due("NUMBER of KIND " + kind, x.birds(year, kind, 2), want[kind]);
        }
    }

    static void years() {
        Watch x = withKinds(0);
        Checks.taken("YEAR", 0, 5, year -> x.birds(year, 0, 0) == 0);
        for (int what = 0; what < 3; what++) {
            int w = what;
            Checks.refused("YEAR", 0, 5, year -> x.birds(year, 0, w) == Watch.THROWN);
        }
    }

    static void kinds() {
        Watch x = withKinds(0, 0);
        Checks.taken("KIND", 0, 2, kind -> x.birds(0, kind, 0) == 0);
        for (int what = 0; what < 3; what++) {
            int w = what;
            Checks.refused("KIND", 0, 2, kind -> x.birds(0, kind, w) == Watch.THROWN);
        }
    }

    static void theTwentiethKindIsTheLast() {
        Watch x = withKinds(0, 0, 0, 0, 0, 0, 0, 0, 0, 0, 0, 0, 0, 0, 0, 0, 0, 0, 0);
        x.tell(0, 0, 0, 0, 19);
        for (int what = 0; what < 3; what++) {
            Checks.due("KIND 19", x.birds(0, 19, what), 1);
            Checks.due("KIND 20", x.birds(0, 20, what), Watch.THROWN);
        }
    }

    static void whats() {
        Watch x = withKinds(0);
        Checks.taken("what", 0, 2, what -> x.birds(0, 0, what) == 0);
        Checks.refused("what", 0, 2, what -> x.birds(0, 0, what) == Watch.THROWN);
    }

    static void noBirdIsThere() {
        Watch x = withKinds(0, 0, 1);
        for (int kind = 0; kind < 4; kind++) {
            for (int what = 0; what < 3; what++) {
                Checks.due("birds(0, " + kind + ", " + what + ")", x.birds(0, kind, what), 0);
            }
        }
    }

    static void justThatKind() {
        Watch x = withKinds(0, 1, 1);
        x.tellMany(0, 0, 0, 1);
        x.tellMany(0, 1, 1, 2);
        x.tellMany(0, 2, 2, 3);
        x.tellMany(0, 3, 3, 4);
        for (int kind = 0; kind < 4; kind++) {
            Checks.due("just KIND " + kind, x.birds(0, kind, 0), kind + 1);
        }
    }

    static void aKindIsUnderItselfAndWhatItIsOf() {
        Watch x = withKinds(0, 1, 2, 0);
        x.tellMany(0, 0, 0, 1);
        x.tellMany(0, 1, 1, 2);
        x.tellMany(0, 2, 2, 3);
        x.tellMany(0, 3, 3, 4);
        x.tellMany(0, 4, 4, 5);
        int[] under = {15, 9, 7, 4, 5};
        for (int kind = 0; kind < 5; kind++) {
            Checks.due("UNDER KIND " + kind, x.birds(0, kind, 1), under[kind]);
        }
    }

    static void eachYearHasItsOwn() {
        Watch x = withKinds(0);
        for (int year = 0; year < 6; year++) {
            x.tellMany(year, 29, 1, year);
            x.tellMany(year, 0, 0, 1);
        }
        for (int year = 0; year < 6; year++) {
            Checks.due("just KIND 1", x.birds(year, 1, 0), year);
            Checks.due("UNDER KIND 0", x.birds(year, 0, 1), year + 1);
            Checks.due("NUMBER of KIND 1", x.birds(year, 1, 2), year + 1);
        }
    }

    static void theOnlyKindIsALeaf() {
        Watch x = withKinds();
        x.tellMany(0, 0, 0, 3);
        Checks.due("NUMBER of KIND 0", x.birds(0, 0, 2), 3);
    }

    static void theOnlyLeafHasAll() {
        Watch x = withKinds(0, 1, 2);
        x.tellMany(0, 0, 0, 2);
        x.tellMany(0, 1, 1, 3);
        x.tellMany(0, 2, 2, 4);
        numbers(x, 0, 9, 9, 9, 9);
        x.tellMany(0, 3, 3, 1);
        numbers(x, 0, 10, 10, 10, 10);
    }

    static void allNoughtAreAsIfOneEach() {
        Watch x = withKinds(0, 0, 0);
        x.tellMany(0, 0, 0, 6);
        numbers(x, 0, 6, 2, 2, 2);
    }

    static void whatIsLeftOfEqualRestsGoesToTheLeastKind() {
        Watch x = withKinds(0, 0, 0);
        x.tellMany(0, 0, 0, 1);
        numbers(x, 0, 1, 1, 0, 0);
        x.tellMany(0, 1, 0, 1);
        numbers(x, 0, 2, 1, 1, 0);
        x.tellMany(0, 2, 0, 1);
        numbers(x, 0, 3, 1, 1, 1);
        x.tellMany(0, 3, 0, 2);
        numbers(x, 0, 5, 2, 2, 1);
    }

    static void oneAmongNineteenLeaves() {
        Watch x = withKinds(0, 0, 0, 0, 0, 0, 0, 0, 0, 0, 0, 0, 0, 0, 0, 0, 0, 0, 0);
        x.tellMany(0, 0, 0, 18);
        for (int kind = 1; kind < 20; kind++) {
            Checks.due("18 among 19, KIND " + kind, x.birds(0, kind, 2), kind == 19 ? 0 : 1);
        }
        x.tellMany(0, 2, 0, 2);
        for (int kind = 1; kind < 20; kind++) {
            Checks.due("20 among 19, KIND " + kind, x.birds(0, kind, 2), kind == 1 ? 2 : 1);
        }
    }

    static void oneThatIsNotNoughtHasAll() {
        Watch x = withKinds(0, 0, 0);
        x.tellMany(0, 0, 0, 7);
        x.tellMany(0, 1, 2, 1);
        numbers(x, 0, 8, 0, 8, 0);
    }

    static void byHowManyAreOfJustThese() {
        Watch x = withKinds(0, 0);
        x.tellMany(0, 0, 1, 1);
        x.tellMany(0, 1, 2, 3);
        x.tellMany(0, 2, 0, 8);
        numbers(x, 0, 12, 3, 9);
    }

    /** 5 * 1, 5 * 2, 5 * 4 by 7: 0 rest 5, 1 rest 3, 2 rest 6; two are left. */
    static void theGreatestRestsFirst() {
        Watch x = withKinds(0, 0, 0);
        x.tellMany(0, 0, 1, 1);
        x.tellMany(0, 1, 2, 2);
        x.tellMany(0, 2, 3, 4);
        x.tellMany(0, 3, 0, 5);
        numbers(x, 0, 12, 2, 3, 7);
    }

    /** 4 * 3, 4 * 3, 4 * 1 by 7: 1 rest 5, 1 rest 5, 0 rest 4; two are left. */
    static void equalRestsAheadOfALesserOne() {
        Watch x = withKinds(0, 0, 0);
        x.tellMany(0, 0, 1, 3);
        x.tellMany(0, 1, 2, 3);
        x.tellMany(0, 2, 3, 1);
        x.tellMany(0, 3, 0, 4);
        numbers(x, 0, 11, 5, 5, 1);
    }

    /** 1 * 1, 1 * 2, 1 * 2 by 5: one is left, for the lesser of those with rest 2. */
    static void oneIsLeftForTheLeastOfTheGreatestRests() {
        Watch x = withKinds(0, 0, 0);
        x.tellMany(0, 0, 1, 1);
        x.tellMany(0, 1, 2, 2);
        x.tellMany(0, 2, 3, 2);
        x.tellMany(0, 3, 0, 1);
        numbers(x, 0, 6, 1, 3, 2);
    }

    /** Both doubtful KINDS part by the leaves' own, not by what these have from each other. */
    static void whatALeafHasFromOthersIsNoWeight() {
        Watch x = withKinds(0, 1, 1, 0);
        x.tellMany(0, 0, 1, 3);
        x.tellMany(0, 1, 0, 4);
        numbers(x, 0, 7, 6, 4, 2, 1);
    }

    static void aDoubtfulKindIsPartedAmongTheLeavesUnderItAlone() {
        Watch x = withKinds(0, 1, 1, 0);
        x.tellMany(0, 0, 1, 4);
        x.tellMany(0, 1, 4, 5);
        numbers(x, 0, 9, 4, 2, 2, 5);
        x.tellMany(0, 2, 3, 1);
        numbers(x, 0, 10, 5, 0, 5, 5);
    }

    static void birdsOfDoubtfulKindsAreNoWeights() {
        Watch x = withKinds(0, 1, 0);
        x.tellMany(0, 0, 1, 6);
        x.tellMany(0, 1, 0, 2);
        numbers(x, 0, 8, 7, 7, 1);
    }

    /** KIND 4 has a rest of what KIND 0 parts, but none of what KIND 1 parts. */
    static void eachDoubtfulKindHasRestsOfItsOwn() {
        Watch x = withKinds(0, 1, 1, 0);
        x.tellMany(0, 0, 0, 2);
        x.tellMany(0, 1, 1, 1);
        numbers(x, 0, 3, 3, 2, 1, 0);
    }

    static void threeHundredBirds() {
        Watch x = withKinds(0, 0, 0);
        x.tellMany(0, 0, 0, 100);
        x.tellMany(0, 10, 1, 99);
        x.tellMany(0, 20, 2, 98);
        x.tellMany(1, 0, 3, 3);
        // 9900 and 9800 by 197: 50 rest 50, 49 rest 147.
        numbers(x, 0, 297, 149, 148, 0);
        numbers(x, 1, 3, 0, 0, 3);
    }

    static void pairsAreOneBird() {
        Watch x = Watch.at(0, 60);
        x.kind(0, 1, 400);
        x.kind(0, 1, 400);
        x.tell(0, 0, 0, 0, 0);
        x.tell(0, 0, 60, 1, 2);
        numbers(x, 0, 1, 0, 1);
    }

    static void refusedChangesNothing() {
        Scene.staysWith("birds", x -> {
            int[][] wrong = {{-1, 0, 0}, {6, 0, 0}, {0, -1, 0}, {0, 5, 0}, {0, 20, 2}, {0, 32, 1}, {0, 0, -1},
                {0, 0, 3}, {Integer.MIN_VALUE, 0, 0}, {0, Integer.MAX_VALUE, 0}};
            for (int[] w : wrong) {
                Checks.due("birds(" + w[0] + ", " + w[1] + ", " + w[2] + ")", x.birds(w[0], w[1], w[2]),
                        Watch.THROWN);
            }
            for (int what = 0; what < 3; what++) {
                x.birds(0, 0, what);
                x.birds(1, 1, what);
            }
        });
    }
}
