/** Promise 15: look. */
public final class Promise15LookTest {
    public static void main(String[] args) {
        Checks.run(Promise15LookTest.class);
    }

    private static Watch two() {
        Watch x = Watch.at(0, 1, 2);
        x.kind(0, 1, 400);
        x.later();
        x.later();
        x.tell(4, 17, 233, 2, 1);
        x.later();
        x.tell(0, 0, 0, 0, 0);
        return x;
    }

    static void eachWhat() {
        Watch x = two();
        int[] first = {4, 17, 233, 2, 1, 2};
        int[] second = {0, 0, 0, 0, 0, 3};
        for (int what = 0; what < 6; what++) {
            Checks.due("look(0, " + what + ")", x.look(0, what), first[what]);
            Checks.due("look(1, " + what + ")", x.look(1, what), second[what]);
        }
    }

    static void tellings() {
        Watch x = two();
        Checks.due("look(-1, 0)", x.look(-1, 0), Watch.THROWN);
        Checks.due("look(2, 0)", x.look(2, 0), Watch.THROWN);
        for (int what = 0; what < 6; what++) {
            int w = what;
            Watch y = two();
            Checks.refused("TELLING", 0, 1, t -> y.look(t, w) == Watch.THROWN);
        }
    }

    static void whats() {
        Watch x = two();
        Checks.due("look(0, -1)", x.look(0, -1), Watch.THROWN);
        Checks.due("look(0, 6)", x.look(0, 6), Watch.THROWN);
        Checks.refused("what", 0, 5, what -> x.look(0, what) == Watch.THROWN);
    }

    static void noTellingIsThere() {
        Watch x = Watch.at(0);
        for (int what = 0; what < 6; what++) {
            Checks.due("look(0, " + what + ")", x.look(0, what), Watch.THROWN);
        }
    }

    static void theLastOfThreeHundred() {
        Watch x = Watch.at(0);
        x.tellMany(0, 0, 0, 300);
        Checks.due("DAY of 299", x.look(299, 1), 24);
        Checks.due("DAY of 0", x.look(0, 1), 0);
        Checks.due("300", x.look(300, 1), Watch.THROWN);
    }

    static void theGreatestOfEach() {
        Watch x = Watch.at(0, 1, 2, 3);
        for (int k = 1; k < 20; k++) {
            x.kind(0, 1, 400);
        }
        x.tell(5, 29, 599, 3, 19);
        int[] want = {5, 29, 599, 3, 19, 0};
        for (int what = 0; what < 6; what++) {
            Checks.due("look(0, " + what + ")", x.look(0, what), want[what]);
        }
    }

    static void itStaysAsToldWhateverComes() {
        Watch x = two();
        x.later();
        x.tell(4, 17, 240, 1, 0);
        x.wind(4, 17, 3);
        x.off(4, 17, 9, true);
        x.known(2);
        int[] first = {4, 17, 233, 2, 1, 2};
        for (int what = 0; what < 6; what++) {
            Checks.due("look(0, " + what + ")", x.look(0, what), first[what]);
        }
    }

    static void refusedChangesNothing() {
        Scene.staysWith("look", x -> {
            int[][] wrong = {{-1, 0}, {11, 0}, {300, 0}, {0, -1}, {0, 6}, {Integer.MIN_VALUE, 0},
                {0, Integer.MAX_VALUE}};
            for (int[] w : wrong) {
                Checks.due("look(" + w[0] + ", " + w[1] + ")", x.look(w[0], w[1]), Watch.THROWN);
            }
        });
    }
}
