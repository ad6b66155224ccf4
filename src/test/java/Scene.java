import java.util.ArrayList;
import java.util.List;
import java.util.function.Consumer;
import java.util.function.Supplier;

/** Ridges with something of everything, to see whether a call changes anything that later calls show. */
final class Scene {
    private Scene() {
    }

    /** POSTS, KINDS, HOURS off and winds, but no TELLING: so POSTS and KINDS may still come. */
    static Watch bare() {
        Watch x = Watch.at(10, 70, 130);
        x.kind(0, 20, 60);
        x.kind(1, 30, 60);
        x.kind(1, 30, 60);
        x.kind(0, 40, 100);
        x.shut(0, 0, 7, 8);
        x.shut(0, 1, 9, 9);
        x.shut(1, 2, 0, 1);
        x.wind(0, 0, 2);
        x.wind(1, 2, 1);
        return x;
    }

    /** TELLINGS of two YEARS, known on two days, with pairs over three POSTS. */
    static Watch told() {
        Watch x = bare();
        x.tell(0, 0, 0, 0, 1);
        x.tell(0, 0, 60, 1, 2);
        x.tell(0, 0, 120, 2, 0);
        x.tell(0, 0, 10, 0, 0);
        x.tell(0, 1, 500, 0, 4);
        x.tell(1, 2, 200, 1, 0);
        x.later();
        x.tell(0, 0, 50, 1, 0);
        x.tell(0, 1, 530, 1, 4);
        x.tell(1, 2, 150, 0, 3);
        x.tell(1, 29, 599, 2, 1);
        x.tell(0, 0, 5, 0, 3);
        x.later();
        return x;
    }

    static Watch toldAsKnownOnZero() {
        Watch x = told();
        x.known(0);
        return x;
    }

    /** A call that is refused, or that only looks, leaves each of the scenes as it was. */
    static void staysWith(String what, Consumer<Watch> calls) {
        staysIn(what + " (no TELLING)", Scene::bare, calls);
        staysIn(what + " (TELLINGS)", Scene::told, calls);
        staysIn(what + " (as known on 0)", Scene::toldAsKnownOnZero, calls);
    }

    static void staysIn(String what, Supplier<Watch> scene, Consumer<Watch> calls) {
        Watch left = scene.get();
        Watch asked = scene.get();
        calls.accept(asked);
        List<String> want = shown(left);
        List<String> got = shown(asked);
        int i = 0;
        while (i < want.size() && want.get(i).equals(got.get(i))) {
            i++;
        }
        if (i < want.size()) {
            Checks.fail(what + " changed " + want.get(i) + " to " + got.get(i));
        }
    }

    private static List<String> shown(Watch x) {
        List<String> shown = new ArrayList<>();
        for (int what = 0; what < 6; what++) {
            shown.add("count(" + what + ") = " + x.count(what));
        }
        int tellings = x.count(3);
        for (int t = 0; t <= tellings; t++) {
            shown.add("partner(" + t + ") = " + x.partner(t));
            shown.add("bird(" + t + ") = " + x.bird(t));
            for (int what = 0; what < 6; what++) {
                shown.add("look(" + t + ", " + what + ") = " + x.look(t, what));
            }
        }
        years(x, shown, 6);
        for (int year = 0; year < 2; year++) {
            for (int kind = 0; kind < 5; kind++) {
                for (int what = 0; what < 3; what++) {
                    String of = "(" + year + ", " + kind + ", " + what + ") = ";
                    shown.add("birds" + of + x.birds(year, kind, what));
                    shown.add("passage" + of + x.passage(year, kind, what));
                }
            }
            shown.add("change(" + year + ", 1) = " + x.change(year, 1));
        }
        turned(x, shown);
        return shown;
    }

    private static void years(Watch x, List<String> shown, int years) {
        for (int year = 0; year < years; year++) {
            for (int what = 0; what < 6; what++) {
                shown.add("year(" + year + ", " + what + ") = " + x.year(year, what));
            }
        }
    }

    /** What no look shows by itself comes out in what is taken or refused from here on. */
    private static void turned(Watch x, List<String> shown) {
        shown.add("post = " + x.post(131));
        shown.add("kind = " + x.kind(0, 1, 400));
        shown.add("LEAVES = " + x.count(4));
        shown.add("known(NOW) = " + x.known(x.count(2)));
        shown.add("tell = " + x.tell(0, 5, 599, 0, 1));
        shown.add("later = " + x.later());
        shown.add("since = " + x.look(x.count(3) - 1, 5));
        shown.add("known(NONE) = " + x.known(-1));
        for (int t = 0; t < 8; t++) {
            shown.add("then partner(" + t + ") = " + x.partner(t));
        }
        for (int day = 0; day < 3; day++) {
            for (int hour = 0; hour < 10; hour++) {
                shown.add("off " + day + ", " + hour + " = " + x.off(day / 2, day, hour, false));
            }
        }
        shown.add("HOURS off = " + x.year(0, 3) + ", " + x.year(1, 3));
        x.off(0, 3, 0, true);
        x.off(0, 0, 9, true);
        x.off(1, 2, 9, true);
        years(x, shown, 2);
    }
}
