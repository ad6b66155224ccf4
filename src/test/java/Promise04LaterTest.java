/** Promise 4: later. */
public final class Promise04LaterTest {
    public static void main(String[] args) {
        Checks.run(Promise04LaterTest.class);
    }

    static void nowGrowsByOne() {
        Watch x = new Watch();
        for (int now = 1; now <= 250; now++) {
            Checks.due("later", x.later(), now);
            Checks.due("NOW", x.count(2), now);
        }
    }

    static void all512CallsMayBeLater() {
        Watch x = new Watch();
        for (int now = 1; now <= 512; now++) {
            Checks.due("later", x.later(), now);
        }
    }

    /** So many calls are beyond what is promised; the class keeps the bound all the same. */
    static void nowIs1000AtMost() {
        HawkRidge x = new HawkRidge();
        x.post(0);
        for (int now = 1; now <= 1000; now++) {
            Checks.due("later", x.later(), now);
        }
        Checks.due("later at 1000", x.later(), -1);
        Checks.due("later at 1000 again", x.later(), -1);
        Checks.due("NOW", x.count(2), 1000);
        Checks.due("known(1001)", x.known(1001), false);
        Checks.due("known(1000)", x.known(1000), true);
        Checks.due("tell", x.tell(0, 0, 0, 0, 0), 0);
        Checks.due("since when known", x.look(0, 5), 1000);
    }

    static void tellingsKeepTheirDay() {
        Watch x = Watch.at(0);
        for (int now = 0; now < 5; now++) {
            x.tell(0, now, 0, 0, 0);
            x.later();
        }
        for (int t = 0; t < 5; t++) {
            Checks.due("since when known", x.look(t, 5), t);
        }
    }

    static void postsAndKindsMayStillCome() {
        Watch x = new Watch();
        x.later();
        Checks.due("post", x.post(0), 0);
        Checks.due("kind", x.kind(0, 1, 1), 1);
    }

    static void whatKnownToldStays() {
        Watch x = Watch.at(0);
        x.later();
        Checks.due("known(1)", x.known(1), true);
        x.later();
        Checks.due("what known() told", x.count(5), 1);
        x.tell(0, 0, 0, 0, 0);
        Checks.due("BIRDS as known on 1", x.year(0, 2), 0);
    }
}
