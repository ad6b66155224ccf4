import java.math.BigInteger;
import java.util.ArrayList;
import java.util.Arrays;
import java.util.HashMap;
import java.util.List;
import java.util.Map;
import java.util.NoSuchElementException;
import java.util.Random;
import java.util.TreeMap;

/**
 * Runs of calls drawn by a fixed seed, on HawkRidge and on a slow model that works every answer out anew from
 * the document's words: pairs by trying all ways, fractions by BigInteger, birds by walking along their pairs.
 */
public final class ModelTest {
    private static final int RUNS = 1500;
    private static final int CALLS = 512;
    private static final String[] NAMES = {
        "post", "kind", "later", "tell", "off", "wind", "known", "partner", "bird",
        "birds", "year", "passage", "change", "look", "count"};

    public static void main(String[] args) {
        int wrong = 0;
        Map<String, Integer> asked = new TreeMap<>();
        for (int run = 0; run < RUNS && wrong < 20; run++) {
            wrong += run(run, asked);
        }
        System.out.println("ModelTest: " + asked);
        System.out.println(wrong == 0 ? "ModelTest: all answers are as due" : wrong + " runs are not as due");
        if (wrong != 0) {
            System.exit(1);
        }
    }

    private static int run(int seed, Map<String, Integer> asked) {
        Draw draw = new Draw(seed);
        HawkRidge real = new HawkRidge();
        Model model = new Model();
        List<String> told = new ArrayList<>();
        for (int i = 0; i < CALLS; i++) {
            int[] call = draw.call(i, model);
            String want = ask(model, call);
            String got = ask(real, call);
            told.add(NAMES[call[0]] + Arrays.toString(Arrays.copyOfRange(call, 1, call.length)) + " = " + got);
            asked.merge(NAMES[call[0]] + (want.startsWith("-") || want.equals("none") || want.equals("false")
                    ? " refused or none" : ""), 1, Integer::sum);
            if (!want.equals(got)) {
                System.out.println("run " + seed + ", call " + i + ", due is " + want + ", in:");
                told.forEach(row -> System.out.println("  " + row));
                return 1;
            }
        }
        return 0;
    }

    private static String ask(HawkRidge x, int[] c) {
        try {
            switch (c[0]) {
                case 0: return "" + x.post(c[1]);
                case 1: return "" + x.kind(c[1], c[2], c[3]);
                case 2: return "" + x.later();
                case 3: return "" + x.tell(c[1], c[2], c[3], c[4], c[5]);
                case 4: return "" + x.off(c[1], c[2], c[3], c[4] == 1);
                case 5: return "" + x.wind(c[1], c[2], c[3]);
                case 6: return "" + x.known(c[1]);
                case 7: return "" + x.partner(c[1]);
                case 8: return "" + x.bird(c[1]);
                case 9: return "" + x.birds(c[1], c[2], c[3]);
                case 10: return "" + x.year(c[1], c[2]);
                case 11: return "" + x.passage(c[1], c[2], c[3]);
                case 12: return "" + x.change(c[1], c[2]);
                case 13: return "" + x.look(c[1], c[2]);
                default: return "" + x.count(c[1]);
            }
        } catch (NoSuchElementException e) {
            return "none";
        }
    }

    private static String ask(Model x, int[] c) {
        try {
            switch (c[0]) {
                case 0: return "" + x.post(c[1]);
                case 1: return "" + x.kind(c[1], c[2], c[3]);
                case 2: return "" + x.later();
                case 3: return "" + x.tell(c[1], c[2], c[3], c[4], c[5]);
                case 4: return "" + x.off(c[1], c[2], c[3], c[4] == 1);
                case 5: return "" + x.wind(c[1], c[2], c[3]);
                case 6: return "" + x.known(c[1]);
                case 7: return "" + x.partner(c[1]);
                case 8: return "" + x.bird(c[1]);
                case 9: return "" + x.birds(c[1], c[2], c[3]);
                case 10: return "" + x.year(c[1], c[2]);
                case 11: return "" + x.passage(c[1], c[2], c[3]);
                case 12: return "" + x.change(c[1], c[2]);
                case 13: return "" + x.look(c[1], c[2]);
                default: return "" + x.count(c[1]);
            }
        } catch (NoSuchElementException e) {
            return "none";
        }
    }

    /** Draws calls; each run has a temper of its own, so that some are crowded and some are wide. */
    private static final class Draw {
        private final Random random;
        private final int years;
        private final int days;
        private final int minutes;
        private final int wildness;
        private final int setUp;
        private final boolean wideSpeeds;
        private final int between;

        private Draw(int seed) {
            random = new Random(seed * 7919L + 17);
            years = 1 + random.nextInt(6);
            days = random.nextInt(3) == 0 ? 30 : 1 + random.nextInt(4);
            minutes = random.nextBoolean() ? 600 : 30 + random.nextInt(200);
            wildness = random.nextInt(4) == 0 ? 5 : 40;
            setUp = 2 + random.nextInt(random.nextBoolean() ? 8 : 30);
            wideSpeeds = random.nextInt(3) != 0;
            between = random.nextInt(60);
        }

        private int of(int bound) {
            if (random.nextInt(wildness * 8) == 0) {
                int[] odd = {-1, -2, bound, bound + 1, Integer.MIN_VALUE, Integer.MAX_VALUE, 32, 64};
                return odd[random.nextInt(odd.length)];
            }
            return random.nextInt(Math.max(1, bound));
        }

        private int year() {
            return of(6) % 6 < 0 ? -1 : random.nextInt(20) == 0 ? of(6) : random.nextInt(years);
        }

        private int day() {
            return random.nextInt(20) == 0 ? of(30) : random.nextInt(days);
        }

        private int[] call(int i, Model m) {
            if (i < setUp) {
                if (random.nextInt(4) == 0 || i < 2) {
                    int from = m.places.isEmpty() ? 0 : m.places.get(m.places.size() - 1);
                    int step = random.nextInt(10) == 0 ? random.nextInt(401) : 1 + random.nextInt(120);
                    return new int[] {0, random.nextInt(8) == 0 ? of(401) : from + step};
                }
                int slow = 1 + random.nextInt(wideSpeeds ? 20 : 400);
                int fast = random.nextInt(12) == 0 ? of(402) : Math.min(400, slow + (wideSpeeds ? 150 : 0) + random.nextInt(200));
                return new int[] {1, of(m.parents.size()), random.nextInt(20) == 0 ? of(402) : slow, fast};
            }
            int dice = random.nextInt(100);
            if (dice < 45) {
                int post = of(m.places.size());
                int minute = Math.min(599, random.nextInt(minutes) + (Model.in(post, 4) ? post * between : 0));
                int kind = random.nextInt(4) == 0 ? 0 : of(m.parents.size());
                return new int[] {3, year(), day(), random.nextInt(wildness) == 0 ? of(600) : minute, post, kind};
            }
            return look(m, dice);
        }

        private int[] look(Model m, int dice) {
            int tellings = m.tellings.size();
            if (dice < 48) {
                return new int[] {2};
            }
            if (dice < 54) {
                int hour = of(10);
                return new int[] {4, year(), day(), hour, random.nextInt(4) == 0 ? 0 : 1};
            }
            if (dice < 58) {
                return new int[] {5, year(), day(), of(4)};
            }
            if (dice < 61) {
                return new int[] {6, random.nextInt(3) != 0 ? -1 : of(m.now + 1)};
            }
            if (dice < 69) {
                return new int[] {7, of(tellings + 1)};
            }
            if (dice < 74) {
                return new int[] {8, of(tellings + 1)};
            }
            if (dice < 81) {
                return new int[] {9, year(), of(m.parents.size()), of(3)};
            }
            if (dice < 88) {
                return new int[] {10, year(), of(6)};
            }
            if (dice < 93) {
                return new int[] {11, year(), of(m.parents.size()), of(3)};
            }
            if (dice < 96) {
                return new int[] {12, year(), year()};
            }
            if (dice < 98) {
                return new int[] {13, of(tellings + 1), of(6)};
            }
            return random.nextInt(4) == 0 ? new int[] {random.nextInt(2), of(20), of(400), of(400)}
                    : new int[] {14, of(6)};
        }
    }

    private static final class Model {
        private final List<Integer> places = new ArrayList<>();
        private final List<Integer> parents = new ArrayList<>(List.of(-1));
        private final List<int[]> speeds = new ArrayList<>(List.of(new int[] {1, 400}));
        private final List<int[]> tellings = new ArrayList<>();
        private final Map<Integer, Integer> winds = new HashMap<>();
        private final Map<Integer, Boolean> shut = new HashMap<>();
        private int now = 0;
        private int k = -1;

        private static boolean in(int x, int bound) {
            return 0 <= x && x < bound;
        }

        private int post(int place) {
            int last = places.isEmpty() ? -1 : places.get(places.size() - 1);
            if (!in(place, 401) || place <= last || places.size() == 4 || !tellings.isEmpty()) {
                return -1;
            }
            places.add(place);
            return places.size() - 1;
        }

        private int kind(int of, int slowest, int fastest) {
            if (!in(of, parents.size()) || slowest < 1 || fastest > 400 || slowest > fastest
                    || parents.size() == 20 || !tellings.isEmpty()) {
                return -1;
            }
            parents.add(of);
            speeds.add(new int[] {slowest, fastest});
            return parents.size() - 1;
        }

        private int later() {
            return now == 1000 ? -1 : ++now;
        }

        private int tell(int year, int day, int minute, int post, int kind) {
            if (!in(year, 6) || !in(day, 30) || !in(minute, 600) || !in(post, places.size())
                    || !in(kind, parents.size()) || tellings.size() == 300 || isOff(year, day, minute / 60)) {
                return -1;
            }
            long there = tellings.stream().filter(t -> t[0] == year && t[1] == day && t[3] == post).count();
            if (there == 12) {
                return -1;
            }
            tellings.add(new int[] {year, day, minute, post, kind, now});
            return tellings.size() - 1;
        }

        private boolean isOff(int year, int day, int hour) {
            return shut.getOrDefault(year * 1000 + day * 10 + hour, false);
        }

        private boolean off(int year, int day, int hour, boolean yes) {
            if (!in(year, 6) || !in(day, 30) || !in(hour, 10) || isOff(year, day, hour) == yes) {
                return false;
            }
            if (yes && tellings.stream().anyMatch(t -> t[0] == year && t[1] == day && t[2] / 60 == hour)) {
                return false;
            }
            shut.put(year * 1000 + day * 10 + hour, yes);
            return true;
        }

        private boolean wind(int year, int day, int w) {
            if (!in(year, 6) || !in(day, 30) || !in(w, 4)) {
                return false;
            }
            winds.put(year * 30 + day, w);
            return true;
        }

        private boolean known(int on) {
            if (on != -1 && !in(on, now + 1)) {
                return false;
            }
            k = on;
            return true;
        }

        private boolean seen(int t) {
            return in(t, tellings.size()) && tellings.get(t)[5] <= (k == -1 ? now : k);
        }

        private boolean under(int kind, int top) {
            return kind == top || kind != 0 && under(parents.get(kind), top);
        }

        private int depth(int kind) {
            return kind == 0 ? 0 : 1 + depth(parents.get(kind));
        }

        private boolean leaf(int kind) {
            return !parents.contains(kind);
        }

        private boolean meet(int[] s, int[] t) {
            if (!under(s[4], t[4]) && !under(t[4], s[4])) {
                return false;
            }
            int[] speed = speeds.get(depth(s[4]) >= depth(t[4]) ? s[4] : t[4]);
            int d = places.get(t[3]) - places.get(s[3]);
            int m = t[2] - s[2];
            return m >= 1 && d * 60 >= speed[0] * m && d * 60 <= speed[1] * m;
        }

        private List<Integer> at(int year, int day, int post) {
            List<Integer> found = new ArrayList<>();
            for (int t = 0; t < tellings.size(); t++) {
                int[] x = tellings.get(t);
                if (seen(t) && x[0] == year && x[1] == day && x[3] == post) {
                    found.add(t);
                }
            }
            return found;
        }

        /** The most pairs for the lefts from i on with some rights gone, for all sets of rights. */
        private int most(List<Integer> s, List<Integer> t, int i, int gone, Map<Integer, Integer> memo) {
            if (i == s.size()) {
                return 0;
            }
            int key = i << 12 | gone;
            if (!memo.containsKey(key)) {
                int best = most(s, t, i + 1, gone, memo);
                for (int j = 0; j < t.size(); j++) {
                    if ((gone >> j & 1) == 0 && meet(tellings.get(s.get(i)), tellings.get(t.get(j)))) {
                        best = Math.max(best, 1 + most(s, t, i + 1, gone | 1 << j, memo));
                    }
                }
                memo.put(key, best);
            }
            return memo.get(key);
        }

        private final Map<String, Map<Integer, Integer>> kept = new HashMap<>();

        private Map<Integer, Integer> pairs(int year, int day, int post) {
            List<Integer> s = at(year, day, post);
            List<Integer> t = at(year, day, post + 1);
            return kept.computeIfAbsent(s + " " + t, key -> pairs(s, t));
        }

        private Map<Integer, Integer> pairs(List<Integer> s, List<Integer> t) {
            Map<Integer, Integer> memo = new HashMap<>();
            Map<Integer, Integer> pairs = new TreeMap<>();
            int gone = 0;
            for (int i = 0; i < s.size(); i++) {
                int need = most(s, t, i, gone, memo);
                for (int j = 0; j < t.size(); j++) {
                    if ((gone >> j & 1) == 0 && meet(tellings.get(s.get(i)), tellings.get(t.get(j)))
                            && 1 + most(s, t, i + 1, gone | 1 << j, memo) == need) {
                        pairs.put(s.get(i), t.get(j));
                        gone |= 1 << j;
                        break;
                    }
                }
            }
            return pairs;
        }

        private int partner(int t) {
            if (!seen(t)) {
                return -2;
            }
            int[] x = tellings.get(t);
            return pairs(x[0], x[1], x[3]).getOrDefault(t, -1);
        }

        private int bird(int t) {
            if (!seen(t)) {
                return -2;
            }
            int[] x = tellings.get(t);
            for (Map.Entry<Integer, Integer> pair : pairs(x[0], x[1], x[3] - 1).entrySet()) {
                if (pair.getValue() == t) {
                    return bird(pair.getKey());
                }
            }
            return t;
        }

        /** Rows of a bird's first telling and its kind. */
        private List<int[]> flock(int year) {
            List<int[]> flock = new ArrayList<>();
            for (int t = 0; t < tellings.size(); t++) {
                if (seen(t) && tellings.get(t)[0] == year && bird(t) == t) {
                    int kind = tellings.get(t)[4];
                    for (int u = partner(t); u >= 0; u = partner(u)) {
                        int other = tellings.get(u)[4];
                        kind = depth(other) > depth(kind) ? other : kind;
                    }
                    flock.add(new int[] {t, kind});
                }
            }
            return flock;
        }

        private int birds(int year, int kind, int what) {
            if (!in(year, 6) || !in(kind, parents.size()) || !in(what, 3)) {
                throw new NoSuchElementException();
            }
            int[] own = new int[20];
            flock(year).forEach(b -> own[b[1]]++);
            int[] numbers = numbers(own);
            int sum = 0;
            for (int j = 0; j < parents.size(); j++) {
                if (what == 0 ? j == kind : under(j, kind)) {
                    sum += what < 2 ? own[j] : leaf(j) ? numbers[j] : 0;
                }
            }
            return sum;
        }

        private int[] numbers(int[] own) {
            int[] numbers = new int[20];
            for (int top = 0; top < parents.size(); top++) {
                if (leaf(top)) {
                    numbers[top] += own[top];
                    continue;
                }
                List<Integer> leaves = new ArrayList<>();
                for (int j = 0; j < parents.size(); j++) {
                    if (leaf(j) && under(j, top)) {
                        leaves.add(j);
                    }
                }
                int all = leaves.stream().mapToInt(j -> own[j]).sum();
                int n = own[top];
                int left = n;
                List<int[]> rests = new ArrayList<>();
                for (int j : leaves) {
                    int c = all == 0 ? 1 : own[j];
                    int whole = all == 0 ? leaves.size() : all;
                    numbers[j] += n * c / whole;
                    left -= n * c / whole;
                    rests.add(new int[] {j, n * c % whole});
                }
                rests.sort((a, b) -> a[1] != b[1] ? b[1] - a[1] : a[0] - b[0]);
                for (int i = 0; i < left; i++) {
                    numbers[rests.get(i)[0]]++;
                }
            }
            return numbers;
        }

        private int year(int year, int what) {
            if (!in(year, 6) || !in(what, 6)) {
                return -1;
            }
            int sum = 0;
            switch (what) {
                case 0:
                    for (int t = 0; t < tellings.size(); t++) {
                        sum += seen(t) && tellings.get(t)[0] == year ? 1 : 0;
                    }
                    return sum;
                case 1:
                    for (int t = 0; t < tellings.size(); t++) {
                        sum += seen(t) && tellings.get(t)[0] == year && partner(t) != -1 ? 1 : 0;
                    }
                    return sum;
                case 2:
                    return flock(year).size();
                case 3:
                    for (int day = 0; day < 30; day++) {
                        sum += hoursOff(year, day);
                    }
                    return sum;
                case 4:
                    return missed(year);
                default:
                    return 1000 * year(year, 2) + missed(year);
            }
        }

        private int hoursOff(int year, int day) {
            int sum = 0;
            for (int hour = 0; hour < 10; hour++) {
                sum += isOff(year, day, hour) ? 1 : 0;
            }
            return sum;
        }

        private int missed(int year) {
            BigInteger over = BigInteger.ZERO;
            BigInteger under = BigInteger.ONE;
            List<int[]> flock = flock(year);
            int open = 300 - year(year, 3);
            for (int w = 0; w < 4; w++) {
                int f = 0;
                int n = 0;
                for (int day = 0; day < 30; day++) {
                    if (winds.getOrDefault(year * 30 + day, 0) == w) {
                        f += hoursOff(year, day);
                        n += 10 - hoursOff(year, day);
                    }
                }
                int wind = w;
                long b = flock.stream()
                        .filter(x -> winds.getOrDefault(year * 30 + tellings.get(x[0])[1], 0) == wind).count();
                long above = n > 0 ? f * b : open > 0 ? (long) f * flock.size() : 0;
                long below = n > 0 ? n : open > 0 ? open : 1;
                over = over.multiply(BigInteger.valueOf(below)).add(under.multiply(BigInteger.valueOf(above)));
                under = under.multiply(BigInteger.valueOf(below));
            }
            return over.multiply(BigInteger.valueOf(1000)).divide(under).intValueExact();
        }

        private int passage(int year, int kind, int what) {
            if (!in(year, 6) || !in(kind, parents.size()) || !in(what, 3)) {
                return -1;
            }
            int[] when = flock(year).stream().filter(b -> under(b[1], kind))
                    .mapToInt(b -> 10 * tellings.get(b[0])[1] + tellings.get(b[0])[2] / 60).sorted().toArray();
            if (when.length == 0) {
                return -1;
            }
            if (what != 1) {
                return what == 0 ? when[0] : when[when.length - 1];
            }
            for (int slot = 0; ; slot++) {
                int upTo = slot;
                if (2 * Arrays.stream(when).filter(x -> x <= upTo).count() >= when.length) {
                    return slot;
                }
            }
        }

        private int change(int a, int b) {
            if (!in(a, 6) || !in(b, 6)) {
                return -2;
            }
            if (1000 * year(b, 2) > year(a, 5)) {
                return 1;
            }
            return year(b, 5) < 1000 * year(a, 2) ? -1 : 0;
        }

        private int look(int t, int what) {
            if (!in(t, tellings.size()) || !in(what, 6)) {
                throw new NoSuchElementException();
            }
            return tellings.get(t)[what];
        }

        private int count(int what) {
            int leaves = 0;
            for (int j = 0; j < parents.size(); j++) {
                leaves += leaf(j) ? 1 : 0;
            }
            int[] all = {places.size(), parents.size(), now, tellings.size(), leaves, k};
            return in(what, 6) ? all[what] : -1;
        }
    }
}
