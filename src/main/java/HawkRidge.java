import java.util.NoSuchElementException;

/** A hawk watch along a ridge; ../shared/DOC.md says what each call answers. */
public final class HawkRidge {
    public static final int NONE = -1;

    private static final int NO_SUCH = -2;
    private static final int YEARS = 6;
    private static final int DAYS = 30;
    private static final int DATES = 180;
    private static final int HOURS = 10;
    private static final int MINUTES_OF_HOUR = 60;
    private static final int MINUTES = 600;
    private static final int SLOTS = 300;
    private static final int WINDS = 4;
    private static final int MAX_POSTS = 4;
    private static final int MAX_PLACE = 400;
    private static final int MAX_KINDS = 20;
    private static final int MAX_SPEED = 400;
    private static final int MAX_TELLINGS = 300;
    private static final int MAX_AT_POST = 12;
    private static final int MAX_NOW = 1000;

    private final Ridge ridge;
    private final KindTree kinds;
    private final Season season;
    private final Log log;
    private final Flock flock;
    private final Parting parting;
    private final Missed missed;
    private final int[] slots;
    private int now;
    private int asKnown;

    public HawkRidge() {
        ridge = new Ridge();
        kinds = new KindTree();
        season = new Season();
        log = new Log();
        flock = new Flock(ridge, kinds, log);
        parting = new Parting(kinds);
        missed = new Missed();
        slots = new int[SLOTS];
        now = 0;
        asKnown = NONE;
    }

    public int post(int place) {
        if (log.size > 0) {
            return NONE;
        }
        return ridge.add(place);
    }

    public int kind(int of, int slowest, int fastest) {
        if (log.size > 0) {
            return NONE;
        }
        return kinds.add(of, slowest, fastest);
    }

    public int later() {
        if (now >= MAX_NOW) {
            return NONE;
        }
        now++;
        return now;
    }

    public int tell(int year, int day, int minute, int post, int kind) {
        if (!isDay(year, day) || minute < 0 || minute >= MINUTES) {
            return NONE;
        }
        if (!ridge.has(post) || !kinds.has(kind)) {
            return NONE;
        }
        int date = dateOf(year, day);
        if (season.isOff(date, minute / MINUTES_OF_HOUR)) {
            return NONE;
        }
        if (log.size >= MAX_TELLINGS || log.toldAt(date, post) >= MAX_AT_POST) {
            return NONE;
        }
        int telling = log.add(date, minute, post, kind, now);
        log.showUpTo(knownDay());
        flock.forget(date);
        return telling;
    }

    public boolean off(int year, int day, int hour, boolean yes) {
        if (!isDay(year, day) || hour < 0 || hour >= HOURS) {
            return false;
        }
        int date = dateOf(year, day);
        if (season.isOff(date, hour) == yes) {
            return false;
        }
        if (yes && log.hasIn(date, hour)) {
            return false;
        }
        season.turn(date, hour);
        return true;
    }

    public boolean wind(int year, int day, int w) {
        if (!isDay(year, day) || w < 0 || w >= WINDS) {
            return false;
        }
        season.windOf[dateOf(year, day)] = w;
        return true;
    }

    public boolean known(int k) {
        if (k != NONE && (k < 0 || k > now)) {
            return false;
        }
        asKnown = k;
        log.showUpTo(knownDay());
        flock.forgetAll();
        return true;
    }

    public int partner(int telling) {
        if (!log.shows(telling)) {
            return NO_SUCH;
        }
        flock.pairDate(log.dateOf[telling]);
        return flock.above[telling];
    }

    public int bird(int telling) {
        if (!log.shows(telling)) {
            return NO_SUCH;
        }
        flock.pairDate(log.dateOf[telling]);
        return flock.first[telling];
    }

    public int birds(int year, int kind, int what) throws NoSuchElementException {
        if (!isYear(year) || !kinds.has(kind) || what < 0 || what > 2) {
            throw new NoSuchElementException();
        }
        flock.pairYear(year);
        parting.clear();
        flock.addKinds(year, parting.own);
        if (what == 0) {
            return parting.own[kind];
        }
        if (what == 1) {
            return parting.ownUnder(kind);
        }
        parting.partAll();
        return parting.numberUnder(kind);
    }

    public int year(int year, int what) {
        if (!isYear(year)) {
            return NONE;
        }
        flock.pairYear(year);
        switch (what) {
            case 0:
                return log.shownIn(year);
            case 1:
                return flock.pairsIn(year);
            case 2:
                return flock.birdsIn(year);
            case 3:
                return season.hoursOff(year);
            case 4:
                return missedOf(year);
            case 5:
                return totalOf(year);
            default:
                return NONE;
        }
    }

    public int passage(int year, int kind, int what) {
        if (!isYear(year) || !kinds.has(kind) || what < 0 || what > 2) {
            return NONE;
        }
        flock.pairYear(year);
        for (int slot = 0; slot < SLOTS; slot++) {
            slots[slot] = 0;
        }
        int all = flock.addSlots(year, kind, slots);
        if (all == 0) {
            return NONE;
        }
        if (what == 0) {
            return slotOfNth(1);
        }
        return slotOfNth(what == 1 ? (all + 1) / 2 : all);
    }

    public int change(int a, int b) {
        if (!isYear(a) || !isYear(b)) {
            return NO_SUCH;
        }
        flock.pairYear(a);
        flock.pairYear(b);
        if (1000 * flock.birdsIn(b) > totalOf(a)) {
            return 1;
        }
        return totalOf(b) < 1000 * flock.birdsIn(a) ? -1 : 0;
    }

    public int look(int telling, int what) throws NoSuchElementException {
        if (!log.has(telling) || what < 0 || what > 5) {
            throw new NoSuchElementException();
        }
        switch (what) {
            case 0:
                return log.dateOf[telling] / DAYS;
            case 1:
                return log.dateOf[telling] % DAYS;
            case 2:
                return log.minuteOf[telling];
            case 3:
                return log.postOf[telling];
            case 4:
                return log.kindOf[telling];
            default:
                return log.since[telling];
        }
    }

    public int count(int what) {
        switch (what) {
            case 0:
                return ridge.size;
            case 1:
                return kinds.size;
            case 2:
                return now;
            case 3:
                return log.size;
            case 4:
                return kinds.leaves();
            case 5:
                return asKnown;
            default:
                return NONE;
        }
    }

    private static boolean isYear(int year) {
        return year >= 0 && year < YEARS;
    }

    private static boolean isDay(int year, int day) {
        return isYear(year) && day >= 0 && day < DAYS;
    }

    private static int dateOf(int year, int day) {
        return year * DAYS + day;
    }

    private int knownDay() {
        return asKnown == NONE ? now : asKnown;
    }

    /** Relies on its caller having paired the year, as totalOf does: so calls stay few levels deep. */
    private int missedOf(int year) {
        missed.clear();
        season.addHours(year, missed.open, missed.shut);
        flock.addWinds(year, season, missed.seen);
        return missed.thousandths();
    }

    private int totalOf(int year) {
        return 1000 * flock.birdsIn(year) + missedOf(year);
    }

    /** FIRST, HALF and LAST are all the slot in which the n-th bird came, for an n of their own. */
    private int slotOfNth(int n) {
        int come = 0;
        for (int slot = 0; slot < SLOTS; slot++) {
            come += slots[slot];
            if (come >= n) {
                return slot;
            }
        }
        return NONE;
    }

    /** The posts and the way between them. */
    private static final class Ridge {
        private final int[] place = new int[MAX_POSTS];
        private int size = 0;

        private boolean has(int post) {
            return post >= 0 && post < size;
        }

        private int add(int where) {
            if (size >= MAX_POSTS || where < 0 || where > MAX_PLACE) {
                return NONE;
            }
            if (size > 0 && where <= place[size - 1]) {
                return NONE;
            }
            place[size] = where;
            size++;
            return size - 1;
        }

        private int wayToNext(int post) {
            if (post < 0 || post + 1 >= size) {
                return 0;
            }
            return place[post + 1] - place[post];
        }
    }

    /** The tree of kinds. */
    private static final class KindTree {
        private final int[] slowest = new int[MAX_KINDS];
        private final int[] fastest = new int[MAX_KINDS];
        /** Bit k of upward[j] says that j is under k: with 20 kinds an int holds them all. */
        private final int[] upward = new int[MAX_KINDS];
        private final boolean[] isLeaf = new boolean[MAX_KINDS];
        private int size;

        private KindTree() {
            slowest[0] = 1;
            fastest[0] = MAX_SPEED;
            upward[0] = 1;
            isLeaf[0] = true;
            size = 1;
        }

        private boolean has(int kind) {
            return kind >= 0 && kind < size;
        }

        private int add(int of, int slow, int fast) {
            if (!has(of) || size >= MAX_KINDS) {
                return NONE;
            }
            if (slow < 1 || slow > fast || fast > MAX_SPEED) {
                return NONE;
            }
            slowest[size] = slow;
            fastest[size] = fast;
            upward[size] = upward[of] | (1 << size);
            isLeaf[size] = true;
            isLeaf[of] = false;
            size++;
            return size - 1;
        }

        private boolean isUnder(int kind, int top) {
            return (upward[kind] & (1 << top)) != 0;
        }

        private boolean isLeafUnder(int kind, int top) {
            return isLeaf[kind] && isUnder(kind, top);
        }

        private int depth(int kind) {
            return Integer.bitCount(upward[kind]) - 1;
        }

        private int leaves() {
            int found = 0;
            for (int kind = 0; kind < size; kind++) {
                if (isLeaf[kind]) {
                    found++;
                }
            }
            return found;
        }

        /** The kind whose speeds count for two that may be one bird; NONE if they can't be one. */
        private int deeperOf(int a, int b) {
            if (isUnder(a, b)) {
                return a;
            }
            return isUnder(b, a) ? b : NONE;
        }

        private boolean canFly(int kind, int way, int minutes) {
            int reach = way * MINUTES_OF_HOUR;
            return minutes >= 1
                    && reach >= slowest[kind] * minutes
                    && reach <= fastest[kind] * minutes;
        }
    }

    /** Winds and hours off, by dates (a year and a day in one number). */
    private static final class Season {
        private final int[] windOf = new int[DATES];
        /** Bit h of a date's number says that its hour h is off. */
        private final int[] shutHours = new int[DATES];

        private boolean isOff(int date, int hour) {
            return (shutHours[date] & (1 << hour)) != 0;
        }

        private void turn(int date, int hour) {
            shutHours[date] ^= 1 << hour;
        }

        private int hoursOff(int year) {
            int sum = 0;
            for (int day = 0; day < DAYS; day++) {
                sum += Integer.bitCount(shutHours[dateOf(year, day)]);
            }
            return sum;
        }

        private void addHours(int year, int[] open, int[] shut) {
            for (int day = 0; day < DAYS; day++) {
                int date = dateOf(year, day);
                int hours = Integer.bitCount(shutHours[date]);
                shut[windOf[date]] += hours;
                open[windOf[date]] += HOURS - hours;
            }
        }
    }

    /** The tellings, of which looks see only those known up to a day. */
    private static final class Log {
        private final int[] dateOf = new int[MAX_TELLINGS];
        private final int[] minuteOf = new int[MAX_TELLINGS];
        private final int[] postOf = new int[MAX_TELLINGS];
        private final int[] kindOf = new int[MAX_TELLINGS];
        private final int[] since = new int[MAX_TELLINGS];
        private int size = 0;
        private int shown = 0;

        private boolean has(int telling) {
            return telling >= 0 && telling < size;
        }

        private boolean shows(int telling) {
            return telling >= 0 && telling < shown;
        }

        private int add(int date, int minute, int post, int kind, int day) {
            if (size >= MAX_TELLINGS) {
                return NONE;
            }
            dateOf[size] = date;
            minuteOf[size] = minute;
            postOf[size] = post;
            kindOf[size] = kind;
            since[size] = day;
            size++;
            return size - 1;
        }

        /** NOW never shrinks, so those known up to a day are the first ones by number. */
        private void showUpTo(int day) {
            shown = 0;
            for (int telling = 0; telling < size; telling++) {
                if (since[telling] <= day) {
                    shown++;
                }
            }
        }

        private int hour(int telling) {
            return minuteOf[telling] / MINUTES_OF_HOUR;
        }

        private int toldAt(int date, int post) {
            int found = 0;
            for (int telling = 0; telling < size; telling++) {
                if (dateOf[telling] == date && postOf[telling] == post) {
                    found++;
                }
            }
            return found;
        }

        private boolean hasIn(int date, int hour) {
            for (int telling = 0; telling < size; telling++) {
                if (dateOf[telling] == date && hour(telling) == hour) {
                    return true;
                }
            }
            return false;
        }

        private boolean isIn(int telling, int year) {
            return dateOf[telling] / DAYS == year;
        }

        private int shownIn(int year) {
            int found = 0;
            for (int telling = 0; telling < shown; telling++) {
                if (isIn(telling, year)) {
                    found++;
                }
            }
            return found;
        }

        private int gather(int date, int post, int[] into) {
            int found = 0;
            for (int telling = 0; telling < shown; telling++) {
                if (dateOf[telling] == date && postOf[telling] == post && found < into.length) {
                    into[found] = telling;
                    found++;
                }
            }
            return found;
        }
    }

    /** Pairs and birds, worked out date by date and kept until something told changes them. */
    private static final class Flock {
        private final Ridge ridge;
        private final KindTree kinds;
        private final Log log;
        private final Matcher matcher = new Matcher();
        private final boolean[] isPaired = new boolean[DATES];
        private final int[] above = new int[MAX_TELLINGS];
        private final int[] below = new int[MAX_TELLINGS];
        private final int[] first = new int[MAX_TELLINGS];
        /** The kind of a bird, at the number of its first telling. */
        private final int[] birdKind = new int[MAX_TELLINGS];
        private final int[] here = new int[MAX_AT_POST];
        private final int[] next = new int[MAX_AT_POST];

        private Flock(Ridge ridge, KindTree kinds, Log log) {
            this.ridge = ridge;
            this.kinds = kinds;
            this.log = log;
        }

        private void forget(int date) {
            isPaired[date] = false;
        }

        private void forgetAll() {
            for (int date = 0; date < DATES; date++) {
                isPaired[date] = false;
            }
        }

        private void pairYear(int year) {
            for (int telling = 0; telling < log.shown; telling++) {
                if (log.isIn(telling, year)) {
                    pairDate(log.dateOf[telling]);
                }
            }
        }

        private void pairDate(int date) {
            if (isPaired[date]) {
                return;
            }
            for (int telling = 0; telling < log.shown; telling++) {
                if (log.dateOf[telling] == date) {
                    above[telling] = NONE;
                    below[telling] = NONE;
                }
            }
            for (int post = 0; post + 1 < ridge.size; post++) {
                pairPosts(date, post);
            }
            for (int post = 0; post < ridge.size; post++) {
                followBirds(date, post);
            }
            isPaired[date] = true;
        }

        private void pairPosts(int date, int post) {
            int lower = log.gather(date, post, here);
            int upper = log.gather(date, post + 1, next);
            int way = ridge.wayToNext(post);
            matcher.start(lower, upper);
            for (int left = 0; left < lower; left++) {
                for (int right = 0; right < upper; right++) {
                    if (meet(here[left], next[right], way)) {
                        matcher.allow(left, right);
                    }
                }
            }
            matcher.solve();
            for (int left = 0; left < lower; left++) {
                int right = matcher.mate[left];
                if (right >= 0 && right < upper) {
                    above[here[left]] = next[right];
                    below[next[right]] = here[left];
                }
            }
        }

        private boolean meet(int s, int t, int way) {
            int kind = kinds.deeperOf(log.kindOf[s], log.kindOf[t]);
            return kind != NONE && kinds.canFly(kind, way, log.minuteOf[t] - log.minuteOf[s]);
        }

        /** Goes by posts upward, so a bird is known at the post below when one above asks for it. */
        private void followBirds(int date, int post) {
            int found = log.gather(date, post, here);
            for (int i = 0; i < found; i++) {
                int telling = here[i];
                int kind = log.kindOf[telling];
                if (below[telling] < 0) {
                    first[telling] = telling;
                    birdKind[telling] = kind;
                } else {
                    int bird = first[below[telling]];
                    first[telling] = bird;
                    if (kinds.depth(kind) > kinds.depth(birdKind[bird])) {
                        birdKind[bird] = kind;
                    }
                }
            }
        }

        private boolean isBirdOf(int telling, int year) {
            return log.isIn(telling, year) && first[telling] == telling;
        }

        private int pairsIn(int year) {
            int found = 0;
            for (int telling = 0; telling < log.shown; telling++) {
                if (log.isIn(telling, year) && above[telling] >= 0) {
                    found++;
                }
            }
            return found;
        }

        private int birdsIn(int year) {
            int found = 0;
            for (int telling = 0; telling < log.shown; telling++) {
                if (isBirdOf(telling, year)) {
                    found++;
                }
            }
            return found;
        }

        private void addKinds(int year, int[] own) {
            for (int telling = 0; telling < log.shown; telling++) {
                if (isBirdOf(telling, year)) {
                    own[birdKind[telling]]++;
                }
            }
        }

        private void addWinds(int year, Season season, int[] byWind) {
            for (int telling = 0; telling < log.shown; telling++) {
                if (isBirdOf(telling, year)) {
                    byWind[season.windOf[log.dateOf[telling]]]++;
                }
            }
        }

        private int addSlots(int year, int kind, int[] slots) {
            int found = 0;
            for (int telling = 0; telling < log.shown; telling++) {
                if (isBirdOf(telling, year) && kinds.isUnder(birdKind[telling], kind)) {
                    slots[log.dateOf[telling] % DAYS * HOURS + log.hour(telling)]++;
                    found++;
                }
            }
            return found;
        }
    }

    /** As many pairs as can be of two sides, and of all such ways the first one. */
    private static final class Matcher {
        /** Bit r of meets[l] says that left l and right r may be paired. */
        private final int[] meets = new int[MAX_AT_POST];
        private final int[] mate = new int[MAX_AT_POST];
        private final int[] owner = new int[MAX_AT_POST];
        private final int[] keptMate = new int[MAX_AT_POST];
        private final int[] keptOwner = new int[MAX_AT_POST];
        private int lefts = 0;
        private int rights = 0;
        /** Rights that belong to a left for good. */
        private int settled = 0;
        /** Rights that one search has been at, or may not touch. */
        private int tried = 0;

        private void start(int leftSide, int rightSide) {
            lefts = Math.min(Math.max(leftSide, 0), MAX_AT_POST);
            rights = Math.min(Math.max(rightSide, 0), MAX_AT_POST);
            settled = 0;
            for (int i = 0; i < MAX_AT_POST; i++) {
                meets[i] = 0;
                mate[i] = NONE;
                owner[i] = NONE;
            }
        }

        private void allow(int left, int right) {
            meets[left] |= 1 << right;
        }

        private void solve() {
            for (int left = 0; left < lefts; left++) {
                tried = 0;
                reach(left, 0);
            }
            for (int left = 0; left < lefts; left++) {
                int right = 0;
                while (right < rights && !canTake(left, right)) {
                    right++;
                }
                if (right < rights) {
                    settled |= 1 << right;
                }
            }
        }

        /** Gives a left that right if as many pairs remain with all that is settled as it is. */
        private boolean canTake(int left, int right) {
            int bit = 1 << right;
            if ((meets[left] & bit) == 0 || (settled & bit) != 0) {
                return false;
            }
            if (mate[left] == right) {
                return true;
            }
            int oldRight = mate[left];
            int oldLeft = owner[right];
            keep();
            if (oldRight >= 0) {
                owner[oldRight] = NONE;
            }
            if (oldLeft >= 0) {
                mate[oldLeft] = NONE;
            }
            mate[left] = right;
            owner[right] = left;
            // A pair is lost only if both had others; any later left without one may make it good.
            boolean isWhole = oldRight < 0 || oldLeft < 0;
            for (int other = left + 1; other < lefts && !isWhole; other++) {
                tried = settled | bit;
                isWhole = mate[other] < 0 && reach(other, 0);
            }
            if (!isWhole) {
                restore();
            }
            return isWhole;
        }

        /** Each level tries a right of its own, so it goes no deeper than there are rights. */
        private boolean reach(int left, int depth) {
            if (depth > MAX_AT_POST) {
                return false;
            }
            for (int right = 0; right < rights; right++) {
                int bit = 1 << right;
                if ((meets[left] & bit) != 0 && (tried & bit) == 0) {
                    tried |= bit;
                    if (owner[right] < 0 || reach(owner[right], depth + 1)) {
                        mate[left] = right;
                        owner[right] = left;
                        return true;
                    }
                }
            }
            return false;
        }

        private void keep() {
            for (int i = 0; i < MAX_AT_POST; i++) {
                keptMate[i] = mate[i];
                keptOwner[i] = owner[i];
            }
        }

        private void restore() {
            for (int i = 0; i < MAX_AT_POST; i++) {
                mate[i] = keptMate[i];
                owner[i] = keptOwner[i];
            }
        }
    }

    /** Parts the birds of doubtful kinds among the leaves under them. */
    private static final class Parting {
        private final KindTree kinds;
        private final int[] own = new int[MAX_KINDS];
        private final int[] number = new int[MAX_KINDS];
        private final int[] rest = new int[MAX_KINDS];

        private Parting(KindTree kinds) {
            this.kinds = kinds;
        }

        private void clear() {
            for (int kind = 0; kind < MAX_KINDS; kind++) {
                own[kind] = 0;
                number[kind] = 0;
            }
        }

        private int ownUnder(int top) {
            int sum = 0;
            for (int kind = 0; kind < kinds.size; kind++) {
                if (kinds.isUnder(kind, top)) {
                    sum += own[kind];
                }
            }
            return sum;
        }

        private int numberUnder(int top) {
            int sum = 0;
            for (int kind = 0; kind < kinds.size; kind++) {
                if (kinds.isLeafUnder(kind, top)) {
                    sum += number[kind];
                }
            }
            return sum;
        }

        private void partAll() {
            for (int kind = 0; kind < kinds.size; kind++) {
                if (kinds.isLeaf[kind]) {
                    number[kind] += own[kind];
                } else {
                    part(kind);
                }
            }
        }

        private void part(int top) {
            int sum = 0;
            int leaves = 0;
            for (int kind = 0; kind < kinds.size; kind++) {
                if (kinds.isLeafUnder(kind, top)) {
                    sum += own[kind];
                    leaves++;
                }
            }
            boolean alike = sum == 0;
            int whole = alike ? leaves : sum;
            if (whole <= 0) {
                return;
            }
            int left = own[top];
            for (int kind = 0; kind < kinds.size; kind++) {
                rest[kind] = NONE;
                if (kinds.isLeafUnder(kind, top)) {
                    int weighed = own[top] * (alike ? 1 : own[kind]);
                    number[kind] += weighed / whole;
                    left -= weighed / whole;
                    rest[kind] = weighed % whole;
                }
            }
            for (int given = 0; given < left; given++) {
                giveToGreatestRest();
            }
        }

        private void giveToGreatestRest() {
            int best = 0;
            for (int kind = 1; kind < kinds.size; kind++) {
                if (rest[kind] > rest[best]) {
                    best = kind;
                }
            }
            number[best]++;
            rest[best] = NONE;
        }
    }

    /** The birds that passed in hours off, told by the winds. */
    private static final class Missed {
        private final int[] seen = new int[WINDS];
        private final int[] open = new int[WINDS];
        private final int[] shut = new int[WINDS];

        private void clear() {
            for (int w = 0; w < WINDS; w++) {
                seen[w] = 0;
                open[w] = 0;
                shut[w] = 0;
            }
        }

        private static int sum(int[] byWind) {
            int sum = 0;
            for (int w = 0; w < WINDS; w++) {
                sum += byWind[w];
            }
            return sum;
        }

        /**
         * One fraction is kept, so that it is cut once. Its divisor stays below 300 to the fourth and
         * its worth below 360,000: a long holds it a thousandfold.
         */
        private int thousandths() {
            int allSeen = sum(seen);
            int allOpen = sum(open);
            long top = 0;
            long bottom = 1;
            for (int w = 0; w < WINDS; w++) {
                long counted = open[w] > 0 ? seen[w] : allSeen;
                long hours = open[w] > 0 ? open[w] : allOpen;
                if (hours > 0) {
                    top = top * hours + shut[w] * counted * bottom;
                    bottom *= hours;
                }
            }
            if (bottom <= 0) {
                return 0;
            }
            return (int) (1000 * top / bottom);
        }
    }
}
