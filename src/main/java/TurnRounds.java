import java.util.Arrays;

/** Departures of a timetable that comes again and again, and the waits between them. */
public final class TurnRounds {
    public static final int UNKNOWN = -1, BAD = -2, LATE = -3, FULL = -4, NONE = -9;

    private static final int DEPARTURES = 6;
    private static final int CELLS = 36;
    private static final int SETS = 64;
    private static final int LETTERS = 64;
    private static final int TOLD_WAITS = 12;
    private static final int MOST_MINUTES = 9;
    private static final int LONGEST_PERIOD = 20;
    private static final int USUAL_PERIOD = 10;
    private static final int LONGEST_DELAY = 30;
    private static final int LAST_ROUND = 40;
    private static final int LAST_SEEN_ROUND = 9;
    private static final int MOST_DOINGS = 14;
    private static final int MOST_SEEN = 6;
    private static final int MOST_JUDGED = 4;
    private static final int MOST_DRAWN = 20;
    private static final int SLOTS = 2;
    private static final int TENTHS = 10;

    /** Means are held in sixtieths: each length of a ring (1 .. 6) divides 60, so they stay whole. */
    private static final int UNIT = 60;
    /** The pace where there is no ring; it lies below every mean, as the document orders it. */
    private static final int NO_RING = -1;
    /** Above all that is ever looked for the least of. */
    private static final int ABOVE_ALL = 1000000;
    /** By what a sum of minutes over 1 .. 6 waits becomes their mean in sixtieths. */
    private static final int[] SIXTIETHS = {0, 60, 30, 20, 15, 12, 10};
    private static final int[] FACTORIALS = {1, 1, 2, 6, 24, 120, 720};
    /** Rows of 0 .. 4 told doings are less than these. */
    private static final long[] ROW_ENDS = {1L, 10000L, 100000000L, 1000000000000L, 10000000000000000L};

    private final int[] letters = new int[LETTERS];
    private final Net now = new Net();
    private final Net trial = new Net();
    private final Net[] slots = {new Net(), new Net()};
    private final boolean[] filled = new boolean[SLOTS];
    private final Reader reader = new Reader();
    private final Doings doings = new Doings();
    private final Seen seen = new Seen();
    private final Walks walks = new Walks();
    private final Delays delays = new Delays();
    private final RingSets ringSets = new RingSets();
    private int length;
    private long drawnFrom;

    public TurnRounds() {
    }

    // ---- the net

    public int write(int letter) {
        if (letter < 0 || letter > 255) {
            return BAD;
        }
        if (length < 0 || length >= LETTERS) {
            return FULL;
        }
        letters[length] = letter;
        length++;
        return length;
    }

    public int wipe() {
        int was = length;
        length = 0;
        return was;
    }

    public int fault() {
        return reader.read(letters, length, trial);
    }

    public int net() {
        if (reader.read(letters, length, trial) != NONE) {
            return LATE;
        }
        now.copyFrom(trial);
        doings.forget();
        for (int slot = 0; slot < SLOTS; slot++) {
            filled[slot] = false;
        }
        return now.waits();
    }

    public int about(int what) {
        switch (what) {
            case 0:
                return now.size;
            case 1:
                return now.waits();
            case 2:
                ringSets.fill(now);
                return ringSets.rings;
            case 3:
            case 4:
            case 5:
                return aboutEachWait(what);
            case 6:
                return leastPeriod();
            case 7:
                return doings.count;
            case 8:
                return seen.count;
            case 9:
                return length;
            default:
                return BAD;
        }
    }

    public int minutes(int from, int to) {
        if (!now.has(from) || !now.has(to)) {
            return UNKNOWN;
        }
        return now.of(from, to);
    }

    // ---- doings

    public int put(int from, int to, int minutes) {
        if (!now.has(from) || !now.has(to)) {
            return UNKNOWN;
        }
        if (minutes < 0 || minutes > MOST_MINUTES) {
            return BAD;
        }
        if (now.of(from, to) != NONE) {
            return LATE;
        }
        change(from, to, minutes);
        return now.waits();
    }

    public int cut(int from, int to) {
        if (!now.has(from) || !now.has(to)) {
            return UNKNOWN;
        }
        if (now.of(from, to) == NONE) {
            return LATE;
        }
        return change(from, to, NONE);
    }

    public int time(int from, int to, int minutes) {
        if (!now.has(from) || !now.has(to)) {
            return UNKNOWN;
        }
        if (minutes < 0 || minutes > MOST_MINUTES) {
            return BAD;
        }
        if (now.of(from, to) == NONE) {
            return LATE;
        }
        return change(from, to, minutes);
    }

    public int undo() {
        if (doings.count == 0) {
            return LATE;
        }
        doings.takeBack(now);
        return doings.count;
    }

    // ---- rings, periods

    public int pace(boolean upper) {
        int pace = walks.slowest(now);
        return pace == NO_RING ? NONE : told(pace, UNIT, upper);
    }

    public int critical(int from, int to) {
        if (!now.has(from) || !now.has(to)) {
            return UNKNOWN;
        }
        if (now.of(from, to) == NONE) {
            return LATE;
        }
        walks.compare(now);
        return walks.isCritical(now, from, to) ? 1 : 0;
    }

    public int departs(int departure, int period) {
        if (!now.has(departure)) {
            return UNKNOWN;
        }
        if (period < 0 || period > LONGEST_PERIOD) {
            return BAD;
        }
        if (!walks.isKept(now, period)) {
            return LATE;
        }
        delays.settle(now, period);
        return delays.timeOf(departure);
    }

    public int spare(int from, int to, int period) {
        if (!now.has(from) || !now.has(to)) {
            return UNKNOWN;
        }
        if (period < 0 || period > LONGEST_PERIOD) {
            return BAD;
        }
        if (now.of(from, to) == NONE || !walks.isKept(now, period)) {
            return LATE;
        }
        delays.settle(now, period);
        return delays.spareOf(now, from, to);
    }

    public int late(int at, int d, int period, int departure, int round) {
        if (!now.has(at) || !now.has(departure)) {
            return UNKNOWN;
        }
        if (d < 1 || d > LONGEST_DELAY || period < 0 || period > LONGEST_PERIOD) {
            return BAD;
        }
        if (round < 0 || round > LAST_ROUND) {
            return BAD;
        }
        if (!walks.isKept(now, period)) {
            return LATE;
        }
        delays.settle(now, period);
        delays.spread(now, at, round);
        return delays.lateness(d, departure, round);
    }

    public int dies(int at, int d, int period) {
        if (!now.has(at)) {
            return UNKNOWN;
        }
        if (d < 1 || d > LONGEST_DELAY || period < 0 || period > LONGEST_PERIOD) {
            return BAD;
        }
        if (!walks.isKept(now, period)) {
            return LATE;
        }
        return lastsUntil(now, at, d, period);
    }

    public int best(int how) {
        if (how != 0 && how != 1) {
            return BAD;
        }
        trial.copyFrom(now);
        int found = NONE;
        int least = ABOVE_ALL;
        for (int from = 0; from < now.size; from++) {
            for (int to = 0; to < now.size; to++) {
                int minutes = now.of(from, to);
                if (minutes == NONE || (how == 0 && minutes == 0)) {
                    continue;
                }
                trial.lay(from, to, how == 0 ? minutes - 1 : NONE);
                int pace = walks.slowest(trial);
                trial.lay(from, to, minutes);
                if (pace < least) {
                    least = pace;
                    found = 10 * from + to;
                }
            }
        }
        return found;
    }

    public int judge(int n, long row) {
        if (n < 1 || n > MOST_JUDGED || row < 0 || row >= ROW_ENDS[n]) {
            return BAD;
        }
        trial.copyFrom(now);
        for (int place = 0; place < n; place++) {
            if (!holds(figuresOf(row, n - 1 - place))) {
                return place;
            }
        }
        return NONE;
    }

    public int share(int departure, boolean upper) {
        if (!now.has(departure)) {
            return UNKNOWN;
        }
        ringSets.fill(now);
        int orders = FACTORIALS[now.size];
        return told(ringSets.added(departure, now.size), orders * UNIT, upper);
    }

    // ---- seen

    public int see(int departure, int round, int was) {
        if (!now.has(departure)) {
            return UNKNOWN;
        }
        if (round < 1 || round > LAST_SEEN_ROUND || was < 0 || was > 1) {
            return BAD;
        }
        return seen.add(departure, round, was) ? seen.count : FULL;
    }

    public int unsee() {
        int was = seen.count;
        seen.count = 0;
        return was;
    }

    public int began(int what) {
        if (what != 0 && what != 1) {
            return BAD;
        }
        int first = NONE;
        int count = 0;
        if (walks.isKept(now, USUAL_PERIOD)) {
            delays.settle(now, USUAL_PERIOD);
            for (int at = 0; at < now.size; at++) {
                delays.spread(now, at, LAST_SEEN_ROUND);
                for (int d = 1; d <= LONGEST_DELAY; d++) {
                    if (seen.fits(delays, d, now.size)) {
                        first = count == 0 ? 100 * at + d : first;
                        count++;
                    }
                }
            }
        }
        return what == 0 ? count : first;
    }

    // ---- chances

    public int dropped(int departure, int period, int x, boolean upper) {
        if (!now.has(departure)) {
            return UNKNOWN;
        }
        if (period < 0 || period > LONGEST_PERIOD || x < 0 || x > TENTHS) {
            return BAD;
        }
        trial.copyFrom(now);
        for (int to = 0; to < now.size; to++) {
            trial.lay(departure, to, NONE);
        }
        if (!walks.isKept(trial, period)) {
            return told(0, 1, upper);
        }
        int above = 1;
        int below = 1;
        // A ring leaves a departure by one wait alone, so each wait breaks the period by itself or not at all.
        for (int to = 0; to < now.size; to++) {
            trial.lay(departure, to, now.of(departure, to));
            if (!walks.isKept(trial, period)) {
                above *= x;
                below *= TENTHS;
            }
            trial.lay(departure, to, NONE);
        }
        return told(above, below, upper);
    }

    public long seed(long v) {
        long was = drawnFrom;
        drawnFrom = v;
        return was;
    }

    public int drawn(int m) {
        if (m < 1 || m > MOST_DRAWN) {
            return BAD;
        }
        trial.copyFrom(now);
        int together = 0;
        for (int i = 0; i < m; i++) {
            drawnFrom = drawnFrom * 6364136223846793005L + 1442695040888963407L;
            int bits = (int) (drawnFrom >>> 33);
            int minutes = bits / 64 % 11;
            // A cut of what is not there, or a departure that is not there, leaves the trial as it is.
            trial.lay(bits % 6, bits / 8 % 6, minutes > MOST_MINUTES ? NONE : minutes);
            together += Math.max(0, walks.slowest(trial)) / UNIT;
        }
        return together;
    }

    // ---- slots

    public int keep(int slot) {
        if (slot < 0 || slot >= SLOTS) {
            return UNKNOWN;
        }
        slots[slot].copyFrom(now);
        filled[slot] = true;
        return now.waits();
    }

    public int again(int slot) {
        if (slot < 0 || slot >= SLOTS) {
            return UNKNOWN;
        }
        if (!filled[slot]) {
            return LATE;
        }
        now.copyFrom(slots[slot]);
        doings.forget();
        return now.waits();
    }

    // ---- what the calls share

    /** A doing: what the wait was is noted, so that it can be undone; answers what it was. */
    private int change(int from, int to, int minutes) {
        int was = now.of(from, to);
        doings.add(from, to, was);
        now.lay(from, to, minutes);
        return was;
    }

    /** What a look at each wait tells: SAVED (3), critical waits (4), critical departures (5). */
    private int aboutEachWait(int what) {
        walks.compare(now);
        int saved = 0;
        int critical = 0;
        int departures = 0;
        for (int from = 0; from < now.size; from++) {
            for (int to = 0; to < now.size; to++) {
                if (now.of(from, to) != NONE && !walks.comesBack(from, to)) {
                    saved++;
                }
                if (walks.isCritical(now, from, to)) {
                    critical++;
                    departures |= 1 << from;
                }
            }
        }
        return what == 3 ? saved : what == 4 ? critical : departures;
    }

    private int leastPeriod() {
        int pace = Math.max(0, walks.slowest(now));
        return (pace + UNIT - 1) / UNIT;
    }

    private int lastsUntil(Net net, int at, int d, int period) {
        delays.settle(net, period);
        delays.spread(net, at, LAST_ROUND);
        return delays.firstQuietRound(d, net.size);
    }

    /** The four figures that have so many fours of figures behind them. */
    private static int figuresOf(long row, int behind) {
        long rest = row;
        for (int i = 0; i < behind; i++) {
            rest /= 10000;
        }
        return (int) (rest % 10000);
    }

    /** One told doing on the trial, which it changes if it can be done; or one told thing, if it is so. */
    private boolean holds(int figures) {
        int a = figures / 100 % 10;
        int b = figures / 10 % 10;
        int c = figures % 10;
        int number = 10 * b + c;
        boolean isThere = trial.of(a, b) != NONE;
        switch (figures / 1000) {
            case 1:
                return trial.has(a) && trial.has(b) && !isThere && trial.lay(a, b, c);
            case 2:
                return isThere && c == 0 && trial.lay(a, b, NONE);
            case 3:
                return isThere && trial.lay(a, b, c);
            case 4:
                return a == 0 && number <= LONGEST_PERIOD && walks.isKept(trial, number);
            case 5:
                walks.compare(trial);
                return c == 0 && walks.isCritical(trial, a, b);
            case 6:
                return trial.has(a) && departsAt(a, number);
            case 7:
                return trial.has(a) && isOver(a, number);
            default:
                return false;
        }
    }

    private boolean departsAt(int departure, int time) {
        if (!walks.isKept(trial, USUAL_PERIOD)) {
            return false;
        }
        delays.settle(trial, USUAL_PERIOD);
        return delays.timeOf(departure) == time;
    }

    private boolean isOver(int at, int d) {
        if (d < 1 || d > LONGEST_DELAY || !walks.isKept(trial, USUAL_PERIOD)) {
            return false;
        }
        return lastsUntil(trial, at, d, USUAL_PERIOD) != NONE;
    }

    private static int told(int above, int below, boolean upper) {
        int common = commonDivisor(above, below);
        return (upper ? above : below) / common;
    }

    /** Never less than 1, so that it can divide. Euclid's way ends within 46 steps for every int. */
    private static int commonDivisor(int a, int b) {
        int one = a;
        int other = b;
        for (int i = 0; i < 64 && other != 0; i++) {
            int left = one % other;
            one = other;
            other = left;
        }
        return Math.max(1, one);
    }

    /** Departures and the waits between them. */
    private static final class Net {
        private final int[] cells = new int[CELLS];
        private int size = 1;

        Net() {
            Arrays.fill(cells, NONE);
        }

        boolean has(int departure) {
            return departure >= 0 && departure < size;
        }

        /** Minutes of a wait; NONE where there is none, or no such departure. */
        int of(int from, int to) {
            if (from < 0 || from >= size || to < 0 || to >= size) {
                return NONE;
            }
            return cells[from * DEPARTURES + to];
        }

        /** The wait has these minutes now (NONE: it is gone); false if there is no such departure. */
        boolean lay(int from, int to, int minutes) {
            if (!has(from) || !has(to)) {
                return false;
            }
            cells[from * DEPARTURES + to] = minutes;
            return true;
        }

        boolean leadsToAll(int from) {
            for (int to = 0; to < size; to++) {
                if (of(from, to) == NONE) {
                    return false;
                }
            }
            return true;
        }

        int waits() {
            int count = 0;
            for (int cell = 0; cell < CELLS; cell++) {
                if (cells[cell] != NONE) {
                    count++;
                }
            }
            return count;
        }

        /** So many departures (1 .. 6), no wait. */
        void begin(int departures) {
            size = Math.max(1, Math.min(DEPARTURES, departures));
            Arrays.fill(cells, NONE);
        }

        void copyFrom(Net other) {
            size = other.size;
            System.arraycopy(other.cells, 0, cells, 0, CELLS);
        }
    }

    /** Reads a text as a net, letter by letter. */
    private static final class Reader {
        private int from;
        private int to;

        /** The fault, or NONE; the net then holds what the text tells. */
        int read(int[] letters, int length, Net net) {
            net.begin(1);
            for (int place = 0; place < length && place < letters.length; place++) {
                if (!takes(place, letters[place], net)) {
                    return place;
                }
            }
            boolean isWhole = length >= 2 && (length - 2) % 3 == 0;
            return isWhole ? NONE : length;
        }

        private boolean takes(int place, int letter, Net net) {
            int figure = letter - '0';
            if (place == 0) {
                return letter == 'N';
            }
            if (place == 1) {
                net.begin(figure);
                return figure >= 1 && figure <= DEPARTURES;
            }
            switch ((place - 2) % 3) {
                case 0:
                    from = figure;
                    return place < 2 + 3 * TOLD_WAITS && net.has(from) && !net.leadsToAll(from);
                case 1:
                    to = figure;
                    return net.has(to) && net.of(from, to) == NONE;
                default:
                    return figure >= 0 && figure <= MOST_MINUTES && net.lay(from, to, figure);
            }
        }
    }

    /** The last doings, each with what its wait was ahead of it: that undoes all three kinds alike. */
    private static final class Doings {
        private final int[] froms = new int[MOST_DOINGS];
        private final int[] tos = new int[MOST_DOINGS];
        private final int[] minutes = new int[MOST_DOINGS];
        private int count;

        void forget() {
            count = 0;
        }

        void add(int from, int to, int was) {
            if (count >= MOST_DOINGS) {
                forgetFirst();
            }
            if (count < 0 || count >= MOST_DOINGS) {
                return;
            }
            froms[count] = from;
            tos[count] = to;
            minutes[count] = was;
            count++;
        }

        void takeBack(Net net) {
            if (count < 1 || count > MOST_DOINGS) {
                return;
            }
            count--;
            net.lay(froms[count], tos[count], minutes[count]);
        }

        private void forgetFirst() {
            for (int i = 1; i < MOST_DOINGS; i++) {
                froms[i - 1] = froms[i];
                tos[i - 1] = tos[i];
                minutes[i - 1] = minutes[i];
            }
            count = MOST_DOINGS - 1;
        }
    }

    /** What was seen to be late, or not to be. */
    private static final class Seen {
        private final int[] departures = new int[MOST_SEEN];
        private final int[] rounds = new int[MOST_SEEN];
        private final int[] was = new int[MOST_SEEN];
        private int count;

        boolean add(int departure, int round, int wasLate) {
            if (count < 0 || count >= MOST_SEEN) {
                return false;
            }
            departures[count] = departure;
            rounds[count] = round;
            was[count] = wasLate;
            count++;
            return true;
        }

        /** All of it is so, if the delay was d where it has been spread from. */
        boolean fits(Delays delays, int d, int size) {
            for (int i = 0; i < count && i < MOST_SEEN; i++) {
                // The net may have become smaller since: what is no more is never late.
                boolean isLate = departures[i] < size && delays.lateness(d, departures[i], rounds[i]) > 0;
                if (isLate != (was[i] == 1)) {
                    return false;
                }
            }
            return true;
        }
    }

    /** Tables of walks: the slowest ring, and which waits lie on rings. */
    private static final class Walks {
        private static final int NO_WALK = -ABOVE_ALL;

        /** Row k: for each departure the longest walk of k waits that ends there (below 0: there is none). */
        private final int[] rows = new int[(DEPARTURES + 1) * DEPARTURES];
        /** From one to one, what a walk gains at most over the pace, which no ring does. */
        private final int[] gains = new int[CELLS];
        private int paceCompared;

        boolean isKept(Net net, int period) {
            return slowest(net) <= UNIT * period;
        }

        /** PACE in sixtieths, by Karp's theorem, with walks that begin anywhere; NO_RING. */
        int slowest(Net net) {
            for (int to = 0; to < net.size; to++) {
                rows[to] = 0;
            }
            for (int k = 1; k <= net.size; k++) {
                for (int to = 0; to < net.size; to++) {
                    rows[k * DEPARTURES + to] = longest(net, k - 1, to);
                }
            }
            int pace = NO_RING;
            for (int to = 0; to < net.size; to++) {
                pace = Math.max(pace, leastMean(net.size, to));
            }
            return pace;
        }

        /** One wait more than the walks of this row have. */
        private int longest(Net net, int row, int to) {
            int most = -1;
            for (int from = 0; from < net.size; from++) {
                int ahead = rows[row * DEPARTURES + from];
                int minutes = net.of(from, to);
                if (ahead >= 0 && minutes != NONE) {
                    most = Math.max(most, ahead + minutes);
                }
            }
            return most;
        }

        private int leastMean(int size, int to) {
            int whole = rows[size * DEPARTURES + to];
            if (whole < 0) {
                return NO_RING;
            }
            int least = ABOVE_ALL;
            for (int k = 0; k < size; k++) {
                least = Math.min(least, (whole - rows[k * DEPARTURES + to]) * SIXTIETHS[size - k]);
            }
            return least;
        }

        /** Fills the gains, which the two questions below look at. */
        void compare(Net net) {
            paceCompared = slowest(net);
            for (int from = 0; from < net.size; from++) {
                for (int to = 0; to < net.size; to++) {
                    int gain = from == to ? 0 : gainOf(net, from, to);
                    gains[from * DEPARTURES + to] = gain;
                }
            }
            for (int over = 0; over < net.size; over++) {
                for (int from = 0; from < net.size; from++) {
                    for (int to = 0; to < net.size; to++) {
                        join(from, over, to);
                    }
                }
            }
        }

        private int gainOf(Net net, int from, int to) {
            int minutes = net.of(from, to);
            return minutes == NONE ? NO_WALK : UNIT * minutes - paceCompared;
        }

        private void join(int from, int over, int to) {
            int one = gains[from * DEPARTURES + over];
            int other = gains[over * DEPARTURES + to];
            if (one != NO_WALK && other != NO_WALK) {
                int cell = from * DEPARTURES + to;
                gains[cell] = Math.max(gains[cell], one + other);
            }
        }

        /** There is a walk from where such a wait goes to back to where it comes from. */
        boolean comesBack(int from, int to) {
            return gains[to * DEPARTURES + from] != NO_WALK;
        }

        boolean isCritical(Net net, int from, int to) {
            if (net.of(from, to) == NONE || !comesBack(from, to)) {
                return false;
            }
            return gainOf(net, from, to) + gains[to * DEPARTURES + from] == 0;
        }
    }

    /** Times by a period, and delays that spread by it. */
    private static final class Delays {
        private final int[] times = new int[DEPARTURES];
        /** Row r: for each departure the least that walks of r waits from the late one have to spare. */
        private final int[] spares = new int[(LAST_ROUND + 1) * DEPARTURES];
        private int period;

        /** The earliest times by a period that is kept: so many departures, so many turns are enough. */
        void settle(Net net, int byPeriod) {
            period = byPeriod;
            Arrays.fill(times, 0);
            for (int turn = 0; turn < net.size; turn++) {
                for (int from = 0; from < net.size; from++) {
                    for (int to = 0; to < net.size; to++) {
                        int minutes = net.of(from, to);
                        if (minutes != NONE) {
                            times[to] = Math.max(times[to], times[from] + minutes - period);
                        }
                    }
                }
            }
        }

        int timeOf(int departure) {
            return departure >= 0 && departure < DEPARTURES ? times[departure] : 0;
        }

        int spareOf(Net net, int from, int to) {
            return timeOf(to) + period - timeOf(from) - net.of(from, to);
        }

        /** A delay less what a walk has to spare comes to its end: the walk that spares least tells. */
        void spread(Net net, int at, int rounds) {
            for (int departure = 0; departure < net.size; departure++) {
                spares[departure] = departure == at ? 0 : ABOVE_ALL;
            }
            for (int round = 1; round <= rounds && round <= LAST_ROUND; round++) {
                for (int to = 0; to < net.size; to++) {
                    spares[round * DEPARTURES + to] = leastSpare(net, round - 1, to);
                }
            }
        }

        private int leastSpare(Net net, int row, int to) {
            int least = ABOVE_ALL;
            for (int from = 0; from < net.size; from++) {
                int ahead = spares[row * DEPARTURES + from];
                if (ahead != ABOVE_ALL && net.of(from, to) != NONE) {
                    least = Math.min(least, ahead + spareOf(net, from, to));
                }
            }
            return least;
        }

        int lateness(int d, int departure, int round) {
            if (departure < 0 || departure >= DEPARTURES || round < 0 || round > LAST_ROUND) {
                return 0;
            }
            return Math.max(0, d - spares[round * DEPARTURES + departure]);
        }

        int firstQuietRound(int d, int size) {
            for (int round = 1; round <= LAST_ROUND; round++) {
                int most = 0;
                for (int departure = 0; departure < size; departure++) {
                    most = Math.max(most, lateness(d, departure, round));
                }
                if (most == 0) {
                    return round;
                }
            }
            return NONE;
        }
    }

    /** Rings by the sets of departures that they go over, each begun at the lowest of its set. */
    private static final class RingSets {
        /** By set and end: how many walks go over just this set, and how long the longest is. */
        private final int[] counts = new int[SETS * DEPARTURES];
        private final int[] longest = new int[SETS * DEPARTURES];
        /** By set: the pace of what lies within it, in sixtieths (no ring: 0). */
        private final int[] paces = new int[SETS];
        private int rings;

        void fill(Net net) {
            Arrays.fill(counts, 0);
            Arrays.fill(longest, 0);
            Arrays.fill(paces, 0);
            rings = 0;
            for (int low = 0; low < net.size; low++) {
                counts[(1 << low) * DEPARTURES + low] = 1;
            }
            for (int set = 1; set < 1 << net.size; set++) {
                for (int end = 0; end < net.size; end++) {
                    goOn(net, set, end);
                }
            }
            takeWithin(net.size);
        }

        private static int lowestOf(int set) {
            int low = 0;
            while (low < DEPARTURES - 1 && (set >> low & 1) == 0) {
                low++;
            }
            return low;
        }

        /** Closes the walks over a set into rings, and takes them one departure further. */
        private void goOn(Net net, int set, int end) {
            int count = counts[set * DEPARTURES + end];
            int sum = longest[set * DEPARTURES + end];
            if (count == 0) {
                return;
            }
            int low = lowestOf(set);
            int back = net.of(end, low);
            if (back != NONE) {
                rings += count;
                paces[set] = Math.max(paces[set], (sum + back) * SIXTIETHS[Integer.bitCount(set)]);
            }
            for (int next = low + 1; next < net.size; next++) {
                int minutes = net.of(end, next);
                if (minutes != NONE && (set >> next & 1) == 0) {
                    int cell = (set | 1 << next) * DEPARTURES + next;
                    counts[cell] += count;
                    longest[cell] = Math.max(longest[cell], sum + minutes);
                }
            }
        }

        private void takeWithin(int size) {
            for (int set = 1; set < 1 << size; set++) {
                for (int out = 0; out < size; out++) {
                    paces[set] = Math.max(paces[set], paces[set & ~(1 << out)]);
                }
            }
        }

        /** What a departure adds to the pace over all orders, in sixtieths. */
        int added(int departure, int size) {
            int sum = 0;
            for (int set = 0; set < 1 << size; set++) {
                if ((set >> departure & 1) == 0) {
                    int here = Integer.bitCount(set);
                    int orders = FACTORIALS[here] * FACTORIALS[size - 1 - here];
                    sum += orders * (paces[set | 1 << departure] - paces[set]);
                }
            }
            return sum;
        }
    }
}
