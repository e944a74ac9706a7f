import java.math.BigInteger;
import java.util.ArrayList;
import java.util.List;

/**
 * The document again, by the plainest means: rings one by one, orders one by one, delays round by
 * round, chances case by case. It shares no way of reckoning with the class.
 */
final class Model {
    static final int UNKNOWN = -1, BAD = -2, LATE = -3, FULL = -4, NONE = -9;

    /** A fraction, always in least terms, below more than 0. */
    static final class Part {
        final BigInteger above;
        final BigInteger below;

        Part(BigInteger above, BigInteger below) {
            BigInteger common = above.gcd(below);
            this.above = above.divide(common);
            this.below = below.divide(common);
        }

        static Part of(long above, long below) {
            return new Part(BigInteger.valueOf(above), BigInteger.valueOf(below));
        }

        Part plus(Part other) {
            return new Part(above.multiply(other.below).add(other.above.multiply(below)), below.multiply(other.below));
        }

        Part minus(Part other) {
            return plus(new Part(other.above.negate(), other.below));
        }

        Part times(Part other) {
            return new Part(above.multiply(other.above), below.multiply(other.below));
        }

        int compareTo(Part other) {
            return above.multiply(other.below).compareTo(other.above.multiply(below));
        }

        int told(boolean upper) {
            return (upper ? above : below).intValueExact();
        }
    }

    int n = 1;
    Integer[][] waits = new Integer[6][6];
    String text = "";
    final List<Integer[][]> before = new ArrayList<>();
    final List<int[]> seen = new ArrayList<>();
    final Integer[][][] kept = new Integer[2][][];
    BigInteger seed = BigInteger.ZERO;

    private static Integer[][] copy(Integer[][] from) {
        Integer[][] to = new Integer[6][];
        for (int i = 0; i < 6; i++) {
            to[i] = from[i].clone();
        }
        return to;
    }

    private boolean no(int departure) {
        return departure < 0 || departure >= n;
    }

    private int count() {
        int count = 0;
        for (Integer[] row : waits) {
            for (Integer m : row) {
                count += m == null ? 0 : 1;
            }
        }
        return count;
    }

    // ---- the net

    int write(int letter) {
        if (letter < 0 || letter > 255) return BAD;
        if (text.length() == 64) return FULL;
        text += (char) letter;
        return text.length();
    }

    int wipe() {
        int was = text.length();
        text = "";
        return was;
    }

    static boolean isNet(String t) {
        if (!t.matches("N[1-6]([0-5][0-5][0-9]){0,12}")) return false;
        int n = t.charAt(1) - '0';
        String pairs = "";
        for (int i = 2; i < t.length(); i += 3) {
            String pair = t.substring(i, i + 2) + ";";
            if (pair.charAt(0) - '0' >= n || pair.charAt(1) - '0' >= n || pairs.contains(pair)) return false;
            pairs += pair;
        }
        return true;
    }

    private static boolean canGoOn(String t, int more) {
        if (isNet(t)) return true;
        if (more == 0) return false;
        for (char c : "N0123456789".toCharArray()) {
            if (canGoOn(t + c, more - 1)) return true;
        }
        return false;
    }

    int fault() {
        for (int i = 0; i < text.length(); i++) {
            if (!canGoOn(text.substring(0, i + 1), 2)) return i;
        }
        return isNet(text) ? NONE : text.length();
    }

    int net() {
        if (fault() != NONE) return LATE;
        n = text.charAt(1) - '0';
        waits = new Integer[6][6];
        for (int i = 2; i < text.length(); i += 3) {
            waits[text.charAt(i) - '0'][text.charAt(i + 1) - '0'] = text.charAt(i + 2) - '0';
        }
        before.clear();
        kept[0] = null;
        kept[1] = null;
        return count();
    }

    int about(int what) {
        switch (what) {
            case 0: return n;
            case 1: return count();
            case 2: return rings(63).size();
            case 3: return count() - lying(rings(63)).size();
            case 4: return lying(slowRings()).size();
            case 5: {
                int bits = 0;
                for (int cell : lying(slowRings())) bits |= 1 << cell / 10;
                return bits;
            }
            case 6: {
                int p = 0;
                while (!isKept(p)) p++;
                return p;
            }
            case 7: return before.size();
            case 8: return seen.size();
            case 9: return text.length();
            default: return BAD;
        }
    }

    int minutes(int from, int to) {
        if (no(from) || no(to)) return UNKNOWN;
        return waits[from][to] == null ? NONE : waits[from][to];
    }

    // ---- doings

    private void doing(int from, int to, Integer m) {
        if (before.size() == 14) before.remove(0);
        before.add(copy(waits));
        waits[from][to] = m;
    }

    int put(int from, int to, int m) {
        if (no(from) || no(to)) return UNKNOWN;
        if (m < 0 || m > 9) return BAD;
        if (waits[from][to] != null) return LATE;
        doing(from, to, m);
        return count();
    }

    int cut(int from, int to) {
        if (no(from) || no(to)) return UNKNOWN;
        if (waits[from][to] == null) return LATE;
        int was = waits[from][to];
        doing(from, to, null);
        return was;
    }

    int time(int from, int to, int m) {
        if (no(from) || no(to)) return UNKNOWN;
        if (m < 0 || m > 9) return BAD;
        if (waits[from][to] == null) return LATE;
        int was = waits[from][to];
        doing(from, to, m);
        return was;
    }

    int undo() {
        if (before.isEmpty()) return LATE;
        waits = before.remove(before.size() - 1);
        return before.size();
    }

    // ---- rings, periods

    /** All rings within a set, each as its departures, the lowest first. */
    List<List<Integer>> rings(int set) {
        List<List<Integer>> found = new ArrayList<>();
        for (int low = 0; low < n; low++) {
            if ((set >> low & 1) == 1) grow(set, new ArrayList<>(List.of(low)), found);
        }
        return found;
    }

    private void grow(int set, List<Integer> way, List<List<Integer>> found) {
        int last = way.get(way.size() - 1);
        if (waits[last][way.get(0)] != null) found.add(new ArrayList<>(way));
        for (int next = way.get(0) + 1; next < n; next++) {
            if ((set >> next & 1) == 1 && waits[last][next] != null && !way.contains(next)) {
                way.add(next);
                grow(set, way, found);
                way.remove(way.size() - 1);
            }
        }
    }

    private Part mean(List<Integer> ring) {
        int sum = 0;
        for (int i = 0; i < ring.size(); i++) {
            sum += waits[ring.get(i)][ring.get((i + 1) % ring.size())];
        }
        return Part.of(sum, ring.size());
    }

    /** null: there is none. */
    Part pace(int set) {
        Part most = null;
        for (List<Integer> ring : rings(set)) {
            Part mean = mean(ring);
            if (most == null || mean.compareTo(most) > 0) most = mean;
        }
        return most;
    }

    private List<List<Integer>> slowRings() {
        Part pace = pace(63);
        List<List<Integer>> slow = new ArrayList<>();
        for (List<Integer> ring : rings(63)) {
            if (mean(ring).compareTo(pace) == 0) slow.add(ring);
        }
        return slow;
    }

    /** The waits that lie on these rings: 10 from and to. */
    private static List<Integer> lying(List<List<Integer>> rings) {
        List<Integer> cells = new ArrayList<>();
        for (List<Integer> ring : rings) {
            for (int i = 0; i < ring.size(); i++) {
                Integer cell = 10 * ring.get(i) + ring.get((i + 1) % ring.size());
                if (!cells.contains(cell)) cells.add(cell);
            }
        }
        return cells;
    }

    boolean isKept(int period) {
        Part pace = pace(63);
        return pace == null || pace.compareTo(Part.of(period, 1)) <= 0;
    }

    int pace(boolean upper) {
        Part pace = pace(63);
        return pace == null ? NONE : pace.told(upper);
    }

    int critical(int from, int to) {
        if (no(from) || no(to)) return UNKNOWN;
        if (waits[from][to] == null) return LATE;
        return lying(slowRings()).contains(10 * from + to) ? 1 : 0;
    }

    private int[] times(int period) {
        int[] t = new int[n];
        boolean more = true;
        while (more) {
            more = false;
            for (int i = 0; i < n; i++) {
                for (int k = 0; k < n; k++) {
                    if (waits[i][k] != null && t[k] + period < t[i] + waits[i][k]) {
                        t[k]++;
                        more = true;
                    }
                }
            }
        }
        return t;
    }

    int departs(int departure, int period) {
        if (no(departure)) return UNKNOWN;
        if (period < 0 || period > 20) return BAD;
        if (!isKept(period)) return LATE;
        return times(period)[departure];
    }

    int spare(int from, int to, int period) {
        if (no(from) || no(to)) return UNKNOWN;
        if (period < 0 || period > 20) return BAD;
        if (waits[from][to] == null || !isKept(period)) return LATE;
        int[] t = times(period);
        return t[to] + period - t[from] - waits[from][to];
    }

    private int[][] delayed(int at, int d, int period) {
        int[] t = times(period);
        int[][] late = new int[41][n];
        late[0][at] = d;
        for (int r = 1; r <= 40; r++) {
            for (int k = 0; k < n; k++) {
                for (int i = 0; i < n; i++) {
                    if (waits[i][k] != null) {
                        int spare = t[k] + period - t[i] - waits[i][k];
                        late[r][k] = Math.max(late[r][k], late[r - 1][i] - spare);
                    }
                }
            }
        }
        return late;
    }

    int late(int at, int d, int period, int departure, int round) {
        if (no(at) || no(departure)) return UNKNOWN;
        if (d < 1 || d > 30 || period < 0 || period > 20 || round < 0 || round > 40) return BAD;
        if (!isKept(period)) return LATE;
        return delayed(at, d, period)[round][departure];
    }

    int dies(int at, int d, int period) {
        if (no(at)) return UNKNOWN;
        if (d < 1 || d > 30 || period < 0 || period > 20) return BAD;
        if (!isKept(period)) return LATE;
        int[][] late = delayed(at, d, period);
        for (int r = 1; r <= 40; r++) {
            int sum = 0;
            for (int l : late[r]) sum += l;
            if (sum == 0) return r;
        }
        return NONE;
    }

    int best(int how) {
        if (how < 0 || how > 1) return BAD;
        int found = NONE;
        Part least = null;
        for (int from = 0; from < n; from++) {
            for (int to = 0; to < n; to++) {
                Integer m = waits[from][to];
                if (m == null || how == 0 && m == 0) continue;
                waits[from][to] = how == 0 ? Integer.valueOf(m - 1) : null;
                Part pace = pace(63);
                waits[from][to] = m;
                if (pace == null) pace = Part.of(-1, 1);
                if (least == null || pace.compareTo(least) < 0) {
                    least = pace;
                    found = 10 * from + to;
                }
            }
        }
        return found;
    }

    int judge(int n, long row) {
        if (n < 1 || n > 4 || row < 0) return BAD;
        String figures = Long.toString(row);
        if (figures.length() > 4 * n) return BAD;
        while (figures.length() < 4 * n) figures = "0" + figures;
        Model other = new Model();
        other.n = this.n;
        other.waits = copy(waits);
        for (int i = 0; i < n; i++) {
            if (!other.judged(figures.substring(4 * i, 4 * i + 4))) return i;
        }
        return NONE;
    }

    private boolean judged(String f) {
        int a = f.charAt(1) - '0';
        int b = f.charAt(2) - '0';
        int c = f.charAt(3) - '0';
        int two = Integer.parseInt(f.substring(2));
        switch (f.charAt(0)) {
            case '1': return put(a, b, c) >= 0;
            case '2': return c == 0 && cut(a, b) >= 0;
            case '3': return time(a, b, c) >= 0;
            case '4': return a == 0 && two <= 20 && isKept(two);
            case '5': return c == 0 && critical(a, b) == 1;
            case '6': return departs(a, 10) == two;
            case '7': return dies(a, two, 10) >= 1;
            default: return false;
        }
    }

    int share(int departure, boolean upper) {
        if (no(departure)) return UNKNOWN;
        Part[] worth = new Part[64];
        for (int set = 0; set < 1 << n; set++) {
            Part pace = pace(set);
            worth[set] = pace == null ? Part.of(0, 1) : pace;
        }
        // Each order adds one of these, so it is enough to know how often each comes.
        long[] orders = new long[64];
        come(0, departure, orders);
        Part sum = Part.of(0, 1);
        long all = 0;
        for (int set = 0; set < 64; set++) {
            if (orders[set] > 0) {
                Part more = worth[set | 1 << departure].minus(worth[set]);
                sum = sum.plus(more.times(Part.of(orders[set], 1)));
                all += orders[set];
            }
        }
        return sum.times(Part.of(1, all)).told(upper);
    }

    /** Goes through all orders; notes what has come when the departure comes. */
    private void come(int set, int departure, long[] orders) {
        for (int next = 0; next < n; next++) {
            if ((set >> next & 1) == 1) continue;
            if (next == departure) {
                long rest = 1;
                for (int left = n - Integer.bitCount(set) - 1; left > 1; left--) rest *= left;
                orders[set] += rest;
            } else {
                come(set | 1 << next, departure, orders);
            }
        }
    }

    // ---- seen

    int see(int departure, int round, int was) {
        if (no(departure)) return UNKNOWN;
        if (round < 1 || round > 9 || was < 0 || was > 1) return BAD;
        if (seen.size() == 6) return FULL;
        seen.add(new int[] {departure, round, was});
        return seen.size();
    }

    int unsee() {
        int was = seen.size();
        seen.clear();
        return was;
    }

    int began(int what) {
        if (what < 0 || what > 1) return BAD;
        List<Integer> all = new ArrayList<>();
        for (int at = 0; at < n; at++) {
            for (int d = 1; d <= 30; d++) {
                int[][] late = delayed(at, d, 10);
                boolean fits = true;
                for (int[] s : seen) {
                    int was = s[0] < n && late[s[1]][s[0]] > 0 ? 1 : 0;
                    fits &= was == s[2];
                }
                if (fits) all.add(100 * at + d);
            }
        }
        if (what == 0) return all.size();
        return all.isEmpty() ? NONE : all.get(0);
    }

    // ---- chances

    int dropped(int departure, int period, int x, boolean upper) {
        if (no(departure)) return UNKNOWN;
        if (period < 0 || period > 20 || x < 0 || x > 10) return BAD;
        Integer[][] all = copy(waits);
        Part sum = Part.of(0, 1);
        for (int cut = 0; cut < 1 << n; cut++) {
            Part chance = Part.of(1, 1);
            for (int to = 0; to < n; to++) {
                boolean isCut = (cut >> to & 1) == 1;
                if (all[departure][to] == null) {
                    // A wait that is not there has one case alone.
                    chance = isCut ? Part.of(0, 1) : chance;
                } else {
                    chance = chance.times(Part.of(isCut ? x : 10 - x, 10));
                    waits[departure][to] = isCut ? null : all[departure][to];
                }
            }
            if (chance.above.signum() > 0 && isKept(period)) sum = sum.plus(chance);
        }
        waits = all;
        return sum.told(upper);
    }

    long seed(long v) {
        long was = seed.longValue();
        seed = BigInteger.valueOf(v);
        return was;
    }

    int drawn(int m) {
        if (m < 1 || m > 20) return BAD;
        Integer[][] all = copy(waits);
        int sum = 0;
        for (int i = 0; i < m; i++) {
            seed = seed.multiply(new BigInteger("6364136223846793005")).add(new BigInteger("1442695040888963407"))
                    .mod(BigInteger.ONE.shiftLeft(64));
            int u = seed.shiftRight(33).intValueExact();
            int from = u % 6;
            int to = (u >> 3) % 6;
            int minutes = (u >> 6) % 11;
            if (from < n && to < n) waits[from][to] = minutes == 10 ? null : Integer.valueOf(minutes);
            Part pace = pace(63);
            sum += pace == null ? 0 : pace.above.divide(pace.below).intValue();
        }
        waits = all;
        return sum;
    }

    // ---- slots

    int keep(int slot) {
        if (slot < 0 || slot > 1) return UNKNOWN;
        kept[slot] = copy(waits);
        return count();
    }

    int again(int slot) {
        if (slot < 0 || slot > 1) return UNKNOWN;
        if (kept[slot] == null) return LATE;
        waits = copy(kept[slot]);
        before.clear();
        return count();
    }
}
