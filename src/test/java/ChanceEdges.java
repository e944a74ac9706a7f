import java.math.BigInteger;

/** The edges of promises 24 to 26: waits dropped by chance, the seed, and what is drawn by it. */
final class ChanceEdges extends Edges {
    private static final BigInteger TIMES = new BigInteger("6364136223846793005");
    private static final BigInteger MORE = new BigInteger("1442695040888963407");
    private static final BigInteger WRAP = BigInteger.ONE.shiftLeft(64);

    ChanceEdges(Due due, Words words) {
        super(due, words);
    }

    @Override
    void testAll() {
        tenths();
        droppedPeriods();
        droppedDepartures();
        eachByItself();
        nothingToDrop();
        seedAtFirst();
        seedWraps();
        howManyTimes();
        upperBits();
        fromAndTo();
        minutesDrawn();
        ifItCanBe();
        wholeMinutes();
        together();
    }

    private void isDropped(String what, TurnRounds x, int[] asked, int above, int below) {
        isFraction(what, upper -> x.dropped(asked[0], asked[1], asked[2], upper), above, below);
    }

    private static int[] asked(int departure, int period, int x) {
        return new int[] {departure, period, x};
    }

    // ---- 24

    private void tenths() {
        says(24, "DROPPED: each WAIT from a DEPARTURE is CUT by x tenths (0 .. 10), by itself");
        TurnRounds x = of("N1009");
        isDropped("never", x, asked(0, 8, 0), 0, 1);
        int[] below = {1, 10, 5, 10, 5, 2, 5, 10, 5, 10, 1};
        int[] above = {0, 1, 1, 3, 2, 1, 3, 7, 4, 9, 1};
        for (int tenths = 0; tenths <= 10; tenths++) {
            isDropped(tenths + " tenths, in least terms", x, asked(0, 8, tenths), above[tenths], below[tenths]);
        }
        isDropped("always", x, asked(0, 8, 10), 1, 1);
        is("one below", x.dropped(0, 8, -1, true), BAD);
        is("one above", x.dropped(0, 8, 11, true), BAD);
        is("far below", x.dropped(0, 8, FAR_BELOW, false), BAD);
        is("far above", x.dropped(0, 8, FAR_ABOVE, false), BAD);
    }

    private void droppedPeriods() {
        says(24, "UNKNOWN; BAD: period (0 .. 20), x.");
        TurnRounds x = of("N1009");
        isDropped("the least", x, asked(0, 0, 3), 3, 10);
        isDropped("the most", x, asked(0, 20, 3), 1, 1);
        isDropped("one less than the pace", x, asked(0, 8, 3), 3, 10);
        isDropped("as much as the pace", x, asked(0, 9, 3), 1, 1);
        isDropped("13/2 by 6", of(ring(7, 6)), asked(0, 6, 3), 3, 10);
        isDropped("13/2 by 7", of(ring(7, 6)), asked(0, 7, 3), 1, 1);
        is("one below", x.dropped(0, -1, 3, true), BAD);
        is("one above", x.dropped(0, 21, 3, true), BAD);
        is("far below", x.dropped(0, FAR_BELOW, 3, true), BAD);
        is("far above", x.dropped(0, FAR_ABOVE, 3, true), BAD);
    }

    private void droppedDepartures() {
        says(24, "DROPPED. UNKNOWN;");
        TurnRounds x = of("N6", 559);
        isDropped("the last", x, asked(5, 0, 1), 1, 10);
        isDropped("the first", x, asked(0, 0, 1), 0, 1);
        is("one below", x.dropped(-1, 0, 1, true), UNKNOWN);
        is("one above", x.dropped(6, 0, 1, true), UNKNOWN);
        is("far below", x.dropped(FAR_BELOW, 0, 1, true), UNKNOWN);
        is("far above", x.dropped(FAR_ABOVE, 0, 1, true), UNKNOWN);
    }

    private void eachByItself() {
        says(24, "by itself: that a PERIOD is KEPT: a FRACTION.");
        TurnRounds all = allWaits(6, 9);
        isDropped("others break it", all, asked(0, 8, 10), 0, 1);
        TurnRounds x = of("N6");
        x.put(0, 0, 9);
        for (int to = 1; to < 6; to++) {
            x.put(0, to, 9);
            x.put(to, 0, 9);
        }
        isDropped("six, the least chance", x, asked(0, 8, 1), 1, 1000000);
        isDropped("six, the greatest chance", x, asked(0, 8, 9), 531441, 1000000);
        isDropped("six, in least terms", x, asked(0, 8, 5), 1, 64);
        isDropped("six, always", x, asked(0, 0, 10), 1, 1);
        isDropped("six, never", x, asked(0, 0, 0), 0, 1);
        isDropped("six, kept anyhow", x, asked(0, 9, 0), 1, 1);
        TurnRounds y = of("N3009011104025");
        isDropped("two rings, a wait off them, one breaks it", y, asked(0, 8, 2), 1, 5);
        isDropped("two rings, both break it", y, asked(0, 2, 2), 1, 25);
        TurnRounds z = of(ring(9, 9, 9, 9, 9, 9), 40);
        isDropped("one breaks 6, the next does not", z, asked(0, 6, 3), 3, 10);
        isDropped("waits to it are not dropped", of("N2019109119"), asked(0, 8, 10), 0, 1);
    }

    private void nothingToDrop() {
        says(24, "that a PERIOD is KEPT: a FRACTION.");
        isDropped("no wait at all", new TurnRounds(), asked(0, 0, 5), 1, 1);
        isDropped("no wait from it, kept", of("N2009"), asked(1, 9, 5), 1, 1);
        isDropped("no wait from it, not kept", of("N2009"), asked(1, 8, 5), 0, 1);
        isDropped("no ring", of("N2019"), asked(0, 0, 5), 1, 1);
    }

    // ---- 25

    private void seedAtFirst() {
        says(25, "THE SEED, a long; 0 at first");
        TurnRounds x = new TurnRounds();
        is("at first", x.seed(-1), 0);
        says(25, "THE SEED is v: what it was.");
        is("-1", x.seed(Long.MIN_VALUE), -1);
        is("the lowest", x.seed(Long.MAX_VALUE), Long.MIN_VALUE);
        is("the highest", x.seed(1L << 32), Long.MAX_VALUE);
        is("more than an int", x.seed(0), 1L << 32);
        is("0 again", x.seed(0), 0);
    }

    private void seedWraps() {
        says(26, "becomes x times 6364136223846793005 and 1442695040888963407 (64 bits, wrapping)");
        long[] seeds = {0, 1, -1, 2, 3, Long.MAX_VALUE, Long.MIN_VALUE, Long.MAX_VALUE - 1, Long.MIN_VALUE + 1,
            1L << 62, 1L << 32, 1L << 33, -(1L << 33), 5992134568988695080L};
        for (long seed : seeds) {
            TurnRounds x = new TurnRounds();
            x.seed(seed);
            x.drawn(1);
            is("from " + seed, x.seed(0), next(seed));
        }
    }

    // ---- 26

    private static long next(long seed) {
        return BigInteger.valueOf(seed).multiply(TIMES).add(MORE).mod(WRAP).longValue();
    }

    /** The seed that becomes this one by one turn. */
    private static long before(long seed) {
        return BigInteger.valueOf(seed).subtract(MORE).multiply(TIMES.modInverse(WRAP)).mod(WRAP).longValue();
    }

    private static boolean draws(long upper, int from, int to, int minutes) {
        return upper % 6 == from && upper / 8 % 6 == to && upper / 64 % 11 == minutes;
    }

    /** The lowest upper bits that draw this, or the highest. */
    private static long upperFor(int from, int to, int minutes, boolean isHigh) {
        for (long i = 0; i < 1 << 20; i++) {
            long upper = isHigh ? (1L << 31) - 1 - i : i;
            if (draws(upper, from, to, minutes)) {
                return upper;
            }
        }
        throw new IllegalStateException("nothing draws this");
    }

    private static long seedFor(int from, int to, int minutes) {
        return before(upperFor(from, to, minutes, false) << 33);
    }

    /** A seed that draws the one, and then the other. */
    private static long seedFor(int[] one, int[] other) {
        long upper = upperFor(one[0], one[1], one[2], false) << 33;
        for (long low = 0; low < 1 << 20; low++) {
            if (draws(next(upper + low) >>> 33, other[0], other[1], other[2])) {
                return before(upper + low);
            }
        }
        throw new IllegalStateException("nothing draws these");
    }

    private static int drawn(TurnRounds x, long seed, int m) {
        x.seed(seed);
        return x.drawn(m);
    }

    private void howManyTimes() {
        says(26, "DRAWN by THE SEED: m times (1 .. 20)");
        TurnRounds x = new TurnRounds();
        is("one below", x.drawn(0), BAD);
        is("less than 0", x.drawn(-1), BAD);
        is("one above", x.drawn(21), BAD);
        is("far below", x.drawn(FAR_BELOW), BAD);
        is("far above", x.drawn(FAR_ABOVE), BAD);
        says(26, "DRAWN. BAD: m.");
        is("the seed stays", x.seed(0), 0);
        long seed = 0;
        for (int m = 1; m <= 20; m++) {
            seed = next(seed);
            x.seed(0);
            x.drawn(m);
            is(m + " times", x.seed(0), seed);
        }
    }

    private void upperBits() {
        says(26, "of its upper 31 bits what is left by 6 is from where");
        TurnRounds x = new TurnRounds();
        for (int minutes = 0; minutes <= 9; minutes++) {
            long low = upperFor(0, 0, minutes, false);
            long high = upperFor(0, 0, minutes, true);
            is("low bits", drawn(x, before(low << 33), 1), minutes);
            is("low bits, and all below them", drawn(x, before((low << 33) + (1L << 33) - 1), 1), minutes);
            is("high bits: less than 0 as a long", drawn(x, before(high << 33), 1), minutes);
            is("high bits, and all below them", drawn(x, before((high << 33) + (1L << 33) - 1), 1), minutes);
        }
    }

    private void fromAndTo() {
        says(26, "that by 8 (down), left by 6, to where, that by 64 (down), left by 11, MINUTES (10: CUT)");
        for (int cell = 0; cell < 36; cell++) {
            int from = cell / 6;
            int to = cell % 6;
            // The way back is there with 0 minutes: what is drawn makes a ring of 9/2.
            TurnRounds x = of("N6");
            if (from != to) {
                x.put(to, from, 0);
            }
            int due = from == to ? 9 : 4;
            is("put from " + from + " to " + to, drawn(x, seedFor(from, to, 9), 1), due);
        }
    }

    private void minutesDrawn() {
        says(26, "MINUTES (10: CUT)");
        TurnRounds x = of("N2004119");
        is("timed to 0", drawn(x, seedFor(1, 1, 0), 1), 4);
        is("timed to 9", drawn(x, seedFor(0, 0, 9), 1), 9);
        is("timed to the same", drawn(x, seedFor(1, 1, 9), 1), 9);
        is("cut", drawn(x, seedFor(1, 1, 10), 1), 4);
        is("the only ring cut", drawn(of("N1009"), seedFor(0, 0, 10), 1), 0);
        is("a ring of six cut", drawn(of(ring(9, 9, 9, 9, 9, 9)), seedFor(0, 1, 10), 1), 0);
        is("put with 0", drawn(new TurnRounds(), seedFor(0, 0, 0), 1), 0);
        is("put with 9", drawn(new TurnRounds(), seedFor(0, 0, 9), 1), 9);
    }

    private void ifItCanBe() {
        says(26, "it is PUT, or TIMED, or CUT, if it can be");
        TurnRounds x = of("N5003");
        is("from the last departure", drawn(x, seedFor(4, 4, 9), 1), 9);
        is("from one above", drawn(x, seedFor(5, 0, 9), 1), 3);
        is("to one above", drawn(x, seedFor(0, 5, 9), 1), 3);
        is("neither", drawn(x, seedFor(5, 5, 9), 1), 3);
        is("cut of what is not there", drawn(x, seedFor(4, 4, 10), 1), 3);
        is("cut from one above", drawn(x, seedFor(5, 5, 10), 1), 3);
        is("of six the last", drawn(of("N6"), seedFor(5, 5, 9), 1), 9);
    }

    private void wholeMinutes() {
        says(26, "PACE, cut to whole MINUTES (none: 0), each time, together.");
        is("none", drawn(of("N2"), seedFor(0, 1, 9), 1), 0);
        is("1/2", drawn(of("N2100"), seedFor(0, 1, 1), 1), 0);
        is("17/2", drawn(of("N2108"), seedFor(0, 1, 9), 1), 8);
        is("53/6", drawn(of("N6129239349459508"), seedFor(0, 1, 9), 1), 8);
        is("54/6", drawn(of("N6129239349459509"), seedFor(0, 1, 9), 1), 9);
    }

    private void together() {
        says(26, "each time, together. (Nothing changes but THE SEED.)");
        int[] there = {0, 1, 9};
        int[] back = {1, 0, 8};
        is("one upon the other: 0 and 8", drawn(of("N2"), seedFor(there, back), 2), 8);
        is("the first alone", drawn(of("N2"), seedFor(there, back), 1), 0);
        int[] put = {0, 0, 9};
        int[] cut = {0, 0, 10};
        is("put, and cut: 9 and 0", drawn(new TurnRounds(), seedFor(put, cut), 2), 9);
        is("cut, and put: 0 and 9", drawn(of("N1003"), seedFor(cut, put), 2), 9);
        int[] no = {5, 5, 9};
        is("each time, though it can not be: 9 and 9", drawn(of("N1009"), seedFor(no, no), 2), 18);
        TurnRounds x = of("N2");
        is("drawn anew", drawn(x, seedFor(there, back), 2), 8);
        is("nothing of it stays", x.about(1), 0);
        is("drawn anew", drawn(x, seedFor(there, back), 2), 8);
        is("no doings", x.about(7), 0);
    }
}
