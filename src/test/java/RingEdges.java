import java.util.Arrays;

/** The edges of promises 12 to 15, 18 and 20: the pace, what is critical, times, what is spare, the best, shares. */
final class RingEdges extends Edges {
    RingEdges(Due due, Words words) {
        super(due, words);
    }

    @Override
    void testAll() {
        noRing();
        meanOfEachLength();
        leastTerms();
        greatestOfAll();
        noDepartureTwice();
        criticalOnRings();
        criticalWaitsAlone();
        periods();
        keptOrNot();
        keptWithoutRings();
        earliestTimes();
        spareOfAWait();
        spareOfNoWait();
        shorterOfOneMinute();
        shorterIsLeast();
        leastOfNone();
        firstOfLikeOnes();
        bestHow();
        shareOfOne();
        shareOfNothing();
        shareInTheMean();
        shareOfNoDeparture();
    }

    // ---- 12

    private void noRing() {
        says(12, "PACE: the greatest MEAN of all RINGS: a FRACTION; NONE: there is none.");
        isFraction("a new object", new TurnRounds()::pace, NONE, NONE);
        isFraction("no wait", of("N6")::pace, NONE, NONE);
        isFraction("one way", of("N2019")::pace, NONE, NONE);
        TurnRounds x = of("N6");
        for (int from = 0; from < 6; from++) {
            for (int to = from + 1; to < 6; to++) {
                x.put(from, to, 9);
            }
        }
        isFraction("fifteen waits, all ahead", x::pace, NONE, NONE);
        x.put(5, 0, 0);
        isFraction("one back, of 0 minutes: 45/6", x::pace, 15, 2);
        x.cut(5, 0);
        isFraction("and without it", x::pace, NONE, NONE);
        says(12, "PACE; NONE.");
        isFraction("0 is not none", of("N1000")::pace, 0, 1);
        isFraction("none left", of("N1")::pace, NONE, NONE);
    }

    private void meanOfEachLength() {
        says(12, "MEAN of a RING: MINUTES of its WAITS together, by how many there are.");
        for (int length = 1; length <= 6; length++) {
            int[] minutes = new int[length];
            isFraction("all 0, ring of " + length, of(ring(minutes))::pace, 0, 1);
            minutes[length - 1] = 1;
            isFraction("one minute, ring of " + length, of(ring(minutes))::pace, 1, length);
            Arrays.fill(minutes, 9);
            isFraction("all 9, ring of " + length, of(ring(minutes))::pace, 9, 1);
            minutes[0] = 8;
            isFraction("one less, ring of " + length, of(ring(minutes))::pace, 9 * length - 1, length);
        }
    }

    private void leastTerms() {
        says(12, "FRACTIONS are told above (upper = true; less than 0, if they are), below, in least terms.");
        isFraction("2/6", of(ring(2, 0, 0, 0, 0, 0))::pace, 1, 3);
        isFraction("3/6", of(ring(1, 0, 1, 0, 1, 0))::pace, 1, 2);
        isFraction("4/6", of(ring(4, 0, 0, 0, 0, 0))::pace, 2, 3);
        isFraction("6/6", of(ring(6, 0, 0, 0, 0, 0))::pace, 1, 1);
        isFraction("2/4", of(ring(0, 2, 0, 0))::pace, 1, 2);
        isFraction("10/4", of(ring(1, 2, 3, 4))::pace, 5, 2);
        isFraction("45/6", of(ring(9, 9, 9, 9, 9, 0))::pace, 15, 2);
        isFraction("44/5", of(ring(9, 9, 9, 9, 8))::pace, 44, 5);
    }

    private void greatestOfAll() {
        says(12, "PACE: the greatest MEAN of all RINGS");
        isFraction("5/6 is more than 4/5", of(ring(1, 1, 1, 1, 1, 0), 400)::pace, 5, 6);
        isFraction("4/5 is more than 4/6", of("N6011121231341450500", 400)::pace, 4, 5);
        isFraction("not the greatest sum", of("N3019121201005")::pace, 5, 1);
        isFraction("23/3 is more than 15/2", of("N5019128206347438")::pace, 23, 3);
        isFraction("a ring that no other comes to", of("N6018102559")::pace, 9, 1);
        isFraction("waits off the rings do not count", of("N3001019129")::pace, 1, 1);
    }

    private void noDepartureTwice() {
        says(12, "that comes to no DEPARTURE twice.");
        isFraction("rings that share a departure", of("N3019109120210")::pace, 9, 1);
        isFraction("not the mean of both", of("N2009011101")::pace, 9, 1);
        isFraction("all waits of six", allWaits(6, 7)::pace, 7, 1);
    }

    // ---- 13

    private void criticalOnRings() {
        says(13, "CRITICAL are WAITS and DEPARTURES that lie on a RING whose MEAN is PACE.");
        TurnRounds x = of("N5019128206347438");
        is("23/3", x.critical(0, 1), 1);
        is("15/2 is less", x.critical(3, 4), 0);
        is("three waits", x.about(4), 3);
        is("departures 0, 1, 2", x.about(5), 7);
        x.time(3, 4, 8);
        x.time(1, 2, 9);
        is("8 and 8: the one", x.critical(1, 2), 1);
        is("8 and 8: the other", x.critical(4, 3), 1);
        is("five waits", x.about(4), 5);
        is("all departures", x.about(5), 31);
        is("of 0 minutes", of("N1000").critical(0, 0), 1);
        is("the last for itself", of("N6", 559).critical(5, 5), 1);
    }

    private void criticalWaitsAlone() {
        says(13, "1 if a WAIT is CRITICAL, 0. UNKNOWN: from, to; LATE: it is not there.");
        TurnRounds x = of("N4015105226234322");
        is("on no ring of the pace, but from a critical departure", x.critical(2, 3), 0);
        is("itself", x.critical(2, 2), 1);
        is("on a ring that is less", x.critical(0, 1), 0);
        is("not there", x.critical(1, 1), LATE);
        is("not there the other way", of("N2019").critical(1, 0), LATE);
        is("no ring at all", of("N2019").critical(0, 1), 0);
        is("between critical ones", of("N4014104234324123").critical(1, 2), 0);
        is("between critical ones, both ways, less", of("N2005115016103").critical(0, 1), 0);
        is("between critical ones, both ways, as much", of("N2005115016104").critical(0, 1), 1);
        is("one below", x.critical(-1, 0), UNKNOWN);
        is("one above", x.critical(0, 4), UNKNOWN);
        is("one above", x.critical(4, 0), UNKNOWN);
        is("the last is there", x.critical(3, 2), 0);
        is("far", x.critical(FAR_BELOW, FAR_ABOVE), UNKNOWN);
    }

    // ---- 14

    private void periods() {
        says(14, "TIME of a DEPARTURE by a PERIOD. UNKNOWN; BAD: period (0 .. 20); LATE: it is not KEPT.");
        TurnRounds x = of("N2019");
        is("the least", x.departs(1, 0), 9);
        is("the most", x.departs(1, 20), 0);
        is("one below", x.departs(1, -1), BAD);
        is("one above", x.departs(1, 21), BAD);
        is("far below", x.departs(1, FAR_BELOW), BAD);
        is("far above", x.departs(1, FAR_ABOVE), BAD);
        is("departure below", x.departs(-1, 0), UNKNOWN);
        is("departure above", x.departs(2, 0), UNKNOWN);
        is("the last departure of six", of("N6").departs(5, 0), 0);
        is("one above the last of six", of("N6").departs(6, 0), UNKNOWN);
        is("departure far", x.departs(FAR_ABOVE, 0), UNKNOWN);
        is("departure far", x.departs(FAR_BELOW, 0), UNKNOWN);
    }

    private void keptOrNot() {
        says(14, "A PERIOD (0 .. 20 MINUTES) is KEPT, if it is no less than PACE (there is no RING: it is).");
        is("as much as 7", of(ring(7, 7)).departs(0, 7), 0);
        is("less than 7", of(ring(7, 7)).departs(0, 6), LATE);
        is("13/2 by 6", of(ring(7, 6)).departs(0, 6), LATE);
        is("13/2 by 7", of(ring(7, 6)).departs(0, 7), 0);
        is("37/6 by 6", of(ring(7, 6, 6, 6, 6, 6)).departs(0, 6), LATE);
        is("37/6 by 7", of(ring(7, 6, 6, 6, 6, 6)).departs(0, 7), 0);
        is("35/6 by 6", of(ring(5, 6, 6, 6, 6, 6)).departs(0, 6), 0);
        is("35/6 by 5", of(ring(5, 6, 6, 6, 6, 6)).departs(0, 5), LATE);
        is("0 by 0", of("N1000").departs(0, 0), 0);
        is("1/6 by 0", of(ring(0, 0, 0, 0, 0, 1)).departs(0, 0), LATE);
        is("9 by 8", of("N1009").departs(0, 8), LATE);
        is("9 by 9", of("N1009").departs(0, 9), 0);
        is("a ring elsewhere", of("N2119").departs(0, 8), LATE);
    }

    private void keptWithoutRings() {
        says(14, "(there is no RING: it is)");
        is("no wait", of("N6").departs(5, 0), 0);
        is("waits all ahead", of("N6019129239349459").departs(5, 0), 45);
    }

    private void earliestTimes() {
        says(14, "of each DEPARTURE the least number, 0 or more");
        TurnRounds x = of("N6019129239349459");
        for (int departure = 0; departure < 6; departure++) {
            is("by 0", x.departs(departure, 0), 9 * departure);
            is("by 8", x.departs(departure, 8), departure);
            is("by 9, as many minutes", x.departs(departure, 9), 0);
            is("by 20, never less than 0", x.departs(departure, 20), 0);
        }
        x = of("N6549439329219109");
        for (int departure = 0; departure < 6; departure++) {
            is("from the last to the first", x.departs(departure, 0), 9 * (5 - departure));
        }
        x = of("N3012029129");
        is("the greater of two ways", x.departs(2, 1), 1 + 8);
        is("the greater of two ways", x.departs(2, 3), 6);
        x = of("N3019101120");
        is("a ring with nothing to spare", x.departs(1, 5), 4);
        is("behind it", x.departs(2, 5), 0);
    }

    // ---- 15

    private void spareOfAWait() {
        says(15, "SPARE of a WAIT: by how much they are more.");
        is("nothing", of("N1009").spare(0, 0, 9), 0);
        is("one", of("N1009").spare(0, 0, 10), 1);
        is("all of 20", of("N1000").spare(0, 0, 20), 20);
        is("times make it more", of("N6019129239349459050").spare(0, 5, 0), 45);
        is("times make it less", of("N3019129201").spare(2, 0, 7), 7 - 4 - 1);
        says(15, "SPARE of a WAIT by a PERIOD. UNKNOWN: from, to; BAD: period;");
        TurnRounds x = of("N2015");
        is("by 0", x.spare(0, 1, 0), 0);
        is("by 20", x.spare(0, 1, 20), 15);
        is("one below", x.spare(0, 1, -1), BAD);
        is("one above", x.spare(0, 1, 21), BAD);
        is("far below", x.spare(0, 1, FAR_BELOW), BAD);
        is("far above", x.spare(0, 1, FAR_ABOVE), BAD);
    }

    private void spareOfNoWait() {
        says(15, "LATE: there is no such WAIT, or it is not KEPT.");
        TurnRounds x = of("N2019100");
        is("no such wait", x.spare(0, 0, 20), LATE);
        is("not kept", x.spare(0, 1, 4), LATE);
        is("kept", x.spare(0, 1, 5), 0);
        is("neither", x.spare(0, 0, 0), LATE);
        is("from below", x.spare(-1, 0, 5), UNKNOWN);
        is("from above", x.spare(2, 0, 5), UNKNOWN);
        is("to below", x.spare(0, -1, 5), UNKNOWN);
        is("to above", x.spare(0, 2, 5), UNKNOWN);
    }

    // ---- 18

    private void shorterOfOneMinute() {
        says(18, "SHORTER: that WAIT of 1 MINUTE or more for which, if it had 1 less, PACE is least");
        is("no wait", of("N2").best(0), NONE);
        is("of 0 minutes alone", of("N2000010100110").best(0), NONE);
        is("of 1 minute", of("N2000010100111").best(0), 11);
        is("of 9", of("N1009").best(0), 0);
        says(18, "NONE: there is no such WAIT.");
        is("all of 0 minutes", allWaits(6, 0).best(0), NONE);
        is("a new object", new TurnRounds().best(0), NONE);
    }

    private void shorterIsLeast() {
        says(18, "if it had 1 less, PACE is least (none is less than all)");
        is("the slowest ring", of("N3018104228").best(0), 22);
        is("the slower of two", of("N3018104225").best(0), 1);
        is("two rings as slow: neither helps, the first", of("N3016106226").best(0), 1);
        is("two rings as slow: the wait on both", of("N3015125025205").best(0), 20);
        // By 1 less neither wait of the ring of 8 is better; by 2 less, or gone, 1 to 0 would be.
        is("by 1 less, not by more", of("N3018108027217").best(0), 1);
        is("as the waits are now, not as they were told", of("N3018108", 229).best(0), 22);
        is("no ring: none has one, the first", of("N3125021").best(0), 2);
        is("no ring, the first has 0 minutes", of("N3125020").best(0), 12);
    }

    private void leastOfNone() {
        says(18, "LEAST: of all WAITS that are CUT, one by one, that by which PACE is least then, likewise "
                + "(of 0 MINUTES, too).");
        is("no wait", of("N2").best(1), NONE);
        is("of 0 minutes", of("N1000").best(1), 0);
        is("the last one", of("N6", 550).best(1), 55);
        is("gone, not 1 less", of("N3018108027217").best(1), 10);
        is("gone, not of less than 0 minutes", of(ring(9, 9, 9, 9, 9, 9), 50).best(1), 50);
        is("as the waits are now, not as they were told", of("N3018108", 229).best(1), 22);
        says(18, "(none is less than all)");
        // By 2 to 0 alone all rings are gone; by each other one a ring of 0 minutes stays.
        is("no ring is less than 0", of("N3010120020200").best(1), 20);
        is("no ring is less than all", of("N3019129029209").best(1), 20);
        is("no ring there: the first", of("N3125021").best(1), 2);
    }

    private void firstOfLikeOnes() {
        says(18, "of like ones the first, by where it goes from, then to where; "
                + "told as 10 times the one and the other");
        is("by where from", of("N3105025").best(0), 2);
        is("by where from", of("N3105025").best(1), 2);
        is("then to where", of("N6525515").best(0), 51);
        is("then to where", of("N6525515").best(1), 51);
        is("not as they were put", of("N2104014").best(0), 1);
        is("not as they were put", of("N2104014").best(1), 1);
        is("the lowest that can be told", of("N1009").best(1), 0);
        is("the highest that can be told", of("N6", 551).best(0), 55);
        is("all alike", allWaits(6, 9).best(0), 0);
        is("all alike", allWaits(6, 9).best(1), 0);
    }

    private void bestHow() {
        says(18, "SHORTER (how = 0), LEAST (1), as told; NONE. BAD.");
        TurnRounds x = of("N2000011");
        is("0", x.best(0), 1);
        is("1", x.best(1), 0);
        is("one below", x.best(-1), BAD);
        is("one above", x.best(2), BAD);
        is("far below", x.best(FAR_BELOW), BAD);
        is("far above", x.best(FAR_ABOVE), BAD);
        is("BAD without waits", new TurnRounds().best(2), BAD);
    }

    // ---- 20

    private void shareOfOne() {
        says(20, "by how much in the mean PACE is more when it has come than it was (none: 0): a FRACTION.");
        isFraction("one alone", upper -> of("N1007").share(0, upper), 7, 1);
        isFraction("one alone, 0", upper -> of("N1000").share(0, upper), 0, 1);
        isFraction("the last of six alone", upper -> of("N6", 559).share(5, upper), 9, 1);
        isFraction("the others", upper -> of("N6", 559).share(0, upper), 0, 1);
    }

    private void shareOfNothing() {
        says(20, "than it was (none: 0)");
        isFraction("no wait", upper -> of("N6").share(5, upper), 0, 1);
        isFraction("no ring", upper -> of("N2019").share(0, upper), 0, 1);
        isFraction("a ring of 0 minutes is as none", upper -> of(ring(0, 0)).share(0, upper), 0, 1);
    }

    private void shareInTheMean() {
        says(20, "SHARE of a DEPARTURE: if DEPARTURES come one by one, in each order as likely "
                + "(WAITS between those that have come alone are there)");
        for (int departure = 0; departure < 6; departure++) {
            int at = departure;
            isFraction("ring of six", upper -> of(ring(9, 9, 9, 9, 9, 9)).share(at, upper), 3, 2);
            isFraction("ring of six, 53/6", upper -> of(ring(9, 9, 9, 9, 9, 8)).share(at, upper), 53, 36);
            isFraction("ring of six, 1/6", upper -> of(ring(1, 0, 0, 0, 0, 0)).share(at, upper), 1, 36);
            isFraction("all waits", upper -> allWaits(6, 9).share(at, upper), 3, 2);
        }
        // 0, 1: 3, then 17/2; 1, 0: 0, then 17/2.
        TurnRounds x = of(ring(9, 9));
        isFraction("9 each", upper -> x.share(0, upper), 9, 2);
        x.time(0, 1, 0);
        isFraction("9/2 together, though more was asked for ahead of it", upper -> x.share(0, upper), 9, 4);
        x.cut(0, 1);
        isFraction("none, though some was asked for ahead of it", upper -> x.share(0, upper), 0, 1);
        isFraction("first of two", upper -> of("N2003019108").share(0, upper), 23, 4);
        isFraction("second of two", upper -> of("N2003019108").share(1, upper), 11, 4);
        // Over six orders 0 adds 5/2 once, 1/2 twice (to the 2 that is there); 2 adds 2 four times.
        isFraction("first of three", upper -> of("N3015100222").share(0, upper), 7, 12);
        isFraction("second of three", upper -> of("N3015100222").share(1, upper), 7, 12);
        isFraction("third of three", upper -> of("N3015100222").share(2, upper), 4, 3);
    }

    private void shareOfNoDeparture() {
        says(20, "SHARE. UNKNOWN.");
        TurnRounds x = of("N6");
        is("the last", x.share(5, false), 1);
        is("one above", x.share(6, true), UNKNOWN);
        is("one below", x.share(-1, true), UNKNOWN);
        is("far above", x.share(FAR_ABOVE, false), UNKNOWN);
        is("far below", x.share(FAR_BELOW, false), UNKNOWN);
        is("one above a new object's", new TurnRounds().share(1, true), UNKNOWN);
    }
}
