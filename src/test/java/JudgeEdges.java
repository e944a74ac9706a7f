/** The edges of promise 19: told doings judged. */
final class JudgeEdges extends Edges {
    private static final long[] ROW_ENDS = {1L, 10000L, 100000000L, 1000000000000L, 10000000000000000L};

    JudgeEdges(Due due, Words words) {
        super(due, words);
    }

    @Override
    void testAll() {
        howMany();
        rowsTooLong();
        leadingNoughts();
        firstPlace();
        puts();
        cuts();
        timings();
        periods();
        criticals();
        times();
        delays();
        otherKinds();
        oneUponTheOther();
    }

    private void can(TurnRounds x, int... figures) {
        for (int told : figures) {
            is("so: " + told, x.judge(1, told), NONE);
        }
    }

    private void canNot(TurnRounds x, int... figures) {
        for (int told : figures) {
            is("not so: " + told, x.judge(1, told), 0);
        }
    }

    private void howMany() {
        says(19, "JUDGED: n doings (1 .. 4), told as four figures each");
        TurnRounds x = new TurnRounds();
        is("the least", x.judge(1, 4000), NONE);
        is("the most", x.judge(4, 4000400040004000L), NONE);
        is("one below", x.judge(0, 0), BAD);
        is("one above", x.judge(5, 0), BAD);
        is("less than 0", x.judge(-1, 0), BAD);
        is("far below", x.judge(FAR_BELOW, 4000), BAD);
        is("far above", x.judge(FAR_ABOVE, 4000), BAD);
    }

    private void rowsTooLong() {
        says(19, "BAD: n, row (0 or more, 4 n figures at most).");
        TurnRounds x = new TurnRounds();
        for (int n = 1; n <= 4; n++) {
            is(n + ": 0", x.judge(n, 0), 0);
            is(n + ": less than 0", x.judge(n, -1), BAD);
            is(n + ": all nines", x.judge(n, ROW_ENDS[n] - 1), 0);
            is(n + ": a figure more", x.judge(n, ROW_ENDS[n]), BAD);
            is(n + ": far above", x.judge(n, Long.MAX_VALUE), BAD);
            is(n + ": far below", x.judge(n, Long.MIN_VALUE), BAD);
            is(n + ": 4000, but a figure ahead", x.judge(n, ROW_ENDS[n] + 4000), BAD);
            is(n + ": 4000 less what wraps an int", x.judge(n, 4000 - (1L << 32)), BAD);
        }
        is("4000 and what wraps an int", x.judge(1, 4000 + (1L << 32)), BAD);
    }

    private void leadingNoughts() {
        says(19, "4 n figures at most");
        TurnRounds x = new TurnRounds();
        is("three figures are a kind of 0", x.judge(1, 400), 0);
        is("four figures for two doings", x.judge(2, 4000), 0);
        is("five figures for two doings", x.judge(2, 14000), 0);
        is("seven figures", x.judge(2, 4004000), 0);
        is("eight figures", x.judge(2, 40004000), NONE);
    }

    private void firstPlace() {
        says(19, "the place of the first that can not be (or is not so); NONE: none.");
        TurnRounds x = new TurnRounds();
        is("the first", x.judge(4, 8000400040004000L), 0);
        is("the second", x.judge(4, 4000800040004000L), 1);
        is("the third", x.judge(4, 4000400080004000L), 2);
        is("the last", x.judge(4, 4000400040008000L), 3);
        is("of two the first", x.judge(4, 4000800040008000L), 1);
        is("of all the first", x.judge(4, 8000800080008000L), 0);
        says(19, "JUDGED; NONE.");
        is("none", x.judge(4, 4000400040004000L), NONE);
    }

    private void puts() {
        says(19, "(1, two DEPARTURES, MINUTES: PUT;");
        TurnRounds x = of("N6010");
        can(x, 1000, 1009, 1109, 1550, 1559, 1100);
        is("there already", x.judge(1, 1010), 0);
        canNot(x, 1013, 1600, 1060, 1660, 1900, 1090, 1999);
        canNot(new TurnRounds(), 1010, 1100);
        can(new TurnRounds(), 1000, 1009);
    }

    private void cuts() {
        says(19, "2, two, 0: CUT;");
        TurnRounds x = of("N6010557");
        can(x, 2010, 2550);
        is("not there", x.judge(1, 2000), 0);
        is("not there the other way", x.judge(1, 2100), 0);
        is("no such departure", x.judge(1, 2060), 0);
        is("no such departure", x.judge(1, 2600), 0);
        is("another figure than 0", x.judge(1, 2011), 0);
        is("another figure than 0", x.judge(1, 2557), 0);
        is("another figure than 0", x.judge(1, 2559), 0);
    }

    private void timings() {
        says(19, "3, two, MINUTES: TIMED;");
        TurnRounds x = of("N6010557");
        can(x, 3010, 3019, 3557, 3550, 3559);
        is("not there", x.judge(1, 3000), 0);
        is("not there the other way", x.judge(1, 3105), 0);
        is("no such departure", x.judge(1, 3060), 0);
        is("no such departure", x.judge(1, 3600), 0);
    }

    private void periods() {
        says(19, "4, 0, two figures a PERIOD: it is KEPT;");
        TurnRounds x = of(ring(7, 6));
        is("13/2 by 6", x.judge(1, 4006), 0);
        is("13/2 by 7", x.judge(1, 4007), NONE);
        is("the most", x.judge(1, 4020), NONE);
        is("21 is no period", x.judge(1, 4021), 0);
        is("99 is no period", x.judge(1, 4099), 0);
        is("another figure than 0", x.judge(1, 4107), 0);
        is("another figure than 0", x.judge(1, 4910), 0);
        is("no ring: the least", new TurnRounds().judge(1, 4000), NONE);
        is("7 by 7", of(ring(7, 7)).judge(1, 4007), NONE);
        is("7 by 6", of(ring(7, 7)).judge(1, 4006), 0);
    }

    private void criticals() {
        says(19, "5, two DEPARTURES, 0: the WAIT is CRITICAL;");
        TurnRounds x = of("N6015104553051");
        can(x, 5010, 5100);
        is("less than the pace", x.judge(1, 5550), 0);
        is("on no ring", x.judge(1, 5050), 0);
        is("not there", x.judge(1, 5000), 0);
        is("no such departure", x.judge(1, 5600), 0);
        is("no such departure", x.judge(1, 5060), 0);
        is("another figure than 0", x.judge(1, 5011), 0);
        is("another figure than 0", x.judge(1, 5109), 0);
        is("no ring", of("N2019").judge(1, 5010), 0);
    }

    private void times() {
        says(19, "6, a DEPARTURE, two figures: its TIME by a PERIOD of 10 is that;");
        TurnRounds x = of("N6019129239349459");
        for (int departure = 0; departure < 6; departure++) {
            is("no wait is longer than 10", x.judge(1, 6000 + 100 * departure), NONE);
            is("1 is not so", x.judge(1, 6001 + 100 * departure), 0);
        }
        is("by 0 it is 45", x.departs(5, 0), 45);
        is("by 10 it is 0, whatever was asked ahead of it", x.judge(1, 6500), NONE);
        is("99 is not so", x.judge(1, 6099), 0);
        is("45 is so by 0 alone", x.judge(1, 6545), 0);
        is("no such departure", x.judge(1, 6600), 0);
        is("no such departure", x.judge(1, 6900), 0);
        is("a slow ring", of("N1009").judge(1, 6000), NONE);
    }

    private void delays() {
        says(19, "7, a DEPARTURE, two figures d: DELAYED there by d, by a PERIOD of 10, it DIES)");
        TurnRounds x = allWaits(6, 9);
        is("0 is no delay", x.judge(1, 7000), 0);
        is("the least", x.judge(1, 7001), NONE);
        is("the most", x.judge(1, 7030), NONE);
        is("31 is no delay", x.judge(1, 7031), 0);
        is("99 is no delay", x.judge(1, 7099), 0);
        is("the last departure", x.judge(1, 7530), NONE);
        is("no such departure", x.judge(1, 7601), 0);
        is("no such departure", x.judge(1, 7901), 0);
        is("without waits", new TurnRounds().judge(1, 7030), NONE);
    }

    private void otherKinds() {
        says(19, "the place of the first that can not be");
        canNot(of("N6010"), 0, 1, 10, 100, 999, 8000, 8010, 8999, 9000, 9010, 9999);
    }

    private void oneUponTheOther() {
        says(19, "JUDGED: n doings (1 .. 4)");
        TurnRounds x = of("N2018106");
        is("put twice", x.judge(2, 10051005L), 1);
        is("put, then cut", x.judge(2, 10052000L), NONE);
        is("cut, then put", x.judge(2, 20101013L), NONE);
        is("cut, then timed", x.judge(2, 20103013L), 1);
        is("cut twice", x.judge(2, 20102010L), 1);
        is("put, then timed, then cut, then put", x.judge(4, 1005300920001007L), NONE);
        is("put a loop: the ring is not critical any more", x.judge(2, 10095010L), 1);
        is("timed down, and kept", x.judge(2, 30104003L), NONE);
        is("not kept without", x.judge(1, 4006), 0);
        is("cut, and 0 is kept", x.judge(2, 20104000L), NONE);
        is("what could be does not stand behind one that could not", x.judge(3, 300540002010L), 0);
        is("nothing has changed", x.minutes(0, 1), 8);
        is("nothing has changed", x.minutes(0, 0), NONE);
        is("no doings", x.about(7), 0);
    }
}
