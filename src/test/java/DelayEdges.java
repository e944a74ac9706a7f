/** The edges of promises 16 and 17: a delay that spreads, round by round, and dies, or does not. */
final class DelayEdges extends Edges {
    DelayEdges(Due due, Words words) {
        super(due, words);
    }

    @Override
    void testAll() {
        roundZero();
        rounds();
        delays();
        periods();
        departures();
        neverLessThanNothing();
        greatestOfSeveral();
        notKept();
        diesAtOnce();
        diesInTheLastRound();
        diesNever();
        diesOfWhat();
    }

    private void roundZero() {
        says(16, "in ROUND 0, all others 0");
        TurnRounds x = of("N3019109009");
        is("it", x.late(0, 30, 9, 0, 0), 30);
        is("the others", x.late(0, 30, 9, 1, 0), 0);
        is("the others", x.late(0, 30, 9, 2, 0), 0);
        is("without waits", new TurnRounds().late(0, 1, 0, 0, 0), 1);
        is("without waits in the next", new TurnRounds().late(0, 30, 0, 0, 1), 0);
    }

    private void rounds() {
        says(16, "DELAYED: how late a DEPARTURE is in a ROUND (0 .. 40).");
        TurnRounds x = of("N1009");
        is("the first", x.late(0, 30, 9, 0, 0), 30);
        is("the last", x.late(0, 30, 9, 0, 40), 30);
        is("one below", x.late(0, 30, 9, 0, -1), BAD);
        is("one above", x.late(0, 30, 9, 0, 41), BAD);
        is("far below", x.late(0, 30, 9, 0, FAR_BELOW), BAD);
        is("far above", x.late(0, 30, 9, 0, FAR_ABOVE), BAD);
        for (int round = 0; round <= 40; round++) {
            is("one less each round, never less than 0", x.late(0, 30, 10, 0, round), Math.max(0, 30 - round));
        }
        TurnRounds y = of(ring(9, 9));
        is("to and fro, round 39", y.late(0, 7, 9, 1, 39), 7);
        is("to and fro, round 40", y.late(0, 7, 9, 0, 40), 7);
        is("to and fro, round 40, the other", y.late(0, 7, 9, 1, 40), 0);
    }

    private void delays() {
        says(16, "DELAYED by a PERIOD that is KEPT, by d MINUTES (1 .. 30) at a DEPARTURE");
        TurnRounds x = of("N1009");
        is("the least", x.late(0, 1, 9, 0, 1), 1);
        is("the most", x.late(0, 30, 9, 0, 1), 30);
        is("one below", x.late(0, 0, 9, 0, 1), BAD);
        is("less than 0", x.late(0, -1, 9, 0, 1), BAD);
        is("one above", x.late(0, 31, 9, 0, 1), BAD);
        is("far below", x.late(0, FAR_BELOW, 9, 0, 1), BAD);
        is("far above", x.late(0, FAR_ABOVE, 9, 0, 1), BAD);
    }

    private void periods() {
        says(16, "BAD: d, period, round");
        TurnRounds x = of("N2015");
        is("by 0", x.late(0, 30, 0, 1, 1), 30);
        is("by 20", x.late(0, 30, 20, 1, 1), 15);
        is("one below", x.late(0, 30, -1, 1, 1), BAD);
        is("one above", x.late(0, 30, 21, 1, 1), BAD);
        is("far below", x.late(0, 30, FAR_BELOW, 1, 1), BAD);
        is("far above", x.late(0, 30, FAR_ABOVE, 1, 1), BAD);
    }

    private void departures() {
        says(16, "UNKNOWN: at, departure");
        TurnRounds x = of("N6", 559);
        is("the last", x.late(5, 3, 9, 5, 40), 3);
        is("the first", x.late(0, 3, 9, 0, 0), 3);
        is("at one below", x.late(-1, 3, 9, 0, 0), UNKNOWN);
        is("at one above", x.late(6, 3, 9, 0, 0), UNKNOWN);
        is("departure one below", x.late(0, 3, 9, -1, 0), UNKNOWN);
        is("departure one above", x.late(0, 3, 9, 6, 0), UNKNOWN);
        is("at far", x.late(FAR_ABOVE, 3, 9, 0, 0), UNKNOWN);
        is("departure far", x.late(0, 3, 9, FAR_BELOW, 0), UNKNOWN);
    }

    private void neverLessThanNothing() {
        says(16, "less SPARE of that WAIT (0, if none is more)");
        TurnRounds x = of("N3015125");
        is("more than is spare", x.late(0, 6, 10, 1, 1), 1);
        is("as much as is spare", x.late(0, 5, 10, 1, 1), 0);
        is("less than is spare", x.late(0, 4, 10, 1, 1), 0);
        is("nothing is left for the next", x.late(0, 6, 10, 2, 2), 0);
        is("something is left for the next", x.late(0, 11, 10, 2, 2), 1);
        is("what waits for nothing", x.late(0, 30, 10, 0, 1), 0);
    }

    private void greatestOfSeveral() {
        says(16, "a DEPARTURE is late by the greatest of what those from which it has WAITS were late "
                + "in the ROUND ahead");
        // By 9 there is nothing to spare over 1, 5 over 2.
        TurnRounds x = of("N4019024139239");
        is("over 1", x.late(0, 30, 9, 3, 2), 30);
        x.cut(1, 3);
        is("over 2", x.late(0, 30, 9, 3, 2), 25);
        is("not of a round further ahead", x.late(0, 30, 9, 3, 3), 0);
        is("not of the same round", x.late(0, 30, 9, 3, 1), 0);
    }

    private void notKept() {
        says(16, "LATE: it is not KEPT.");
        is("13/2 by 6", of(ring(7, 6)).late(0, 1, 6, 0, 0), LATE);
        is("13/2 by 7", of(ring(7, 6)).late(0, 1, 7, 0, 0), 1);
        is("7 by 7", of(ring(7, 7)).late(0, 1, 7, 0, 0), 1);
        says(17, "LATE: it is not KEPT.");
        is("13/2 by 6", of(ring(7, 6)).dies(0, 1, 6), LATE);
        is("13/2 by 7", of(ring(7, 6)).dies(0, 1, 7), 2);
        is("7 by 7", of(ring(7, 7)).dies(0, 1, 7), NONE);
        is("no ring by 0", of("N2019").dies(0, 1, 0), 2);
    }

    private void diesAtOnce() {
        says(17, "DIES: the first ROUND (1 .. 40) in which none is late; NONE.");
        is("without waits", new TurnRounds().dies(0, 30, 0), 1);
        is("all is spare", of("N1000").dies(0, 20, 20), 1);
        is("all but one", of("N1000").dies(0, 21, 20), 2);
        is("it is not late in round 1, but another", of("N2019").dies(0, 1, 9), 2);
    }

    private void diesInTheLastRound() {
        says(17, "the first ROUND (1 .. 40) in which none is late");
        // By 9 the ring has 3 to spare in its last wait: 30 are gone in ten turns of four rounds.
        TurnRounds x = of("N5019129239306409");
        is("round 39", x.late(0, 30, 9, 3, 39), 3);
        is("round 40", x.late(0, 30, 9, 0, 40), 0);
        is("in round 40", x.dies(0, 30, 9), 40);
        is("late in round 40, so not within", x.late(4, 30, 9, 3, 40), 3);
        is("not within 40 rounds", x.dies(4, 30, 9), NONE);
        is("one turn less", x.dies(4, 27, 9), 37);
        is("one more than that", x.dies(4, 28, 9), NONE);
    }

    private void diesNever() {
        says(17, "DIES; NONE.");
        is("nothing to spare", of("N1009").dies(0, 1, 9), NONE);
        is("one to spare", of("N1009").dies(0, 1, 10), 1);
        is("one to spare, the most", of("N1009").dies(0, 30, 10), 30);
        is("nothing to spare, but the delay is not there", of("N2009").dies(1, 30, 9), 1);
        is("nothing to spare, and it comes there", of("N2009101").dies(1, 30, 9), NONE);
        is("too little comes there", of("N2009101").dies(1, 8, 9), 1);
        is("enough comes there", of("N2009101").dies(1, 9, 9), NONE);
    }

    private void diesOfWhat() {
        says(17, "UNKNOWN: at; BAD: d, period;");
        TurnRounds x = of("N6");
        is("the last", x.dies(5, 30, 20), 1);
        is("at one above", x.dies(6, 1, 0), UNKNOWN);
        is("at one below", x.dies(-1, 1, 0), UNKNOWN);
        is("at far", x.dies(FAR_ABOVE, 1, 0), UNKNOWN);
        is("at far", x.dies(FAR_BELOW, 1, 0), UNKNOWN);
        is("d one below", x.dies(0, 0, 0), BAD);
        is("d the least", x.dies(0, 1, 0), 1);
        is("d the most", x.dies(0, 30, 0), 1);
        is("d one above", x.dies(0, 31, 0), BAD);
        is("d far", x.dies(0, FAR_BELOW, 0), BAD);
        is("d far", x.dies(0, FAR_ABOVE, 0), BAD);
        is("period one below", x.dies(0, 1, -1), BAD);
        is("period the least", x.dies(0, 1, 0), 1);
        is("period the most", x.dies(0, 1, 20), 1);
        is("period one above", x.dies(0, 1, 21), BAD);
        is("period far", x.dies(0, 1, FAR_BELOW), BAD);
        is("period far", x.dies(0, 1, FAR_ABOVE), BAD);
    }
}
