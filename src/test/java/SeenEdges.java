/** The edges of promises 21 to 23: what was seen, and where the delay began. */
final class SeenEdges extends Edges {
    SeenEdges(Due due, Words words) {
        super(due, words);
    }

    @Override
    void testAll() {
        rounds();
        lateOrNot();
        departures();
        sixAtMost();
        nothingSeen();
        beganWithNothingSeen();
        beganByOneDelayAlone();
        beganNowhere();
        beganFirst();
        asManyAsThereMayBe();
        asTheNetIsNow();
        noMoreDeparture();
        beganWhat();
    }

    private void rounds() {
        says(21, "UNKNOWN: departure; BAD: round (1 .. 9), was (0, 1); FULL: 6.");
        TurnRounds x = new TurnRounds();
        is("one below", x.see(0, 0, 0), BAD);
        is("less than 0", x.see(0, -1, 0), BAD);
        is("one above", x.see(0, 10, 0), BAD);
        is("far below", x.see(0, FAR_BELOW, 0), BAD);
        is("far above", x.see(0, FAR_ABOVE, 0), BAD);
        is("nothing of it is seen", x.about(8), 0);
        is("the first", x.see(0, 1, 0), 1);
        is("the last", x.see(0, 9, 0), 2);
        says(21, "a DEPARTURE was late in a ROUND (1 .. 9)");
        for (int round = 1; round <= 9; round++) {
            TurnRounds y = of("N1009");
            y.see(0, round, 1);
            is("late in round " + round + " if by more minutes", y.began(0), 30 - round);
            is("late in round " + round + " if by more minutes", y.began(1), round + 1);
        }
    }

    private void lateOrNot() {
        says(21, "was late in a ROUND (1 .. 9) (1), or was not (0)");
        TurnRounds x = of("N1005");
        is("one below", x.see(0, 1, -1), BAD);
        is("one above", x.see(0, 1, 2), BAD);
        is("far below", x.see(0, 1, FAR_BELOW), BAD);
        is("far above", x.see(0, 1, FAR_ABOVE), BAD);
        is("late", x.see(0, 1, 1), 1);
        is("by more than 5", x.began(0), 25);
        is("by more than 5", x.began(1), 6);
        x.unsee();
        is("not late", x.see(0, 1, 0), 1);
        is("by 5 or less", x.began(0), 5);
        is("by 5 or less", x.began(1), 1);
    }

    private void departures() {
        says(21, "UNKNOWN: departure;");
        TurnRounds x = of("N6");
        is("the first", x.see(0, 1, 0), 1);
        is("the last", x.see(5, 1, 0), 2);
        is("one below", x.see(-1, 1, 0), UNKNOWN);
        is("one above", x.see(6, 1, 0), UNKNOWN);
        is("far below", x.see(FAR_BELOW, 1, 0), UNKNOWN);
        is("far above", x.see(FAR_ABOVE, 1, 0), UNKNOWN);
        is("one above the only one", new TurnRounds().see(1, 1, 0), UNKNOWN);
    }

    private void sixAtMost() {
        says(21, "6 such at most, none at first.");
        TurnRounds x = of("N1009");
        is("none at first", x.about(8), 0);
        for (int i = 1; i <= 6; i++) {
            is("the same again", x.see(0, i, 1), i);
        }
        is("one more", x.see(0, 7, 1), FULL);
        is("one more of the same", x.see(0, 1, 1), FULL);
        is("six", x.about(8), 6);
        is("the seventh is not seen", x.began(1), 7);
        x.unsee();
        for (int i = 1; i <= 6; i++) {
            is("room again", x.see(0, 1, 0), i);
        }
        is("full again", x.see(0, 1, 0), FULL);
    }

    private void nothingSeen() {
        says(22, "Nothing is SEEN: how much there was.");
        TurnRounds x = new TurnRounds();
        is("nothing", x.unsee(), 0);
        x.see(0, 1, 1);
        is("one", x.unsee(), 1);
        is("nothing again", x.unsee(), 0);
        for (int i = 0; i < 7; i++) {
            x.see(0, 1, 1);
        }
        is("six", x.unsee(), 6);
        is("none", x.about(8), 0);
        is("all can be again", x.began(0), 30);
    }

    private void beganWithNothingSeen() {
        says(23, "BEGAN: DEPARTURES and delays (1 .. 30) by which all that is SEEN is so");
        for (int n = 1; n <= 6; n++) {
            TurnRounds x = of("N" + n);
            is(n + ": all", x.began(0), 30 * n);
            is(n + ": the first", x.began(1), 1);
        }
    }

    private void beganByOneDelayAlone() {
        says(23, "delays (1 .. 30) by which all that is SEEN is so");
        // Over 0, 1, 2, 3 there are 10, 10 and 9 to spare: 30 alone comes through.
        TurnRounds x = of("N4010120231");
        x.see(3, 3, 1);
        is("30 alone", x.began(0), 1);
        is("30 alone", x.began(1), 30);
        x.time(2, 3, 0);
        is("31 would be needed", x.began(0), 0);
        is("31 would be needed", x.began(1), NONE);
        TurnRounds y = of("N1009");
        y.see(0, 1, 0);
        is("1 alone", y.began(0), 1);
        is("1 alone", y.began(1), 1);
        says(23, "how many; the first (100 times the DEPARTURE, and the delay); NONE.");
        TurnRounds z = of("N6", 559);
        z.see(5, 9, 1);
        is("at the last departure, by 10 or more", z.began(0), 21);
        is("at the last departure, by 10 or more", z.began(1), 510);
    }

    private void beganNowhere() {
        says(23, "how many (what = 0), the first (1); NONE.");
        TurnRounds x = of("N1009");
        x.see(0, 1, 1);
        x.see(0, 1, 0);
        is("late and not late", x.began(0), 0);
        is("late and not late", x.began(1), NONE);
        TurnRounds y = new TurnRounds();
        y.see(0, 1, 1);
        is("what waits for nothing is not late", y.began(0), 0);
        is("what waits for nothing is not late", y.began(1), NONE);
    }

    private void beganFirst() {
        says(23, "the first (100 times the DEPARTURE, and the delay)");
        // Late at 2 in round 1: from 0 by more than 9, from 1 by more than 1.
        TurnRounds x = of("N3021129");
        x.see(2, 1, 1);
        is("how many", x.began(0), 21 + 29);
        is("the lower departure, though by more", x.began(1), 10);
        x.cut(0, 2);
        is("the other", x.began(0), 29);
        is("the other", x.began(1), 102);
    }

    private void asManyAsThereMayBe() {
        says(23, "6 such at most");
        TurnRounds x = of("N1009");
        for (int round = 1; round <= 5; round++) {
            x.see(0, round, 1);
        }
        is("five: by more than 5", x.began(0), 25);
        x.see(0, 9, 0);
        is("the sixth counts: by more than 5, not by more than 9", x.began(0), 4);
        is("the sixth counts", x.began(1), 6);
    }

    private void asTheNetIsNow() {
        says(23, "as THE NET is now");
        TurnRounds x = of("N2018");
        x.see(1, 1, 1);
        is("by more than 2", x.began(0), 28);
        x.time(0, 1, 0);
        is("by more than 10", x.began(0), 20);
        x.cut(0, 1);
        is("it waits for nothing", x.began(0), 0);
        x.undo();
        x.undo();
        is("as it was", x.began(0), 28);
        says(23, "(If a PERIOD of 10 is not KEPT, there are none.)");
        is("no ring of at most 9 minutes a wait breaks 10", allWaits(6, 9).judge(1, 4010), NONE);
        is("so there are some", allWaits(6, 9).began(0), 180);
    }

    private void noMoreDeparture() {
        says(23, "(a DEPARTURE that is no more is never late)");
        TurnRounds x = of("N6", 559);
        x.see(5, 1, 0);
        tell(x, "N5").net();
        is("was not late", x.began(0), 150);
        is("was not late", x.began(1), 1);
        x.unsee();
        is("can not be seen any more", x.see(5, 1, 0), UNKNOWN);
        is("the last that is", x.see(4, 1, 0), 1);
        tell(x, "N6559").net();
        x.unsee();
        x.see(5, 1, 1);
        is("late by more than 1", x.began(0), 29);
        tell(x, "N1009").net();
        is("was late", x.began(0), 0);
        is("was late", x.began(1), NONE);
        is("it is still seen", x.about(8), 1);
        tell(x, "N6559").net();
        is("there again", x.began(0), 29);
        is("there again", x.began(1), 502);
    }

    private void beganWhat() {
        says(23, "NONE. BAD.");
        TurnRounds x = new TurnRounds();
        is("0", x.began(0), 30);
        is("1", x.began(1), 1);
        is("one below", x.began(-1), BAD);
        is("one above", x.began(2), BAD);
        is("far below", x.began(FAR_BELOW), BAD);
        is("far above", x.began(FAR_ABOVE), BAD);
    }
}
