/** The edges of promises 8 to 11, 27 and 28: waits put, cut and timed, all undone, and what is kept. */
final class DoingEdges extends Edges {
    DoingEdges(Due due, Words words) {
        super(due, words);
    }

    @Override
    void testAll() {
        itself();
        oneForEachTwo();
        putMinutes();
        asManyAsThereMayBe();
        cutToNothing();
        timedTheSame();
        nothingToUndo();
        theFirstIsForgotten();
        eachKindIsUndone();
        roomInTheRow();
        slots();
        keptNothing();
        keptAnew();
        noDoingsWhenOneGoesOn();
        noneWereKept();
    }

    private void itself() {
        says(8, "WAITS go from one to one (it may be itself)");
        TurnRounds x = of("N6");
        is("the first for itself", x.put(0, 0, 1), 1);
        is("the last for itself", x.put(5, 5, 1), 2);
        is("it is a ring", x.about(2), 2);
        is("cut", x.cut(5, 5), 1);
        is("timed", x.time(0, 0, 2), 1);
    }

    private void oneForEachTwo() {
        says(8, "one at most for each two in that row");
        TurnRounds x = of("N2");
        is("one", x.put(0, 1, 3), 1);
        is("the same", x.put(0, 1, 3), LATE);
        is("with other minutes", x.put(0, 1, 4), LATE);
        is("the other way", x.put(1, 0, 4), 2);
        is("as it was put", x.minutes(0, 1), 3);
        says(8, "PUT: a WAIT that is not there.");
        x.cut(0, 1);
        is("not there any more", x.put(0, 1, 0), 2);
        is("of 0 minutes it is there", x.put(0, 1, 0), LATE);
    }

    private void putMinutes() {
        says(8, "of 0 .. 9 MINUTES");
        TurnRounds x = of("N2");
        is("one below", x.put(0, 0, -1), BAD);
        is("one above", x.put(0, 0, 10), BAD);
        is("NONE is no number of minutes", x.put(0, 0, NONE), BAD);
        is("far below", x.put(0, 0, FAR_BELOW), BAD);
        is("far above", x.put(0, 0, FAR_ABOVE), BAD);
        is("none was put", x.about(1), 0);
        is("the least", x.put(0, 0, 0), 1);
        is("the most", x.put(1, 1, 9), 2);
        is("the least", x.minutes(0, 0), 0);
        is("the most", x.minutes(1, 1), 9);
    }

    private void asManyAsThereMayBe() {
        says(8, "PUT: how many WAITS there are.");
        TurnRounds x = of(waits(6, 12));
        for (int cell = 12; cell < 36; cell++) {
            is("wait " + cell, x.put(cell / 6, cell % 6, cell % 10), cell + 1);
        }
        for (int cell = 0; cell < 36; cell++) {
            is("each is there", x.put(cell / 6, cell % 6, 0), LATE);
        }
        is("36", x.about(1), 36);
        is("one less", x.cut(5, 5), 5);
        is("and 36 again", x.put(5, 5, 0), 36);
    }

    private void cutToNothing() {
        says(9, "CUT: its MINUTES.");
        TurnRounds x = of("N1000");
        is("of 0 minutes", x.cut(0, 0), 0);
        is("nothing is left", x.about(1), 0);
        says(9, "LATE: it is not there.");
        is("not there any more", x.cut(0, 0), LATE);
        is("never there", new TurnRounds().cut(0, 0), LATE);
        says(9, "CUT: a WAIT is gone.");
        x = of("N2019105");
        is("of 9", x.cut(0, 1), 9);
        is("gone", x.minutes(0, 1), NONE);
        is("the other way stays", x.minutes(1, 0), 5);
    }

    private void timedTheSame() {
        says(10, "TIMED: a WAIT gets other MINUTES (they may be the same).");
        TurnRounds x = of("N2014");
        is("the same", x.time(0, 1, 4), 4);
        is("it is a doing", x.about(7), 1);
        is("the least", x.time(0, 1, 0), 4);
        is("the most", x.time(0, 1, 9), 0);
        is("as it is", x.minutes(0, 1), 9);
        is("the waits are as many", x.about(1), 1);
        says(10, "of 0 .. 9 MINUTES");
        is("one below", x.time(0, 1, -1), BAD);
        is("one above", x.time(0, 1, 10), BAD);
        is("NONE is no number of minutes", x.time(0, 1, NONE), BAD);
        is("far below", x.time(0, 1, FAR_BELOW), BAD);
        is("far above", x.time(0, 1, FAR_ABOVE), BAD);
        says(10, "LATE: it is not there.");
        is("the other way", x.time(1, 0, 0), LATE);
        x.time(0, 1, 0);
        is("of 0 minutes it is there", x.time(0, 1, 0), 0);
        is("the doings that were taken", x.about(7), 5);
    }

    private void nothingToUndo() {
        says(11, "LATE: there is none.");
        TurnRounds x = new TurnRounds();
        is("none at first", x.undo(), LATE);
        x.put(0, 0, 4);
        x.put(0, 0, 5);
        is("what was refused is none", x.undo(), 0);
        is("none left", x.undo(), LATE);
        is("none left", x.about(7), 0);
        says(11, "The last DOING is undone: how many are left.");
        is("gone", x.minutes(0, 0), NONE);
        x.time(0, 0, 1);
        x.cut(0, 0);
        is("what was refused is none", x.undo(), LATE);
    }

    private void theFirstIsForgotten() {
        says(11, "are a row (14 at most; when it is full, the first one is forgotten)");
        TurnRounds x = of("N1000");
        for (int i = 1; i <= 14; i++) {
            x.time(0, 0, i % 10);
            is("doings", x.about(7), i);
        }
        x.time(0, 0, 7);
        is("one more, and it is 14", x.about(7), 14);
        for (int left = 13; left >= 0; left--) {
            is("left", x.undo(), left);
            is("as it was", x.minutes(0, 0), (left + 1) % 10);
        }
        is("the first was forgotten", x.undo(), LATE);
        is("what it did stays", x.minutes(0, 0), 1);
        TurnRounds y = of("N1000");
        for (int i = 1; i <= 14; i++) {
            y.time(0, 0, i % 10);
        }
        for (int left = 13; left >= 0; left--) {
            is("of 14 none is forgotten", y.undo(), left);
        }
        is("of 14 none is forgotten", y.minutes(0, 0), 0);
        says(11, "the first one is forgotten");
        for (int i = 0; i < 100; i++) {
            y.time(0, 0, i % 10);
        }
        is("of a hundred the last 14 are left", y.about(7), 14);
        for (int left = 13; left >= 0; left--) {
            is("left", y.undo(), left);
        }
        is("as it was behind 86", y.minutes(0, 0), 5);
    }

    private void eachKindIsUndone() {
        says(11, "the last one can be undone.");
        TurnRounds x = of("N2010104");
        x.cut(0, 1);
        is("a cut", x.undo(), 0);
        is("of 0 minutes it is there again", x.minutes(0, 1), 0);
        x.put(0, 0, 0);
        is("a put", x.undo(), 0);
        is("not there", x.minutes(0, 0), NONE);
        x.time(1, 0, 9);
        is("a timing", x.undo(), 0);
        is("as it was", x.minutes(1, 0), 4);
        x.time(1, 0, 4);
        is("a timing to the same", x.undo(), 0);
        is("as it was", x.minutes(1, 0), 4);
        x.cut(0, 1);
        x.put(0, 1, 7);
        x.time(0, 1, 8);
        x.cut(0, 1);
        int[] before = {8, 7, NONE, 0};
        for (int i = 0; i < 4; i++) {
            is("one upon the other", x.undo(), 3 - i);
            is("one upon the other", x.minutes(0, 1), before[i]);
        }
        is("the waits", x.about(1), 2);
    }

    private void roomInTheRow() {
        says(11, "DOINGS (PUT, CUT, TIMED) are a row (14 at most;");
        TurnRounds x = of("N1000");
        for (int i = 1; i <= 15; i++) {
            x.time(0, 0, i % 10);
        }
        x.undo();
        x.undo();
        x.time(0, 0, 9);
        is("room for one", x.about(7), 13);
        x.time(0, 0, 8);
        is("full", x.about(7), 14);
        for (int left = 13; left >= 0; left--) {
            is("left", x.undo(), left);
        }
        is("only the very first was forgotten", x.minutes(0, 0), 1);
        x.cut(0, 0);
        x.put(0, 0, 2);
        x.time(0, 0, 3);
        is("all three kinds are counted", x.about(7), 3);
    }

    // ---- 27, 28

    private void slots() {
        says(27, "SLOTS 0 .. 1 keep WAITS");
        TurnRounds x = of("N2013");
        is("one below", x.keep(-1), UNKNOWN);
        is("one above", x.keep(2), UNKNOWN);
        is("far below", x.keep(FAR_BELOW), UNKNOWN);
        is("far above", x.keep(FAR_ABOVE), UNKNOWN);
        is("the first", x.keep(0), 1);
        x.put(1, 0, 4);
        is("the last", x.keep(1), 2);
        x.put(1, 1, 5);
        is("the first has its own", x.again(0), 1);
        is("the last has its own", x.again(1), 2);
        says(28, "They are as they were kept: WAITS.");
        is("below", x.again(-1), UNKNOWN);
        is("above", x.again(2), UNKNOWN);
        is("far below", x.again(FAR_BELOW), UNKNOWN);
        is("far above", x.again(FAR_ABOVE), UNKNOWN);
        is("as kept", x.minutes(0, 1), 3);
        is("as kept", x.minutes(1, 0), 4);
        is("as kept", x.minutes(1, 1), NONE);
    }

    private void keptNothing() {
        says(27, "They are kept: WAITS.");
        TurnRounds x = new TurnRounds();
        is("no waits", x.keep(0), 0);
        x.put(0, 0, 5);
        is("no waits, but kept", x.again(0), 0);
        is("gone", x.minutes(0, 0), NONE);
        TurnRounds y = allWaits(6, 9);
        is("all that there may be", y.keep(1), 36);
        for (int cell = 0; cell < 36; cell++) {
            y.cut(cell / 6, cell % 6);
        }
        is("all that there may be", y.again(1), 36);
        for (int cell = 0; cell < 36; cell++) {
            is("each", y.minutes(cell / 6, cell % 6), 9);
        }
    }

    private void keptAnew() {
        says(27, "They are kept: WAITS.");
        TurnRounds x = of("N2013");
        x.keep(0);
        x.put(0, 0, 0);
        is("doings stay", x.keep(0), 2);
        is("doings stay", x.about(7), 1);
        is("and can be undone", x.undo(), 0);
        is("anew, not as at first", x.again(0), 2);
        x.time(0, 1, 9);
        x.cut(0, 0);
        is("doings change nothing that is kept", x.again(0), 2);
        is("doings change nothing that is kept", x.minutes(0, 1), 3);
        is("more than once", x.again(0), 2);
    }

    private void noDoingsWhenOneGoesOn() {
        says(28, "(no DOINGS when one goes on).");
        TurnRounds x = of("N2013");
        x.keep(1);
        for (int i = 0; i < 14; i++) {
            x.time(0, 1, 9);
        }
        x.see(1, 9, 1);
        x.seed(-1);
        is("again", x.again(1), 1);
        is("no doings", x.about(7), 0);
        is("no doings", x.undo(), LATE);
        is("seen", x.about(8), 1);
        is("letters", x.about(9), 5);
        is("departures", x.about(0), 2);
        is("seed", x.seed(0), -1);
    }

    private void noneWereKept() {
        says(28, "UNKNOWN; LATE: none were kept.");
        TurnRounds x = of("N2013");
        is("neither", x.again(0), LATE);
        is("neither", x.again(1), LATE);
        x.keep(0);
        is("the other", x.again(1), LATE);
        is("it", x.again(0), 1);
        x.net();
        is("gone by a net", x.again(0), LATE);
        is("no such slot", x.again(2), UNKNOWN);
    }
}
