/** The edges of promises 1 to 7: a new object, the text, its faults, the net, what it is about. */
final class NetEdges extends Edges {
    NetEdges(Due due, Words words) {
        super(due, words);
    }

    @Override
    void testAll() {
        newObject();
        nothingAtFirst();
        letters();
        fullText();
        wiped();
        firstLetter();
        departureFigure();
        firstAndSecondFigure();
        minutesFigure();
        noneOrTwelveWaits();
        firstFault();
        waitsToAll();
        toldAlready();
        notAtItsEnd();
        noFault();
        netOfTheText();
        netLeavesAndForgets();
        netOfAFault();
        aboutWhat();
        aboutNothing();
        aboutAsMuchAsThereMayBe();
        savedOnNoRing();
        ringsOverDepartures();
        leastPeriod();
        minutesOfAWait();
        minutesOfNoDeparture();
    }

    private static int faultOf(String text) {
        return told(text).fault();
    }

    private static String shown(String text) {
        return "fault of '" + text + "'";
    }

    // ---- 1

    private void newObject() {
        says(1, "One departure that waits for nothing.");
        TurnRounds x = new TurnRounds();
        is("departures", x.about(0), 1);
        is("waits", x.about(1), 0);
        is("itself", x.minutes(0, 0), NONE);
        is("another", x.minutes(0, 1), UNKNOWN);
        is("another", x.minutes(1, 0), UNKNOWN);
        is("none lower", x.minutes(-1, 0), UNKNOWN);
        says(1, "At first n is 1, there is no WAIT.");
        is("it can wait for itself", x.put(0, 0, 0), 1);
        is("and for no other", x.put(1, 1, 0), UNKNOWN);
    }

    private void nothingAtFirst() {
        says(1, "One departure that waits for nothing.");
        TurnRounds x = new TurnRounds();
        for (int what = 1; what <= 9; what++) {
            is("about " + what, x.about(what), 0);
        }
        isFraction("pace", x::pace, NONE, NONE);
        is("departs by 0", x.departs(0, 0), 0);
        is("departs by 20", x.departs(0, 20), 0);
        is("dies", x.dies(0, 30, 0), 1);
        is("shorter", x.best(0), NONE);
        is("least", x.best(1), NONE);
        isFraction("share", upper -> x.share(0, upper), 0, 1);
        isFraction("dropped", upper -> x.dropped(0, 0, 0, upper), 1, 1);
        is("fault", x.fault(), 0);
        is("undo", x.undo(), LATE);
        is("slot 0", x.again(0), LATE);
        is("slot 1", x.again(1), LATE);
        is("unsee", x.unsee(), 0);
        is("wipe", x.wipe(), 0);
        is("seed", x.seed(1), 0);
        TurnRounds y = new TurnRounds();
        x.put(0, 0, 9);
        x.write('N');
        x.see(0, 1, 1);
        x.keep(0);
        for (int what = 1; what <= 9; what++) {
            is("another object is by itself: about " + what, y.about(what), 0);
        }
        is("another object is by itself: slot", y.again(0), LATE);
    }

    // ---- 2, 3

    private void letters() {
        says(2, "A letter (0 .. 255) comes behind THE TEXT: how long it is.");
        TurnRounds x = new TurnRounds();
        is("the lowest", x.write(0), 1);
        is("the highest", x.write(255), 2);
        is("one below", x.write(-1), BAD);
        is("one above", x.write(256), BAD);
        is("N and 256 is not N", x.write('N' + 256), BAD);
        is("N less 256 is not N", x.write('N' - 256), BAD);
        is("far below", x.write(FAR_BELOW), BAD);
        is("far above", x.write(FAR_ABOVE), BAD);
        is("the next one", x.write(1), 3);
        is("behind, not ahead", told("N1").fault(), NONE);
        is("behind, not ahead", told("1N").fault(), 0);
    }

    private void fullText() {
        says(2, "FULL: there are 64.");
        TurnRounds x = new TurnRounds();
        for (int i = 1; i <= 63; i++) {
            is("letter " + i, x.write('N'), i);
        }
        is("the last that is taken", x.write('N'), 64);
        is("one more", x.write('N'), FULL);
        is("and again", x.write(0), FULL);
        is("they are 64", x.about(9), 64);
        says(2, "THE TEXT is letters (64 at most).");
        is("all are wiped", x.wipe(), 64);
        for (int i = 1; i <= 64; i++) {
            is("room again", x.write(i), i);
        }
        is("full again", x.write(65), FULL);
    }

    private void wiped() {
        says(3, "THE TEXT is empty: how long it was.");
        TurnRounds x = new TurnRounds();
        is("nothing there", x.wipe(), 0);
        x.write('N');
        is("one letter", x.wipe(), 1);
        is("it is empty", x.about(9), 0);
        is("it is empty", x.fault(), 0);
        is("nothing there again", x.wipe(), 0);
        is("the first again", x.write('X'), 1);
        is("what was wiped is not there", x.fault(), 0);
        x = of("N2015");
        is("of a net", x.wipe(), 5);
        is("the net stays", x.minutes(0, 1), 5);
        is("the net stays", x.about(0), 2);
        is("no net of it", x.net(), LATE);
    }

    // ---- 4

    private void firstLetter() {
        says(4, "A NET is a TEXT: N, a figure n (1 .. 6), then WAITS");
        for (int letter = 0; letter <= 255; letter++) {
            TurnRounds x = new TurnRounds();
            x.write(letter);
            is("first letter " + letter, x.fault(), letter == 'N' ? 1 : 0);
        }
    }

    private void departureFigure() {
        says(4, "A NET is a TEXT: N, a figure n (1 .. 6), then WAITS");
        for (int letter = 0; letter <= 255; letter++) {
            TurnRounds x = told("N");
            x.write(letter);
            is("second letter " + letter, x.fault(), letter >= '1' && letter <= '6' ? NONE : 1);
        }
        says(4, "(6 at most)");
        is("six", told("N6").net(), 0);
        is("seven", told("N7").net(), LATE);
    }

    private void firstAndSecondFigure() {
        says(4, "each three figures: from, to (less than n), MINUTES.");
        for (int n = 1; n <= 6; n++) {
            for (int letter = 0; letter <= 255; letter++) {
                boolean isDeparture = letter >= '0' && letter < '0' + n;
                String from = "N" + n + (char) letter;
                is(n + ": from letter " + letter, faultOf(from), isDeparture ? 3 : 2);
                String to = "N" + n + (n - 1) + (char) letter;
                is(n + ": to letter " + letter, faultOf(to), isDeparture ? 4 : 3);
            }
        }
    }

    private void minutesFigure() {
        says(4, "of 0 .. 9 MINUTES");
        for (int letter = 0; letter <= 255; letter++) {
            boolean isFigure = letter >= '0' && letter <= '9';
            is("minutes letter " + letter, faultOf("N100" + (char) letter), isFigure ? NONE : 4);
        }
    }

    private void noneOrTwelveWaits() {
        says(4, "then WAITS, none or more (12 at most)");
        is("none", faultOf("N6"), NONE);
        is("one", faultOf(waits(6, 1)), NONE);
        is("twelve", faultOf(waits(6, 12)), NONE);
        is("twelve of four departures", faultOf(waits(4, 12)), NONE);
        is("a thirteenth", faultOf(waits(6, 13)), 38);
        for (int letter = 0; letter <= 255; letter++) {
            TurnRounds x = told(waits(6, 12));
            x.write(letter);
            is("behind twelve, letter " + letter, x.fault(), 38);
        }
        is("behind twelve all letters that there may be", faultOf(waits(6, 20) + "32"), 38);
    }

    private void firstFault() {
        says(4, "FAULT: the place of the first letter by which THE TEXT can be no NET, whatever came behind it");
        is("of two the first", faultOf("X9"), 0);
        is("of two the first", faultOf("N9X"), 1);
        is("of two the first", faultOf("N2X0Y"), 2);
        is("what is right behind it mends nothing", faultOf("N2901"), 2);
        is("what is right behind it mends nothing", faultOf("N2019X015"), 5);
        is("the first letter is place 0", faultOf("1"), 0);
        TurnRounds x = told("N2017");
        is("none", x.fault(), NONE);
        x.write('2');
        is("by one letter more", x.fault(), 5);
        x.write('0');
        is("and it stays", x.fault(), 5);
        says(4, "(its length set aside;");
        StringBuilder full = new StringBuilder("N2");
        while (full.length() < 64) {
            full.append('X');
        }
        is("as long as a text may be", faultOf(full.toString()), 2);
        is("the last place of a net", faultOf(waits(6, 12).substring(0, 37) + "X"), 37);
    }

    private void waitsToAll() {
        says(4, "so a first figure from which there are WAITS to all");
        for (int n = 1; n <= 6; n++) {
            String almost = waits(n, n - 1);
            String all = waits(n, n);
            is(n + ": to all but one", faultOf(almost + "0"), almost.length() + 1);
            is(n + ": to all", faultOf(all + "0"), all.length());
            if (n > 1) {
                is(n + ": from another", faultOf(all + "1"), all.length() + 1);
            }
        }
        is("all nine of three", faultOf(waits(3, 9)), NONE);
        is("all nine of three, and more", faultOf(waits(3, 9) + "2"), 29);
        is("to all, told among others", faultOf("N2000110010" + "0"), 11);
    }

    private void toldAlready() {
        says(4, "a second one to which there is one already)");
        is("the same", faultOf("N2010" + "01"), 6);
        is("the same, whatever its minutes", faultOf("N2010" + "015"), 6);
        is("not the other way", faultOf("N2010" + "103"), NONE);
        is("not itself", faultOf("N2010" + "003"), NONE);
        is("itself twice", faultOf("N2110" + "11"), 6);
        is("far ahead", faultOf("N6010121232343454505" + "01"), 21);
        says(4, "one at most for each two in that row");
        is("in that row", faultOf("N6050500"), NONE);
        is("in that row", faultOf("N6050500" + "500"), 9);
    }

    private void notAtItsEnd() {
        says(4, "its length, if it is only not at its end");
        is("empty", faultOf(""), 0);
        String text = waits(6, 12);
        for (int length = 0; length <= text.length(); length++) {
            boolean isEnd = length >= 2 && length % 3 == 2;
            is(shown(text.substring(0, length)), faultOf(text.substring(0, length)), isEnd ? NONE : length);
        }
    }

    private void noFault() {
        says(4, "its length, if it is only not at its end; NONE: none.");
        is("not at its end", faultOf("N10"), 3);
        is("at its end", faultOf("N1005"), NONE);
        says(4, "FAULT; NONE.");
        is("the least", faultOf("N1"), NONE);
        is("itself", faultOf("N1000"), NONE);
        is("all of one departure", faultOf("N1009"), NONE);
        is("the longest", faultOf(waits(6, 12)), NONE);
    }

    // ---- 5

    private void netOfTheText() {
        says(5, "how many WAITS.");
        is("none", told("N1").net(), 0);
        is("none of six departures", told("N6").net(), 0);
        is("one", told("N1000").net(), 1);
        TurnRounds x = told(waits(6, 12));
        is("twelve", x.net(), 12);
        for (int cell = 0; cell < 36; cell++) {
            is("cell " + cell, x.minutes(cell / 6, cell % 6), cell < 12 ? cell % 10 : NONE);
        }
        is("smaller", tell(x, "N1").net(), 0);
        is("smaller", x.about(0), 1);
        is("smaller", x.about(1), 0);
        is("what is no more", x.minutes(0, 1), UNKNOWN);
        is("greater again", tell(x, "N6").net(), 0);
        is("the waits do not come back", x.about(1), 0);
        is("the waits do not come back", x.minutes(0, 1), NONE);
    }

    private void netLeavesAndForgets() {
        says(5, "THE TEXT is THE NET (no DOINGS; what was kept is gone; SEEN, THE SEED stay)");
        TurnRounds x = of("N6");
        for (int cell = 0; cell < 15; cell++) {
            x.put(cell / 6, cell % 6, 1);
        }
        x.keep(0);
        x.keep(1);
        for (int i = 0; i < 6; i++) {
            x.see(5, 9, 0);
        }
        x.seed(Long.MIN_VALUE);
        is("doings", x.about(7), 14);
        is("the same text once more", x.net(), 0);
        is("no doings", x.about(7), 0);
        is("no doings", x.undo(), LATE);
        is("slot 0", x.again(0), LATE);
        is("slot 1", x.again(1), LATE);
        is("seen", x.about(8), 6);
        is("the text", x.about(9), 2);
        is("the seed", x.seed(0), Long.MIN_VALUE);
        is("kept anew", x.keep(1), 0);
        is("the other not", x.again(0), LATE);
        is("the one", x.again(1), 0);
    }

    private void netOfAFault() {
        says(5, "LATE: a FAULT.");
        is("nothing there", new TurnRounds().net(), LATE);
        is("only not at its end", told("N").net(), LATE);
        is("only not at its end", told("N20").net(), LATE);
        is("only not at its end", told("N201").net(), LATE);
        is("at its end", told("N2011").net(), 1);
        is("a letter more", told("N20111").net(), LATE);
        is("a thirteenth wait", told(waits(6, 13)).net(), LATE);
        is("to all", told("N10000").net(), LATE);
        is("told already", told("N2011012").net(), LATE);
    }

    // ---- 6

    private void aboutWhat() {
        says(6, "letters of THE TEXT (9). BAD.");
        TurnRounds x = new TurnRounds();
        is("the lowest", x.about(0), 1);
        is("the highest", x.about(9), 0);
        is("one below", x.about(-1), BAD);
        is("one above", x.about(10), BAD);
        is("far below", x.about(FAR_BELOW), BAD);
        is("far above", x.about(FAR_ABOVE), BAD);
    }

    private void aboutNothing() {
        says(6, "DEPARTURES (what = 0), WAITS (1), RINGS (2), SAVED (3), CRITICAL WAITS (4)");
        TurnRounds x = of("N6");
        int[] due = {6, 0, 0, 0, 0, 0, 0, 0, 0, 2};
        for (int what = 0; what < due.length; what++) {
            is("no waits, about " + what, x.about(what), due[what]);
        }
        x = of("N6019129239349459");
        int[] noRing = {6, 5, 0, 5, 0, 0, 0, 0, 0, 17};
        for (int what = 0; what < noRing.length; what++) {
            is("no ring, about " + what, x.about(what), noRing[what]);
        }
        x = of("N1000");
        int[] one = {1, 1, 1, 0, 1, 1, 0, 0, 0, 5};
        for (int what = 0; what < one.length; what++) {
            is("a ring of 0 minutes, about " + what, x.about(what), one[what]);
        }
    }

    private void aboutAsMuchAsThereMayBe() {
        says(6, "CRITICAL DEPARTURES (5: bits), the least PERIOD that is KEPT (6), DOINGS (7), SEEN (8)");
        TurnRounds x = allWaits(6, 9);
        for (int i = 1; i <= 7; i++) {
            x.see(5, 9, 1);
        }
        for (int i = 0; i < 65; i++) {
            x.write('N');
        }
        // Rings over k of 6 departures: 6, 15, 20, 15, 6, 1 sets, each with 1, 1, 2, 6, 24, 120 orders round.
        int[] due = {6, 36, 6 + 15 + 40 + 90 + 144 + 120, 0, 36, 63, 9, 14, 6, 64};
        for (int what = 0; what < due.length; what++) {
            is("about " + what, x.about(what), due[what]);
        }
        for (int departure = 0; departure < 6; departure++) {
            TurnRounds one = of("N6", 110 * departure + 3);
            is("the bit of " + departure, one.about(5), 1 << departure);
        }
    }

    private void savedOnNoRing() {
        says(6, "SAVED: how many WAITS are on no RING.");
        is("none there", of("N1").about(3), 0);
        is("itself is a ring", of("N1009").about(3), 0);
        is("one way", of("N2019").about(3), 1);
        is("both ways", of("N2019109").about(3), 0);
        is("between two rings", of("N4011101121231321").about(3), 1);
        is("off a ring, and on to one", of("N4011121211301").about(3), 2);
        TurnRounds x = of("N6");
        for (int from = 0; from < 6; from++) {
            for (int to = from + 1; to < 6; to++) {
                x.put(from, to, 1);
            }
        }
        is("fifteen, all ahead", x.about(3), 15);
        x.put(5, 0, 1);
        is("one back, and all are on rings", x.about(3), 0);
    }

    private void ringsOverDepartures() {
        says(6, "A RING is a row of WAITS, each from where the one ahead goes to, "
                + "the first from where the last goes to");
        is("one over itself", of("N1001").about(2), 1);
        is("one over two", of("N2011101").about(2), 1);
        is("one over six", of(ring(1, 1, 1, 1, 1, 1)).about(2), 1);
        is("two each way round", of("N3011121201021211101").about(2), 5);
        says(6, "that comes to no DEPARTURE twice.");
        is("two that share a departure are no third", of("N3011101121211").about(2), 2);
        is("all of one", allWaits(1, 0).about(2), 1);
        is("all of two", allWaits(2, 0).about(2), 3);
        is("all of three", allWaits(3, 0).about(2), 8);
        is("all of four", allWaits(4, 0).about(2), 24);
        is("all of five", allWaits(5, 0).about(2), 89);
    }

    private void leastPeriod() {
        says(6, "the least PERIOD that is KEPT (6)");
        is("no wait", of("N3").about(6), 0);
        is("no ring", of("N2019").about(6), 0);
        is("0", of("N1000").about(6), 0);
        is("1/6", of(ring(1, 0, 0, 0, 0, 0)).about(6), 1);
        is("5/6", of(ring(1, 1, 1, 1, 1, 0)).about(6), 1);
        is("1", of(ring(1, 1, 1, 1, 1, 1)).about(6), 1);
        is("7/6", of(ring(2, 1, 1, 1, 1, 1)).about(6), 2);
        is("53/6", of(ring(9, 9, 9, 9, 9, 8)).about(6), 9);
        is("9, the greatest", of(ring(9, 9, 9, 9, 9, 9)).about(6), 9);
        is("8 and 49/6", of(ring(9, 8, 8, 8, 8, 8), 8).about(6), 9);
        is("8 and 47/6", of(ring(7, 8, 8, 8, 8, 8), 8).about(6), 8);
    }

    // ---- 7

    private void minutesOfAWait() {
        says(7, "MINUTES of a WAIT; NONE: there is none.");
        TurnRounds x = of("N6000559054501");
        is("0 is not none", x.minutes(0, 0), 0);
        is("9", x.minutes(5, 5), 9);
        is("from 0 to 5", x.minutes(0, 5), 4);
        is("from 5 to 0", x.minutes(5, 0), 1);
        is("none", x.minutes(1, 1), NONE);
        is("none", x.minutes(0, 1), NONE);
    }

    private void minutesOfNoDeparture() {
        says(7, "UNKNOWN: from, to are no DEPARTURES.");
        for (int n = 1; n <= 6; n++) {
            TurnRounds x = of("N" + n);
            is(n + ": the first", x.minutes(0, 0), NONE);
            is(n + ": the last", x.minutes(n - 1, n - 1), NONE);
            is(n + ": from one above", x.minutes(n, 0), UNKNOWN);
            is(n + ": to one above", x.minutes(0, n), UNKNOWN);
            is(n + ": from one below", x.minutes(-1, n - 1), UNKNOWN);
            is(n + ": to one below", x.minutes(n - 1, -1), UNKNOWN);
            is(n + ": neither", x.minutes(n, n), UNKNOWN);
            is(n + ": far", x.minutes(FAR_BELOW, FAR_ABOVE), UNKNOWN);
            is(n + ": far", x.minutes(0, FAR_BELOW), UNKNOWN);
            is(n + ": far", x.minutes(FAR_ABOVE, 0), UNKNOWN);
        }
    }
}
