import java.util.function.Supplier;

/**
 * Each refusal: the one that is told first where several could be, and that all that can be asked afterwards
 * answers as it did before.
 */
final class RefusalEdges extends Edges {
    RefusalEdges(Due due, Words words) {
        super(due, words);
    }

    @Override
    void testAll() {
        numbers();
        texts();
        nets();
        questions();
        puts();
        cuts();
        timings();
        undos();
        criticals();
        times();
        spares();
        delays();
        deaths();
        judgements();
        sights();
        chances();
        slots();
        fullText();
    }

    private static TurnRounds roomToSee() {
        return Busy.with(Busy.SEEN - 1, Busy.SEED, Busy.TEXT);
    }

    private static TurnRounds withoutDoings() {
        TurnRounds x = Busy.full();
        x.again(1);
        return x;
    }

    private static TurnRounds withText(String text) {
        return Busy.with(Busy.SEEN, Busy.SEED, text);
    }

    private static TurnRounds keptOnce(int slot) {
        TurnRounds x = tell(new TurnRounds(), "N3018126204117");
        x.net();
        x.keep(slot);
        x.put(0, 0, 3);
        x.seed(7);
        return x;
    }

    private void refuses(String what, int want, Call call) {
        refuses(what, want, Busy::full, call);
    }

    /** The call is refused so, and its object is as one that was never asked. */
    private void refuses(String what, int want, Supplier<TurnRounds> made, Call call) {
        is(what, call.on(made.get()), want);
        String before = Looks.at(made);
        String after = Looks.at(() -> {
            TurnRounds x = made.get();
            call.on(x);
            return x;
        });
        isSame(what + " changes nothing", after, before);
    }

    private void numbers() {
        says(1, "UNKNOWN -1 (there is no such DEPARTURE, WAIT, SLOT), BAD -2, LATE -3, FULL -4.");
        TurnRounds x = new TurnRounds();
        is("UNKNOWN, no such departure", x.minutes(1, 0), -1);
        is("UNKNOWN, no such slot", x.keep(2), -1);
        is("BAD", x.write(-1), -2);
        is("LATE", x.undo(), -3);
        for (int i = 0; i < 64; i++) {
            x.write('N');
        }
        is("FULL", x.write('N'), -4);
        says(1, "NONE is -9.");
        is("NONE", x.pace(true), -9);
        is("the constants", UNKNOWN == -1 && BAD == -2 && LATE == -3 && FULL == -4 && NONE == -9 ? 1 : 0, 1);
    }

    // ---- the net

    private void texts() {
        says(2, "A letter (0 .. 255) comes behind THE TEXT");
        refuses("write(-1)", BAD, x -> x.write(-1));
        refuses("write(256)", BAD, x -> x.write(256));
        refuses("write(far below)", BAD, x -> x.write(FAR_BELOW));
        refuses("write(far above)", BAD, x -> x.write(FAR_ABOVE));
    }

    private void fullText() {
        says(2, "BAD; FULL: there are 64.");
        StringBuilder all = new StringBuilder("N3015");
        while (all.length() < 64) {
            all.append('0');
        }
        Supplier<TurnRounds> full = () -> withText(all.toString());
        refuses("write('N')", FULL, full, x -> x.write('N'));
        refuses("write(0)", FULL, full, x -> x.write(0));
        refuses("write(255)", FULL, full, x -> x.write(255));
        says(2, "BAD; FULL");
        refuses("BAD ahead of FULL, write(-1)", BAD, full, x -> x.write(-1));
        refuses("BAD ahead of FULL, write(256)", BAD, full, x -> x.write(256));
    }

    private void nets() {
        says(5, "LATE: a FAULT.");
        String[] texts = {"", "N", "n3", "N0", "N7", "N30", "N301", "N301:", "N330", "N303", "N3012013", "N30110",
            waits(6, 13)};
        for (String text : texts) {
            refuses("net of '" + text + "'", LATE, () -> withText(text), TurnRounds::net);
        }
    }

    private void questions() {
        says(6, "BAD.");
        refuses("about(-1)", BAD, x -> x.about(-1));
        refuses("about(10)", BAD, x -> x.about(10));
        says(7, "UNKNOWN: from, to are no DEPARTURES.");
        refuses("minutes(-1, 0)", UNKNOWN, x -> x.minutes(-1, 0));
        refuses("minutes(3, 0)", UNKNOWN, x -> x.minutes(3, 0));
        refuses("minutes(0, -1)", UNKNOWN, x -> x.minutes(0, -1));
        refuses("minutes(0, 3)", UNKNOWN, x -> x.minutes(0, 3));
        says(18, "NONE. BAD.");
        refuses("best(-1)", BAD, x -> x.best(-1));
        refuses("best(2)", BAD, x -> x.best(2));
        says(20, "SHARE. UNKNOWN.");
        refuses("share(-1)", UNKNOWN, x -> x.share(-1, true));
        refuses("share(3)", UNKNOWN, x -> x.share(3, false));
        says(23, "NONE. BAD.");
        refuses("began(-1)", BAD, x -> x.began(-1));
        refuses("began(2)", BAD, x -> x.began(2));
    }

    // ---- doings

    private void puts() {
        says(8, "UNKNOWN: from, to; BAD: minutes; LATE: it is there.");
        refuses("from below", UNKNOWN, x -> x.put(-1, 0, 1));
        refuses("from above", UNKNOWN, x -> x.put(3, 0, 1));
        refuses("to below", UNKNOWN, x -> x.put(0, -1, 1));
        refuses("to above", UNKNOWN, x -> x.put(0, 3, 1));
        refuses("neither", UNKNOWN, x -> x.put(6, 6, 1));
        refuses("minutes below", BAD, x -> x.put(1, 1, -1));
        refuses("minutes above", BAD, x -> x.put(1, 1, 10));
        refuses("there", LATE, x -> x.put(0, 1, 9));
        refuses("there with other minutes", LATE, x -> x.put(0, 1, 0));
        says(8, "UNKNOWN: from, to; BAD: minutes; LATE");
        refuses("UNKNOWN ahead of BAD, from", UNKNOWN, x -> x.put(3, 0, 10));
        refuses("UNKNOWN ahead of BAD, to", UNKNOWN, x -> x.put(0, 3, -1));
        refuses("BAD ahead of LATE", BAD, x -> x.put(0, 1, 10));
        refuses("BAD ahead of LATE", BAD, x -> x.put(0, 1, -1));
        says(8, "Of several what is told first.");
        refuses("UNKNOWN ahead of all", UNKNOWN, x -> x.put(FAR_BELOW, FAR_ABOVE, FAR_ABOVE));
    }

    private void cuts() {
        says(9, "UNKNOWN: from, to; LATE: it is not there.");
        refuses("from below", UNKNOWN, x -> x.cut(-1, 0));
        refuses("from above", UNKNOWN, x -> x.cut(3, 0));
        refuses("to below", UNKNOWN, x -> x.cut(0, -1));
        refuses("to above", UNKNOWN, x -> x.cut(0, 3));
        refuses("far", UNKNOWN, x -> x.cut(FAR_ABOVE, FAR_BELOW));
        refuses("not there", LATE, x -> x.cut(1, 1));
        refuses("not there any more", LATE, x -> x.cut(2, 2));
    }

    private void timings() {
        says(10, "UNKNOWN: from, to; BAD: minutes; LATE: it is not there.");
        refuses("from below", UNKNOWN, x -> x.time(-1, 0, 1));
        refuses("from above", UNKNOWN, x -> x.time(3, 0, 1));
        refuses("to below", UNKNOWN, x -> x.time(0, -1, 1));
        refuses("to above", UNKNOWN, x -> x.time(0, 3, 1));
        refuses("minutes below", BAD, x -> x.time(0, 1, -1));
        refuses("minutes above", BAD, x -> x.time(0, 1, 10));
        refuses("not there", LATE, x -> x.time(1, 1, 5));
        says(10, "UNKNOWN: from, to; BAD: minutes; LATE");
        refuses("UNKNOWN ahead of BAD, from", UNKNOWN, x -> x.time(3, 0, 10));
        refuses("UNKNOWN ahead of BAD, to", UNKNOWN, x -> x.time(0, 3, -1));
        refuses("BAD ahead of LATE", BAD, x -> x.time(1, 1, 10));
        refuses("BAD ahead of LATE", BAD, x -> x.time(1, 1, -1));
    }

    private void undos() {
        says(11, "LATE: there is none.");
        refuses("a new object", LATE, TurnRounds::new, TurnRounds::undo);
        refuses("behind again", LATE, RefusalEdges::withoutDoings, TurnRounds::undo);
        refuses("behind net", LATE, () -> netOf("N3015"), TurnRounds::undo);
    }

    private static TurnRounds netOf(String text) {
        TurnRounds x = withText(text);
        x.net();
        return x;
    }

    // ---- rings, periods

    private void criticals() {
        says(13, "UNKNOWN: from, to; LATE: it is not there.");
        refuses("from below", UNKNOWN, x -> x.critical(-1, 0));
        refuses("from above", UNKNOWN, x -> x.critical(3, 0));
        refuses("to below", UNKNOWN, x -> x.critical(0, -1));
        refuses("to above", UNKNOWN, x -> x.critical(0, 3));
        refuses("not there", LATE, x -> x.critical(1, 1));
    }

    private void times() {
        says(14, "UNKNOWN; BAD: period (0 .. 20); LATE: it is not KEPT.");
        refuses("departure below", UNKNOWN, x -> x.departs(-1, 10));
        refuses("departure above", UNKNOWN, x -> x.departs(3, 10));
        refuses("period below", BAD, x -> x.departs(0, -1));
        refuses("period above", BAD, x -> x.departs(0, 21));
        refuses("not kept", LATE, x -> x.departs(0, 0));
        says(14, "UNKNOWN; BAD: period (0 .. 20); LATE");
        refuses("UNKNOWN ahead of BAD", UNKNOWN, x -> x.departs(3, 21));
        refuses("UNKNOWN ahead of BAD", UNKNOWN, x -> x.departs(-1, -1));
        refuses("UNKNOWN ahead of LATE", UNKNOWN, x -> x.departs(3, 0));
        refuses("BAD ahead of LATE: what is less than 0 is not kept", BAD, x -> x.departs(0, -1));
    }

    private void spares() {
        says(15, "UNKNOWN: from, to; BAD: period; LATE: there is no such WAIT, or it is not KEPT.");
        refuses("from below", UNKNOWN, x -> x.spare(-1, 0, 10));
        refuses("from above", UNKNOWN, x -> x.spare(3, 0, 10));
        refuses("to below", UNKNOWN, x -> x.spare(0, -1, 10));
        refuses("to above", UNKNOWN, x -> x.spare(0, 3, 10));
        refuses("period below", BAD, x -> x.spare(0, 1, -1));
        refuses("period above", BAD, x -> x.spare(0, 1, 21));
        refuses("no such wait", LATE, x -> x.spare(1, 1, 10));
        refuses("not kept", LATE, x -> x.spare(0, 1, 0));
        refuses("neither", LATE, x -> x.spare(1, 1, 0));
        says(15, "UNKNOWN: from, to; BAD: period; LATE");
        refuses("UNKNOWN ahead of BAD", UNKNOWN, x -> x.spare(3, 0, 21));
        refuses("UNKNOWN ahead of BAD", UNKNOWN, x -> x.spare(0, 3, -1));
        refuses("UNKNOWN ahead of LATE", UNKNOWN, x -> x.spare(0, 3, 0));
        refuses("BAD ahead of LATE, no such wait", BAD, x -> x.spare(1, 1, 21));
        refuses("BAD ahead of LATE, not kept", BAD, x -> x.spare(0, 1, -1));
    }

    private void delays() {
        says(16, "UNKNOWN: at, departure; BAD: d, period, round; LATE: it is not KEPT.");
        refuses("at below", UNKNOWN, x -> x.late(-1, 1, 10, 0, 0));
        refuses("at above", UNKNOWN, x -> x.late(3, 1, 10, 0, 0));
        refuses("departure below", UNKNOWN, x -> x.late(0, 1, 10, -1, 0));
        refuses("departure above", UNKNOWN, x -> x.late(0, 1, 10, 3, 0));
        refuses("d below", BAD, x -> x.late(0, 0, 10, 0, 0));
        refuses("d above", BAD, x -> x.late(0, 31, 10, 0, 0));
        refuses("period below", BAD, x -> x.late(0, 1, -1, 0, 0));
        refuses("period above", BAD, x -> x.late(0, 1, 21, 0, 0));
        refuses("round below", BAD, x -> x.late(0, 1, 10, 0, -1));
        refuses("round above", BAD, x -> x.late(0, 1, 10, 0, 41));
        refuses("not kept", LATE, x -> x.late(0, 1, 0, 0, 0));
        says(16, "UNKNOWN: at, departure; BAD: d, period, round; LATE");
        refuses("UNKNOWN at ahead of BAD", UNKNOWN, x -> x.late(3, 0, 21, 0, 41));
        refuses("UNKNOWN departure ahead of BAD d", UNKNOWN, x -> x.late(0, 31, 10, 3, 0));
        refuses("UNKNOWN departure ahead of BAD period", UNKNOWN, x -> x.late(0, 1, 21, 3, 0));
        refuses("UNKNOWN departure ahead of BAD round", UNKNOWN, x -> x.late(0, 1, 10, 3, 41));
        refuses("UNKNOWN ahead of LATE", UNKNOWN, x -> x.late(0, 1, 0, 3, 0));
        refuses("BAD d ahead of LATE", BAD, x -> x.late(0, 31, 0, 0, 0));
        refuses("BAD period ahead of LATE", BAD, x -> x.late(0, 1, -1, 0, 0));
        refuses("BAD round ahead of LATE", BAD, x -> x.late(0, 1, 0, 0, 41));
    }

    private void deaths() {
        says(17, "UNKNOWN: at; BAD: d, period; LATE: it is not KEPT.");
        refuses("at below", UNKNOWN, x -> x.dies(-1, 1, 10));
        refuses("at above", UNKNOWN, x -> x.dies(3, 1, 10));
        refuses("d below", BAD, x -> x.dies(0, 0, 10));
        refuses("d above", BAD, x -> x.dies(0, 31, 10));
        refuses("period below", BAD, x -> x.dies(0, 1, -1));
        refuses("period above", BAD, x -> x.dies(0, 1, 21));
        refuses("not kept", LATE, x -> x.dies(0, 1, 0));
        says(17, "UNKNOWN: at; BAD: d, period; LATE");
        refuses("UNKNOWN ahead of BAD d", UNKNOWN, x -> x.dies(3, 0, 10));
        refuses("UNKNOWN ahead of BAD period", UNKNOWN, x -> x.dies(3, 1, 21));
        refuses("UNKNOWN ahead of LATE", UNKNOWN, x -> x.dies(3, 1, 0));
        refuses("BAD d ahead of LATE", BAD, x -> x.dies(0, 31, 0));
        refuses("BAD period ahead of LATE", BAD, x -> x.dies(0, 1, -1));
    }

    private void judgements() {
        says(19, "BAD: n, row (0 or more, 4 n figures at most).");
        refuses("n below", BAD, x -> x.judge(0, 0));
        refuses("n above", BAD, x -> x.judge(5, 1000));
        refuses("row below", BAD, x -> x.judge(1, -1));
        refuses("row above", BAD, x -> x.judge(1, 12010));
        refuses("row above", BAD, x -> x.judge(4, 12010201020102010L));
        refuses("both", BAD, x -> x.judge(5, -1));
    }

    // ---- seen, chances, slots

    private void sights() {
        says(21, "UNKNOWN: departure; BAD: round (1 .. 9), was (0, 1); FULL: 6.");
        Supplier<TurnRounds> room = RefusalEdges::roomToSee;
        refuses("departure below", UNKNOWN, room, x -> x.see(-1, 1, 0));
        refuses("departure above", UNKNOWN, room, x -> x.see(3, 1, 0));
        refuses("round below", BAD, room, x -> x.see(0, 0, 0));
        refuses("round above", BAD, room, x -> x.see(0, 10, 0));
        refuses("was below", BAD, room, x -> x.see(0, 1, -1));
        refuses("was above", BAD, room, x -> x.see(0, 1, 2));
        refuses("UNKNOWN ahead of BAD round", UNKNOWN, room, x -> x.see(3, 0, 0));
        refuses("UNKNOWN ahead of BAD was", UNKNOWN, room, x -> x.see(3, 1, 2));
        is("room for one", roomToSee().see(0, 1, 1), 6);
        refuses("full", FULL, x -> x.see(0, 1, 1));
        refuses("full, the same again", FULL, x -> x.see(1, 4, 0));
        says(21, "BAD: round (1 .. 9), was (0, 1); FULL");
        refuses("UNKNOWN ahead of FULL", UNKNOWN, x -> x.see(3, 1, 1));
        refuses("BAD round ahead of FULL", BAD, x -> x.see(0, 10, 1));
        refuses("BAD round ahead of FULL", BAD, x -> x.see(0, 0, 1));
        refuses("BAD was ahead of FULL", BAD, x -> x.see(0, 1, 2));
        refuses("BAD was ahead of FULL", BAD, x -> x.see(0, 1, -1));
    }

    private void chances() {
        says(24, "UNKNOWN; BAD: period (0 .. 20), x.");
        refuses("departure below", UNKNOWN, x -> x.dropped(-1, 0, 0, true));
        refuses("departure above", UNKNOWN, x -> x.dropped(3, 0, 0, true));
        refuses("period below", BAD, x -> x.dropped(0, -1, 0, true));
        refuses("period above", BAD, x -> x.dropped(0, 21, 0, false));
        refuses("x below", BAD, x -> x.dropped(0, 0, -1, true));
        refuses("x above", BAD, x -> x.dropped(0, 0, 11, false));
        refuses("UNKNOWN ahead of BAD period", UNKNOWN, x -> x.dropped(3, 21, 0, true));
        refuses("UNKNOWN ahead of BAD x", UNKNOWN, x -> x.dropped(3, 0, 11, true));
        says(26, "DRAWN. BAD: m.");
        refuses("m below", BAD, x -> x.drawn(0));
        refuses("m above", BAD, x -> x.drawn(21));
        refuses("m far below", BAD, x -> x.drawn(FAR_BELOW));
        refuses("m far above", BAD, x -> x.drawn(FAR_ABOVE));
    }

    private void slots() {
        says(27, "They are kept: WAITS. UNKNOWN.");
        refuses("keep below", UNKNOWN, x -> x.keep(-1));
        refuses("keep above", UNKNOWN, x -> x.keep(2));
        refuses("keep far", UNKNOWN, x -> x.keep(FAR_ABOVE));
        says(28, "UNKNOWN; LATE: none were kept.");
        refuses("again below", UNKNOWN, x -> x.again(-1));
        refuses("again above", UNKNOWN, x -> x.again(2));
        refuses("again far", UNKNOWN, x -> x.again(FAR_BELOW));
        refuses("none kept in 0", LATE, () -> keptOnce(1), x -> x.again(0));
        refuses("none kept in 1", LATE, () -> keptOnce(0), x -> x.again(1));
        refuses("UNKNOWN, and none kept", UNKNOWN, () -> keptOnce(0), x -> x.again(2));
    }
}
