/** Each promise by itself: ordinary inputs, the edges that the document names, wrong inputs. */
public final class PromiseTest {
    private static final int UNKNOWN = TurnRounds.UNKNOWN, BAD = TurnRounds.BAD, LATE = TurnRounds.LATE,
            FULL = TurnRounds.FULL, NONE = TurnRounds.NONE;
    private static final int[] NO_DEPARTURES = {-1, 6, 36, -9, Integer.MIN_VALUE, Integer.MAX_VALUE};

    private static final Due DUE = new Due("PromiseTest");

    private PromiseTest() {
    }

    public static void main(String[] args) {
        newObject();
        write();
        wipe();
        fault();
        net();
        about();
        minutes();
        put();
        cut();
        time();
        undo();
        pace();
        critical();
        departs();
        spare();
        late();
        dies();
        best();
        judge();
        share();
        see();
        unsee();
        began();
        dropped();
        seed();
        drawn();
        keep();
        again();
        refusalsChangeNothing();
        DUE.end();
    }

    private static void is(String what, long got, long want) {
        DUE.is(what, got, want);
    }

    private static TurnRounds tell(TurnRounds x, String text) {
        x.wipe();
        for (int i = 0; i < text.length(); i++) {
            x.write(text.charAt(i));
        }
        return x;
    }

    private static TurnRounds of(String text) {
        TurnRounds x = tell(new TurnRounds(), text);
        DUE.is("net of " + text, x.net(), (text.length() - 2) / 3);
        return x;
    }

    private static int faultOf(String text) {
        return tell(new TurnRounds(), text).fault();
    }

    private static String waits(int n, int count) {
        StringBuilder text = new StringBuilder("N").append(n);
        for (int i = 0; i < count; i++) {
            text.append(i / n).append(i % n).append(i % 10);
        }
        return text.toString();
    }

    private static void newObject() {
        TurnRounds x = new TurnRounds();
        int[] first = {1, 0, 0, 0, 0, 0, 0, 0, 0, 0};
        for (int what = 0; what < first.length; what++) {
            is("1 about " + what, x.about(what), first[what]);
        }
        is("1 minutes", x.minutes(0, 0), NONE);
        is("1 seed", x.seed(0), 0);
        is("1 again 0", x.again(0), LATE);
        is("1 again 1", x.again(1), LATE);
        is("1 undo", x.undo(), LATE);
    }

    private static void write() {
        TurnRounds x = new TurnRounds();
        is("2 below", x.write(-1), BAD);
        is("2 above", x.write(256), BAD);
        is("2 first", x.write(0), 1);
        is("2 second", x.write(255), 2);
        for (int i = 3; i <= 64; i++) {
            is("2 letter " + i, x.write('N'), i);
        }
        is("2 65th", x.write('N'), FULL);
        is("2 BAD ahead of FULL", x.write(256), BAD);
        is("2 length", x.about(9), 64);
    }

    private static void wipe() {
        TurnRounds x = of("N2010");
        is("3 wipe", x.wipe(), 5);
        is("3 again", x.wipe(), 0);
        is("3 length", x.about(9), 0);
        is("3 the net stays", x.minutes(0, 1), 0);
        is("3 fault", x.fault(), 0);
    }

    private static void fault() {
        String[] texts = {"", "N", "N1", "N6", "N2010", "N2010110", "N1000", "n", "X1", "NN", "N0", "N7", "N9",
            "N2 ", "N2/", "N22", "N2:", "N20", "N202", "N200", "N200:", "N200/", "N200a", "N2001",
            "N20010", "N200100", "N2001011", "N20010110", "N20010111", "N200101112", "N200101111", "N2001011113",
            "N10000", "N1000X", "N60", "N65", "N66", "N656", "N655", "N6559"};
        int[] due = {0, 1, NONE, NONE, NONE, NONE, NONE, 0, 0, 1, 1, 1, 1,
            2, 2, 2, 2, 3, 3, 4, 4, 4, 4, NONE,
            6, 6, NONE, 8, 9, 9, 10, NONE,
            5, 5, 3, 3, 2, 3, 4, NONE};
        for (int i = 0; i < texts.length; i++) {
            is("4 fault of '" + texts[i] + "'", faultOf(texts[i]), due[i]);
        }
        is("4 twelve", faultOf(waits(6, 12)), NONE);
        is("4 thirteen", faultOf(waits(6, 13)), 38);
        is("4 thirteenth begun", faultOf(waits(6, 12) + "2"), 38);
        is("4 behind twelve any letter", faultOf(waits(6, 12) + "N"), 38);
        is("4 all nine", faultOf(waits(3, 9)), NONE);
        is("4 all nine and more", faultOf(waits(3, 9) + "0"), 29);
        is("4 first of several", faultOf("N2X0Y"), 2);
        is("4 letters far off", faultOf("N2" + (char) 255), 2);
        TurnRounds x = tell(new TurnRounds(), "N2001010110113");
        is("4 a wait told twice", x.fault(), 12);
        is("4 nothing changes", x.fault(), 12);
        is("4 nothing changes", x.about(0), 1);
    }

    private static void net() {
        TurnRounds x = new TurnRounds();
        is("5 empty", x.net(), LATE);
        is("5 not at its end", tell(x, "N201").net(), LATE);
        is("5 a fault", tell(x, "N2012X").net(), LATE);
        is("5 as it was", x.about(0), 1);
        x = of("N2013103");
        is("5 letters stay", x.about(9), 8);
        x.put(0, 0, 9);
        x.keep(0);
        x.keep(1);
        x.see(1, 2, 1);
        x.seed(77);
        is("5 refused", tell(x, "N").net(), LATE);
        is("5 refused: doings", x.about(7), 1);
        is("5 refused: kept", x.again(1), 3);
        x.put(1, 1, 4);
        is("5 no waits", tell(x, "N3").net(), 0);
        is("5 departures", x.about(0), 3);
        is("5 doings", x.about(7), 0);
        is("5 undo", x.undo(), LATE);
        is("5 kept 0", x.again(0), LATE);
        is("5 kept 1", x.again(1), LATE);
        is("5 seen stays", x.about(8), 1);
        is("5 seed stays", x.seed(0), 77);
        is("5 the same text again", tell(x, "N1009").net(), 1);
        is("5 once more", x.net(), 1);
        is("5 minutes", x.minutes(0, 0), 9);
        is("5 smaller", x.minutes(0, 1), UNKNOWN);
    }

    private static void about() {
        TurnRounds x = of("N5018102125346444");
        // Rings: 0-1 (mean 5), 4 (mean 4); 1-2 and 3-4 lie on none.
        int[] due = {5, 5, 2, 2, 2, 3, 5, 0, 0, 17};
        for (int what = 0; what < due.length; what++) {
            is("6 about " + what, x.about(what), due[what]);
        }
        is("6 below", x.about(-1), BAD);
        is("6 above", x.about(10), BAD);
        is("6 far", x.about(Integer.MIN_VALUE), BAD);
        x.put(2, 2, 5);
        x.see(3, 1, 0);
        is("6 like means: waits", x.about(4), 3);
        is("6 like means: departures", x.about(5), 7);
        is("6 doings", x.about(7), 1);
        is("6 seen", x.about(8), 1);
        x.time(0, 1, 9);
        is("6 the period is no less than 11/2", x.about(6), 6);
        x = of("N6");
        for (int from = 0; from < 6; from++) {
            for (int to = 0; to < 6; to++) {
                is("6 put", x.put(from, to, 9), 6 * from + to + 1);
            }
        }
        is("6 all rings", x.about(2), 415);
        is("6 all critical", x.about(4), 36);
        is("6 all departures", x.about(5), 63);
        is("6 none saved", x.about(3), 0);
        is("6 period", x.about(6), 9);
        is("6 rings do not save what leads away", of("N3011102121").about(3), 1);
        x = of("N3019129");
        is("6 no ring", x.about(2), 0);
        is("6 no ring: saved", x.about(3), 2);
        is("6 no ring: critical", x.about(4), 0);
        is("6 no ring: departures", x.about(5), 0);
        is("6 no ring: period", x.about(6), 0);
    }

    private static void minutes() {
        TurnRounds x = of("N6050559");
        is("7 none of it", x.minutes(0, 5), 0);
        is("7 itself", x.minutes(5, 5), 9);
        is("7 other way", x.minutes(5, 0), NONE);
        for (int no : NO_DEPARTURES) {
            is("7 from " + no, x.minutes(no, 0), UNKNOWN);
            is("7 to " + no, x.minutes(0, no), UNKNOWN);
        }
    }

    private static void put() {
        TurnRounds x = of("N3012");
        is("8 put", x.put(1, 0, 0), 2);
        is("8 other way", x.put(0, 0, 9), 3);
        is("8 there", x.put(0, 1, 2), LATE);
        is("8 below", x.put(1, 1, -1), BAD);
        is("8 above", x.put(1, 1, 10), BAD);
        is("8 BAD ahead of LATE", x.put(0, 1, 10), BAD);
        for (int no : NO_DEPARTURES) {
            is("8 from " + no, x.put(no, 0, 1), UNKNOWN);
            is("8 to " + no, x.put(0, no, 10), UNKNOWN);
        }
        is("8 the first too many", x.put(3, 0, 1), UNKNOWN);
        is("8 doings", x.about(7), 2);
        is("8 minutes", x.minutes(1, 0), 0);
        x = of(waits(4, 12));
        is("8 a net may have more than its text tells", x.put(3, 3, 1), 13);
    }

    private static void cut() {
        TurnRounds x = of("N2017103");
        is("9 cut", x.cut(0, 1), 7);
        is("9 gone", x.cut(0, 1), LATE);
        is("9 waits", x.about(1), 1);
        is("9 minutes", x.minutes(0, 1), NONE);
        is("9 doings", x.about(7), 1);
        for (int no : NO_DEPARTURES) {
            is("9 from " + no, x.cut(no, 0), UNKNOWN);
            is("9 to " + no, x.cut(0, no), UNKNOWN);
        }
        is("9 put again", x.put(0, 1, 0), 2);
        is("9 of none", x.cut(0, 1), 0);
    }

    private static void time() {
        TurnRounds x = of("N2017103");
        is("10 shorter", x.time(0, 1, 0), 7);
        is("10 longer", x.time(0, 1, 9), 0);
        is("10 the same", x.time(0, 1, 9), 9);
        is("10 doings", x.about(7), 3);
        is("10 not there", x.time(0, 0, 9), LATE);
        is("10 below", x.time(0, 1, -1), BAD);
        is("10 above", x.time(0, 1, 10), BAD);
        is("10 BAD ahead of LATE", x.time(0, 0, 10), BAD);
        for (int no : NO_DEPARTURES) {
            is("10 from " + no, x.time(no, 0, 10), UNKNOWN);
            is("10 to " + no, x.time(0, no, 1), UNKNOWN);
        }
        is("10 as it was", x.minutes(0, 1), 9);
        is("10 waits", x.about(1), 2);
    }

    private static void undo() {
        TurnRounds x = of("N2017103");
        is("11 none", x.undo(), LATE);
        x.put(1, 1, 4);
        x.cut(1, 0);
        x.time(0, 1, 2);
        is("11 timed", x.undo(), 2);
        is("11 minutes", x.minutes(0, 1), 7);
        is("11 cut", x.undo(), 1);
        is("11 minutes", x.minutes(1, 0), 3);
        is("11 put", x.undo(), 0);
        is("11 minutes", x.minutes(1, 1), NONE);
        is("11 none left", x.undo(), LATE);
        fullRow();
        for (int m = 0; m < 16; m++) {
            x.time(0, 1, m % 10);
        }
        is("11 fourteen", x.about(7), 14);
        for (int left = 13; left >= 0; left--) {
            is("11 left", x.undo(), left);
            is("11 minutes", x.minutes(0, 1), (left + 1) % 10);
        }
        is("11 forgotten", x.undo(), LATE);
    }

    /** 36 waits are put; the last 14 of them can be undone, the last one first. */
    private static void fullRow() {
        TurnRounds x = of("N6");
        for (int cell = 0; cell < 36; cell++) {
            x.put(cell / 6, cell % 6, cell % 10);
            is("11 doings", x.about(7), Math.min(14, cell + 1));
        }
        for (int cell = 35; cell >= 22; cell--) {
            is("11 there", x.minutes(cell / 6, cell % 6), cell % 10);
            is("11 undone", x.undo(), cell - 22);
            is("11 gone", x.minutes(cell / 6, cell % 6), NONE);
            is("11 one less", x.about(1), cell);
        }
        is("11 the others stay", x.undo(), LATE);
        is("11 the others stay", x.minutes(3, 3), 1);
    }

    private static void pace() {
        is("12 none", new TurnRounds().pace(true), NONE);
        is("12 none", of("N2019").pace(false), NONE);
        is("12 above", of("N3019128206").pace(true), 23);
        is("12 below", of("N3019128206").pace(false), 3);
        is("12 least terms", of("N4011121231306").pace(true), 9);
        is("12 least terms", of("N4011121231306").pace(false), 4);
        is("12 whole", of("N2014106").pace(false), 1);
        is("12 0", of("N2010100").pace(true), 0);
        is("12 0 by 1", of("N2010100").pace(false), 1);
        is("12 not the longest sum", of("N3011125201004").pace(true), 4);
        is("12 apart", of("N4019102237328").pace(true), 15);
        is("12 apart", of("N4019102237328").pace(false), 2);
        is("12 nothing behind a ring counts", of("N3001019129").pace(true), 1);
        is("12 six", of("N6019129239349459508").pace(true), 53);
        is("12 six", of("N6019129239349459508").pace(false), 6);
    }

    private static void critical() {
        TurnRounds x = of("N4015105225239336");
        is("13 behind", x.critical(2, 3), 0);
        is("13 less", x.critical(0, 1), 0);
        is("13 it", x.critical(3, 3), 1);
        x.time(3, 3, 5);
        is("13 like", x.critical(0, 1), 1);
        is("13 like", x.critical(1, 0), 1);
        is("13 like", x.critical(2, 2), 1);
        is("13 on no ring", x.critical(2, 3), 0);
        is("13 not there", x.critical(0, 0), LATE);
        for (int no : NO_DEPARTURES) {
            is("13 from " + no, x.critical(no, 0), UNKNOWN);
            is("13 to " + no, x.critical(0, no), UNKNOWN);
        }
        is("13 no ring", of("N2019").critical(0, 1), 0);
        is("13 between critical departures, but not so", of("N3004114015103").critical(0, 1), 1);
        is("13 between critical departures, but not so", of("N3004114015102").critical(0, 1), 0);
    }

    private static void departs() {
        TurnRounds x = of("N4019128231306");
        is("14 kept by 6, first", x.departs(0, 6), 0);
        is("14 second", x.departs(1, 6), 3);
        is("14 third", x.departs(2, 6), 5);
        is("14 fourth", x.departs(3, 6), 0);
        is("14 not kept", x.departs(0, 5), LATE);
        is("14 period 20", x.departs(2, 20), 0);
        is("14 above", x.departs(0, 21), BAD);
        is("14 below", x.departs(0, -1), BAD);
        is("14 UNKNOWN ahead of BAD", x.departs(4, 21), UNKNOWN);
        is("14 below", x.departs(-1, 6), UNKNOWN);
        x = of("N6019129239349459");
        is("14 no ring: by 0", x.departs(5, 0), 45);
        is("14 no ring: by 0", x.departs(0, 0), 0);
        is("14 no ring: by 8", x.departs(5, 8), 5);
    }

    private static void spare() {
        TurnRounds x = of("N4019128231306");
        is("15 none", x.spare(0, 1, 6), 0);
        is("15 some", x.spare(2, 3, 6), 0 + 6 - 5 - 1);
        is("15 by 10", x.spare(2, 3, 10), 9);
        is("15 by 20", x.spare(0, 1, 20), 11);
        is("15 not kept", x.spare(0, 1, 5), LATE);
        is("15 no such wait", x.spare(1, 0, 10), LATE);
        is("15 BAD ahead of LATE", x.spare(1, 0, 21), BAD);
        is("15 below", x.spare(0, 1, -1), BAD);
        for (int no : NO_DEPARTURES) {
            is("15 from " + no, x.spare(no, 0, 21), UNKNOWN);
            is("15 to " + no, x.spare(0, no, 10), UNKNOWN);
        }
        x = of("N3019025211");
        is("15 the greater wait tells the time", x.spare(0, 1, 2), 0);
        is("15 the other has to spare", x.spare(2, 1, 2), 7 + 2 - 3 - 1);
    }

    private static void late() {
        TurnRounds x = of("N3018127206");
        is("16 round 0", x.late(0, 30, 10, 0, 0), 30);
        is("16 round 0, others", x.late(0, 30, 10, 1, 0), 0);
        is("16 round 1", x.late(0, 30, 10, 1, 1), 28);
        is("16 round 1, itself", x.late(0, 30, 10, 0, 1), 0);
        is("16 round 2", x.late(0, 30, 10, 2, 2), 25);
        is("16 round 3", x.late(0, 30, 10, 0, 3), 21);
        is("16 round 40", x.late(0, 30, 10, 1, 40), 0);
        is("16 by 7 it stays", x.late(0, 30, 7, 0, 39), 30);
        is("16 not kept", x.late(0, 30, 6, 0, 0), LATE);
        is("16 d below", x.late(0, 0, 6, 0, 0), BAD);
        is("16 d above", x.late(0, 31, 10, 0, 0), BAD);
        is("16 period above", x.late(0, 1, 21, 0, 0), BAD);
        is("16 period below", x.late(0, 1, -1, 0, 0), BAD);
        is("16 round above", x.late(0, 1, 6, 0, 41), BAD);
        is("16 round below", x.late(0, 1, 10, 0, -1), BAD);
        is("16 at", x.late(3, 0, 10, 0, 0), UNKNOWN);
        is("16 departure", x.late(0, 1, 10, 3, 41), UNKNOWN);
        is("16 departure", x.late(0, 1, 10, -1, 0), UNKNOWN);
        x = of("N3015027129");
        is("16 the greatest of several", x.late(0, 9, 5, 2, 1), 9 - (4 + 5 - 0 - 7));
        is("16 by the other way a round later", x.late(0, 9, 5, 2, 2), 9);
        is("16 never less than 0", x.late(0, 1, 20, 1, 1), 0);
    }

    private static void dies() {
        TurnRounds x = of("N2018106");
        is("17 by 7", x.dies(0, 1, 7), NONE);
        is("17 by 8", x.dies(0, 30, 8), 30);
        is("17 by 8", x.dies(0, 1, 8), 2);
        is("17 by 20", x.dies(1, 14, 20), 1);
        is("17 by 20", x.dies(1, 15, 20), 2);
        is("17 not kept", x.dies(0, 1, 6), LATE);
        is("17 d below", x.dies(0, 0, 6), BAD);
        is("17 d above", x.dies(0, 31, 8), BAD);
        is("17 period", x.dies(0, 1, 21), BAD);
        is("17 period", x.dies(0, 1, -1), BAD);
        is("17 at", x.dies(2, 0, 21), UNKNOWN);
        is("17 at", x.dies(-1, 1, 8), UNKNOWN);
        is("17 nothing waits", of("N2").dies(1, 30, 0), 1);
        x = of("N4014124234304");
        x.time(0, 1, 1);
        // A ring of four waits has 3 to spare each turn: 30 are gone in ten turns, within the fortieth round.
        is("17 in round 37", x.dies(0, 30, 4), 37);
        is("17 from where the spare lies behind", x.dies(1, 30, 4), 40);
        x = of("N6018129239349459509");
        is("17 not within 40", x.dies(1, 30, 9), NONE);
    }

    private static void best() {
        TurnRounds x = of("N2");
        is("18 none", x.best(0), NONE);
        is("18 none", x.best(1), NONE);
        is("18 above", x.best(2), BAD);
        is("18 below", x.best(-1), BAD);
        x.put(1, 1, 0);
        is("18 nothing to make shorter", x.best(0), NONE);
        is("18 of 0, too", x.best(1), 11);
        x.put(1, 0, 3);
        is("18 no ring becomes less: the first", x.best(0), 10);
        is("18 no ring left is less than 0", x.best(1), 11);
        x = of("N3015103223");
        is("18 the first on the ring", x.best(0), 1);
        is("18 the first on the ring", x.best(1), 1);
        x = of("N3013105227");
        is("18 a loop", x.best(0), 22);
        is("18 a loop", x.best(1), 22);
        x = of("N3004114224");
        is("18 like ones", x.best(0), 0);
        is("18 like ones", x.best(1), 0);
        x = of("N3018104128216");
        is("18 the shared departure helps not", x.best(0), 12);
        is("18 nothing changes", x.minutes(1, 2), 8);
        is("18 nothing changes", x.about(7), 0);
    }

    private static void judge() {
        TurnRounds x = of("N2018106");
        is("19 n below", x.judge(0, 0), BAD);
        is("19 n above", x.judge(5, 0), BAD);
        is("19 n far", x.judge(Integer.MIN_VALUE, 0), BAD);
        is("19 row below", x.judge(1, -1), BAD);
        is("19 row far below", x.judge(4, Long.MIN_VALUE), BAD);
        is("19 row above", x.judge(1, 10000), BAD);
        is("19 row above", x.judge(4, 10000000000000000L), BAD);
        is("19 row far above", x.judge(4, Long.MAX_VALUE), BAD);
        is("19 row longest", x.judge(4, 9999999999999999L), 0);
        is("19 leading 0", x.judge(2, 4007), 0);
        int[] so = {1000, 1003, 1119, 2010, 2100, 3010, 3019, 3108, 4007, 4020, 5010, 5100, 6000, 6100, 7001, 7030,
            7130};
        for (int f : so) {
            is("19 " + f, x.judge(1, f), NONE);
        }
        int[] not = {0, 10, 1010, 1200, 1020, 2000, 2011, 2200, 2019, 3000, 3200, 3025, 4006, 4021, 4099, 4107, 4110,
            5000, 5011, 5020, 5200, 6001, 6010, 6200, 7000, 7031, 7099, 7201, 7910, 8000, 8010, 9000, 9999};
        for (int f : not) {
            is("19 " + f, x.judge(1, f), 0);
        }
        is("19 one upon the other", x.judge(4, 1009500040085010L), 2);
        is("19 put twice", x.judge(2, 10041004), 1);
        is("19 cut and put", x.judge(3, 201010195100L), NONE);
        is("19 cut and timed", x.judge(2, 20103011), 1);
        is("19 timed and kept", x.judge(4, 3010300030004003L), 1);
        is("19 timed and kept", x.judge(2, 30104003), NONE);
        is("19 timed and not kept", x.judge(2, 30104002), 1);
        is("19 last of four", x.judge(4, 2010210040008000L), 3);
        is("19 nothing changes", x.minutes(0, 1), 8);
        is("19 nothing changes", x.about(1), 2);
        is("19 nothing changes", x.about(7), 0);
    }

    private static void share() {
        TurnRounds x = of("N3015102113");
        // 1 alone: 3; 0 and 1: 7/2; 2 adds nothing.
        is("20 first, above", x.share(0, true), 1);
        is("20 first, below", x.share(0, false), 4);
        is("20 second, above", x.share(1, true), 13);
        is("20 second, below", x.share(1, false), 4);
        is("20 third, above", x.share(2, true), 0);
        is("20 third, below", x.share(2, false), 1);
        is("20 unknown", x.share(3, true), UNKNOWN);
        is("20 unknown", x.share(-1, false), UNKNOWN);
        x = of("N6019129239349459509");
        for (int departure = 0; departure < 6; departure++) {
            is("20 alike, above", x.share(departure, true), 3);
            is("20 alike, below", x.share(departure, false), 2);
        }
        is("20 no ring", of("N2019").share(0, true), 0);
        is("20 no ring", of("N2019").share(0, false), 1);
    }

    private static void see() {
        TurnRounds x = of("N2019");
        is("21 unknown", x.see(2, 0, 2), UNKNOWN);
        is("21 unknown", x.see(-1, 1, 1), UNKNOWN);
        is("21 round below", x.see(0, 0, 1), BAD);
        is("21 round above", x.see(0, 10, 1), BAD);
        is("21 was below", x.see(0, 1, -1), BAD);
        is("21 was above", x.see(0, 1, 2), BAD);
        is("21 none of it counts", x.about(8), 0);
        for (int i = 1; i <= 6; i++) {
            is("21 seen", x.see(1, 9, 0), i);
        }
        is("21 full", x.see(1, 1, 0), FULL);
        is("21 BAD ahead of FULL", x.see(1, 10, 0), BAD);
        is("21 UNKNOWN ahead of FULL", x.see(2, 1, 0), UNKNOWN);
        is("21 six", x.about(8), 6);
    }

    private static void unsee() {
        TurnRounds x = of("N2019");
        is("22 none", x.unsee(), 0);
        x.see(0, 1, 1);
        x.see(1, 1, 1);
        is("22 two", x.unsee(), 2);
        is("22 none", x.about(8), 0);
        is("22 all again", x.began(0), 60);
        is("22 room again", x.see(1, 1, 1), 1);
    }

    private static void began() {
        TurnRounds x = of("N3018128");
        is("23 nothing seen", x.began(0), 90);
        is("23 nothing seen", x.began(1), 1);
        is("23 below", x.began(-1), BAD);
        is("23 above", x.began(2), BAD);
        x.see(2, 1, 1);
        is("23 at 1 by more than 2", x.began(0), 28);
        is("23 first", x.began(1), 103);
        x.see(2, 2, 0);
        is("23 the same", x.began(0), 28);
        x.unsee();
        x.see(2, 2, 1);
        is("23 at 0 by more than 4", x.began(0), 26);
        is("23 first", x.began(1), 5);
        x.see(0, 1, 1);
        is("23 none", x.began(0), 0);
        is("23 none", x.began(1), NONE);
        x.unsee();
        x.see(1, 1, 0);
        is("23 not late", x.began(0), 62);
        is("23 not late", x.began(1), 1);
        x.cut(0, 1);
        is("23 as the net is now", x.began(0), 90);
        x.unsee();
        x.see(2, 3, 0);
        tell(x, "N1009").net();
        is("23 what is no more is never late", x.began(0), 30);
        x.see(0, 9, 1);
        is("23 late in round 9", x.began(0), 21);
        is("23 late in round 9", x.began(1), 10);
        x = of("N2019");
        x.see(1, 1, 1);
        tell(x, "N1").net();
        is("23 what is no more was late", x.began(0), 0);
    }

    private static void dropped() {
        TurnRounds x = of("N3018106118022");
        // Rings: 0-1 (7), 1 (8). From 1 both waits break a period of 6.
        is("24 above", x.dropped(1, 6, 3, true), 9);
        is("24 below", x.dropped(1, 6, 3, false), 100);
        is("24 one of them", x.dropped(1, 7, 5, true), 1);
        is("24 one of them", x.dropped(1, 7, 5, false), 2);
        is("24 kept anyhow", x.dropped(1, 8, 0, true), 1);
        is("24 kept anyhow", x.dropped(1, 8, 10, false), 1);
        is("24 another breaks it", x.dropped(0, 7, 10, true), 0);
        is("24 another breaks it", x.dropped(0, 7, 10, false), 1);
        is("24 never cut", x.dropped(1, 6, 0, true), 0);
        is("24 never cut", x.dropped(1, 6, 0, false), 1);
        is("24 always cut", x.dropped(1, 0, 10, true), 1);
        is("24 unknown", x.dropped(3, 21, 11, true), UNKNOWN);
        is("24 unknown", x.dropped(-1, 0, 0, true), UNKNOWN);
        is("24 period", x.dropped(0, 21, 0, true), BAD);
        is("24 period", x.dropped(0, -1, 0, true), BAD);
        is("24 x", x.dropped(0, 0, 11, true), BAD);
        is("24 x", x.dropped(0, 0, -1, true), BAD);
        is("24 nothing changes", x.about(1), 4);
        x = of("N6009");
        for (int to = 1; to < 6; to++) {
            x.put(0, to, 9);
            x.put(to, 0, 9);
        }
        is("24 all six", x.dropped(0, 8, 9, true), 531441);
        is("24 all six", x.dropped(0, 8, 9, false), 1000000);
    }

    private static void seed() {
        TurnRounds x = new TurnRounds();
        is("25 first", x.seed(Long.MIN_VALUE), 0);
        is("25 second", x.seed(Long.MAX_VALUE), Long.MIN_VALUE);
        is("25 third", x.seed(0), Long.MAX_VALUE);
        x.drawn(1);
        is("25 drawn", x.seed(1), 1442695040888963407L);
        x.drawn(1);
        is("25 drawn", x.seed(1), 6364136223846793005L + 1442695040888963407L);
    }

    private static void drawn() {
        TurnRounds x = of("N6009");
        is("26 below", x.drawn(0), BAD);
        is("26 above", x.drawn(21), BAD);
        is("26 refused: the seed stays", x.seed(0), 0);
        int sum = x.drawn(3);
        is("26 a first ring of 9 stays, or is drawn anew", sum <= 27 && sum >= 0 ? 1 : 0, 1);
        is("26 nothing but the seed changes", x.minutes(0, 0), 9);
        is("26 nothing but the seed changes", x.about(1), 1);
        is("26 nothing but the seed changes", x.about(7), 0);
        TurnRounds one = new TurnRounds();
        one.seed(findSeed(0, 0, 7));
        is("26 put", one.drawn(1), 7);
        one.put(0, 0, 9);
        one.seed(findSeed(0, 0, 7));
        is("26 timed", one.drawn(1), 7);
        one.seed(findSeed(0, 0, 10));
        is("26 cut", one.drawn(1), 0);
        one.seed(findSeed(0, 1, 3));
        is("26 it can not be", one.drawn(1), 9);
        one.seed(findSeed(5, 0, 3));
        is("26 it can not be", one.drawn(1), 9);
        TurnRounds two = of("N2019");
        two.seed(findSeed(1, 0, 8));
        is("26 cut to whole minutes", two.drawn(1), 8);
    }

    /** A seed whose next turn draws this. */
    private static long findSeed(int from, int to, int minutes) {
        for (long seed = 0; seed < 1000000; seed++) {
            long bits = (seed * 6364136223846793005L + 1442695040888963407L) >>> 33;
            if (bits % 6 == from && (bits >> 3) % 6 == to && (bits >> 6) % 11 == minutes) {
                return seed;
            }
        }
        throw new IllegalStateException("there is no such seed");
    }

    private static void keep() {
        TurnRounds x = of("N2018");
        is("27 below", x.keep(-1), UNKNOWN);
        is("27 above", x.keep(2), UNKNOWN);
        is("27 kept", x.keep(0), 1);
        x.put(1, 0, 3);
        is("27 kept", x.keep(1), 2);
        is("27 doings stay", x.about(7), 1);
        x.cut(0, 1);
        is("27 the first", x.again(0), 1);
        is("27 the second", x.again(1), 2);
        x.cut(0, 1);
        is("27 kept anew", x.keep(1), 1);
        x.undo();
        is("27 kept anew", x.again(1), 1);
        is("27 kept anew", x.minutes(0, 1), NONE);
    }

    private static void again() {
        TurnRounds x = of("N2018");
        is("28 below", x.again(-1), UNKNOWN);
        is("28 above", x.again(2), UNKNOWN);
        is("28 none kept", x.again(1), LATE);
        x.keep(1);
        is("28 none kept in the other", x.again(0), LATE);
        x.see(1, 1, 1);
        x.seed(5);
        x.time(0, 1, 3);
        x.put(1, 1, 2);
        is("28 doings", x.about(7), 2);
        is("28 again", x.again(1), 1);
        is("28 minutes", x.minutes(0, 1), 8);
        is("28 minutes", x.minutes(1, 1), NONE);
        is("28 no doings", x.about(7), 0);
        is("28 no doings", x.undo(), LATE);
        is("28 seen stays", x.about(8), 1);
        is("28 the seed stays", x.seed(0), 5);
        x.time(0, 1, 4);
        is("28 more than once", x.again(1), 1);
        is("28 as it was kept", x.minutes(0, 1), 8);
    }

    /** After each refusal all that can be looked at is as it was. */
    private static void refusalsChangeNothing() {
        TurnRounds x = of("N3018126204");
        x.keep(0);
        for (int i = 0; i < 14; i++) {
            x.time(0, 1, i % 10);
        }
        for (int i = 0; i < 6; i++) {
            x.see(1, 1 + i, 1);
        }
        x.seed(42);
        String was = told(x);
        int[] refusals = {x.write(-1), x.put(0, 1, 3), x.put(0, 0, 10), x.put(3, 0, 1), x.cut(0, 0), x.cut(0, 3),
            x.time(0, 0, 1), x.time(0, 1, 10), x.time(-1, 0, 1), x.see(0, 1, 1), x.see(0, 0, 1), x.see(3, 1, 1),
            x.drawn(0), x.drawn(21), x.keep(2), x.again(1), x.again(-1), x.judge(1, 20000), x.about(10)};
        for (int i = 0; i < refusals.length; i++) {
            DUE.so("4 refusal " + i, refusals[i] < 0);
        }
        DUE.so("4 what is refused changes nothing: " + was + " | " + told(x), was.equals(told(x)));
        for (int left = 13; left >= 0; left--) {
            is("4 doings stay", x.undo(), left);
        }
        is("4 doings stay", x.minutes(0, 1), 8);
    }

    private static String told(TurnRounds x) {
        StringBuilder all = new StringBuilder();
        for (int what = 0; what < 10; what++) {
            all.append(x.about(what)).append(' ');
        }
        for (int cell = 0; cell < 36; cell++) {
            all.append(x.minutes(cell / 6, cell % 6)).append(' ');
        }
        long seed = x.seed(0);
        x.seed(seed);
        return all.append(seed).append(' ').append(x.began(0)).append(' ').append(x.fault()).toString();
    }
}
