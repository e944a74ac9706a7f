/** Objects of which all that there is to ask has something to tell. */
final class Busy {
    static final int SEEN = 6;
    static final long SEED = 42;
    /** Another net than the one that is there. */
    static final String TEXT = "N3102215";

    private Busy() {
    }

    /** Three departures; the row of doings, both slots and what is seen are full. */
    static TurnRounds full() {
        return with(SEEN, SEED, TEXT);
    }

    static TurnRounds with(int seen, long seed, String text) {
        TurnRounds x = doings(16);
        for (int i = 0; i < seen; i++) {
            x.see(i % 2, 1 + i, 1 - i % 2);
        }
        x.seed(seed);
        return Edges.tell(x, text);
    }

    /** So many doings (16 at most), and both slots kept on the way. */
    static TurnRounds doings(int count) {
        TurnRounds x = Edges.told("N3018126204117");
        x.net();
        x.keep(0);
        for (int i = 0; i < count; i++) {
            done(x, i);
            if (i == 1) {
                x.keep(1);
            }
        }
        return x;
    }

    private static void done(TurnRounds x, int i) {
        switch (i) {
            case 0: x.put(0, 0, 3); break;
            case 1: x.put(2, 2, 5); break;
            case 2: x.cut(1, 1); break;
            case 13: x.put(2, 1, 2); break;
            case 14: x.time(1, 2, 6); break;
            case 15: x.cut(2, 2); break;
            default: x.time(0, 1, i % 10);
        }
    }
}
