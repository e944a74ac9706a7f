import java.util.Random;

/** Long runs of drawn calls, each answer the one of the plain model, and all state looked at now and then. */
public final class ModelTest {
    private static final int RUNS = 400;
    private static final int CALLS = 512;

    private final Due due;
    private final Random random;
    private final int wild;
    /** In some runs waits are mostly put, cut, timed and undone, so that many doings come together. */
    private final boolean isBusy;
    private final TurnRounds x = new TurnRounds();
    private final Model model = new Model();
    private int calls;

    private ModelTest(Due due, long seed) {
        this.due = due;
        this.random = new Random(seed);
        this.wild = random.nextInt(3) * 20;
        this.isBusy = one(3);
    }

    public static void main(String[] args) {
        Due due = new Due("ModelTest");
        for (int run = 0; run < RUNS && due.allRight(); run++) {
            new ModelTest(due, run).play(run);
        }
        due.end();
    }

    private void play(int run) {
        while (calls < CALLS && due.allRight()) {
            step("run " + run + ", call " + calls + ": ");
        }
    }

    private boolean one(int in) {
        return random.nextInt(in) == 0;
    }

    /** Mostly within, now and then at the border, or far outside. */
    private int within(int low, int high) {
        if (wild > 0 && one(wild)) {
            int[] odd = {low - 1, high + 1, Integer.MIN_VALUE, Integer.MAX_VALUE, -9, 64, 100};
            return odd[random.nextInt(odd.length)];
        }
        return low + random.nextInt(high - low + 1);
    }

    private int departure() {
        return within(0, model.n - 1);
    }

    private void is(String what, long got, long want) {
        calls++;
        due.is(what, got, want);
    }

    private void step(String at) {
        int kind = isBusy && !one(8) ? 6 + random.nextInt(7) : random.nextInt(31);
        if (isBusy && one(6)) kind = 12;
        int a = departure();
        int b = departure();
        int m = within(0, 9);
        int period = one(3) ? within(0, 20) : within(5, 11);
        int d = within(1, 30);
        boolean upper = random.nextBoolean();
        String told = at + kind + " (" + a + ", " + b + ", " + m + ", " + period + ", " + d + ")";
        switch (kind) {
            case 0: case 1: writeSome(at); break;
            case 2: is(told, x.wipe(), model.wipe()); break;
            case 3: is(told, x.fault(), model.fault()); break;
            case 4: if (one(4)) is(told, x.net(), model.net()); break;
            case 5: is(told, x.about(m), model.about(m)); break;
            case 6: is(told, x.minutes(a, b), model.minutes(a, b)); break;
            case 7: case 8: case 9: is(told, x.put(a, b, m), model.put(a, b, m)); break;
            case 10: is(told, x.cut(a, b), model.cut(a, b)); break;
            case 11: is(told, x.time(a, b, m), model.time(a, b, m)); break;
            case 12: is(told, x.undo(), model.undo()); break;
            case 13: is(told, x.pace(upper), model.pace(upper)); break;
            case 14: is(told, x.critical(a, b), model.critical(a, b)); break;
            case 15: is(told, x.departs(a, period), model.departs(a, period)); break;
            case 16: is(told, x.spare(a, b, period), model.spare(a, b, period)); break;
            case 17: {
                int round = within(0, one(2) ? 40 : 5);
                is(told + " " + round, x.late(a, d, period, b, round), model.late(a, d, period, b, round));
                break;
            }
            case 18: is(told, x.dies(a, d, period), model.dies(a, d, period)); break;
            case 19: {
                int how = within(0, 1);
                is(told + " " + how, x.best(how), model.best(how));
                break;
            }
            case 20: case 21: judgeSome(at); break;
            case 22: is(told, x.share(a, upper), model.share(a, upper)); break;
            case 23: {
                int round = within(1, one(3) ? 9 : 4);
                int was = within(0, 1);
                is(told + " " + round + " " + was, x.see(a, round, was), model.see(a, round, was));
                break;
            }
            case 24: if (one(4)) is(told, x.unsee(), model.unsee()); break;
            case 25: {
                int what = within(0, 1);
                is(told + " " + what, x.began(what), model.began(what));
                break;
            }
            case 26: {
                int tenths = within(0, 10);
                is(told + " " + tenths, x.dropped(a, period, tenths, upper), model.dropped(a, period, tenths, upper));
                break;
            }
            case 27: {
                long v = random.nextLong();
                is(told + " " + v, x.seed(v), model.seed(v));
                break;
            }
            case 28: {
                int times = within(1, 20);
                is(told + " " + times, x.drawn(times), model.drawn(times));
                break;
            }
            case 29: {
                int slot = within(0, 1);
                is(told + " " + slot, x.keep(slot), model.keep(slot));
                break;
            }
            default: {
                int slot = within(0, 1);
                is(told + " " + slot, x.again(slot), model.again(slot));
            }
        }
        if (calls < CALLS - 64 && one(40)) lookAtAll(at);
    }

    /** A whole net, sometimes with an odd letter in it, or only a piece. */
    private void writeSome(String at) {
        if (one(2)) is(at + "wipe", x.wipe(), model.wipe());
        StringBuilder text = new StringBuilder("N");
        int n = 1 + random.nextInt(6);
        text.append(n);
        int waits = random.nextInt(14);
        for (int i = 0; i < waits; i++) {
            text.append(random.nextInt(n)).append(random.nextInt(n)).append(random.nextInt(10));
        }
        if (one(4)) text.setCharAt(random.nextInt(text.length()), (char) (47 + random.nextInt(12)));
        if (one(4)) text.setLength(random.nextInt(text.length() + 1));
        boolean isLooked = one(4);
        for (int i = 0; i < text.length(); i++) {
            int letter = wild > 0 && one(300) ? within(0, 255) : text.charAt(i);
            is(at + "write " + letter, x.write(letter), model.write(letter));
            if (isLooked) is(at + "fault of " + model.text, x.fault(), model.fault());
        }
        is(at + "fault of " + model.text, x.fault(), model.fault());
        if (one(2)) is(at + "net of " + model.text, x.net(), model.net());
    }

    private void judgeSome(String at) {
        int n = within(1, 4);
        long row = 0;
        for (int i = 0; i < 4 && i < n; i++) {
            row = row * 10000 + figures();
        }
        if (one(20)) row = random.nextLong() >> random.nextInt(64);
        is(at + "judge " + n + " " + row, x.judge(n, row), model.judge(n, row));
    }

    private int figures() {
        int a = random.nextInt(model.n);
        int b = random.nextInt(model.n);
        int m = random.nextInt(10);
        switch (random.nextInt(12)) {
            case 0: case 1: case 2: return 1000 + 100 * a + 10 * b + m;
            case 3: case 4: return 2000 + 100 * a + 10 * b;
            case 5: return 3000 + 100 * a + 10 * b + m;
            case 6: return 4000 + random.nextInt(23);
            case 7: case 8: return 5000 + 100 * a + 10 * b;
            case 9: return 6000 + 100 * a + (one(5) ? random.nextInt(20) : 0);
            case 10: return 7000 + 100 * a + random.nextInt(33);
            default: return random.nextInt(10000);
        }
    }

    private void lookAtAll(String at) {
        for (int what = 0; what < 10; what++) {
            is(at + "about " + what, x.about(what), model.about(what));
        }
        for (int from = 0; from < model.n; from++) {
            for (int to = 0; to < model.n; to++) {
                is(at + "minutes " + from + " " + to, x.minutes(from, to), model.minutes(from, to));
            }
        }
        is(at + "began", x.began(0), model.began(0));
        is(at + "best", x.best(0), model.best(0));
        is(at + "best", x.best(1), model.best(1));
        long seed = model.seed.longValue();
        is(at + "seed", x.seed(seed), seed);
    }
}
