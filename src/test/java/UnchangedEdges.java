import java.util.ArrayList;
import java.util.LinkedHashMap;
import java.util.List;
import java.util.Map;
import java.util.function.Supplier;

/** What is only asked changes nothing, and what changes something changes that alone. */
final class UnchangedEdges extends Edges {
    UnchangedEdges(Due due, Words words) {
        super(due, words);
    }

    @Override
    void testAll() {
        says(12, "In what follows nothing is changed.");
        for (Map.Entry<String, Call> asked : questions().entrySet()) {
            unchanged(asked.getKey(), asked.getValue());
        }
        judged();
        drawn();
        textAlone();
        seenAlone();
        seedAlone();
        slotAlone();
        undoneAlone();
        rowsOfFourteen();
    }

    private static Map<String, Call> questions() {
        Map<String, Call> asked = new LinkedHashMap<>();
        for (int i = 0; i <= 9; i++) {
            int what = i;
            asked.put("about " + what, x -> x.about(what));
        }
        asked.put("fault", TurnRounds::fault);
        asked.put("minutes", x -> x.minutes(0, 1));
        asked.put("pace", x -> x.pace(true));
        asked.put("critical", x -> x.critical(0, 1));
        asked.put("departs", x -> x.departs(2, 10));
        asked.put("spare", x -> x.spare(2, 0, 20));
        asked.put("late", x -> x.late(0, 30, 10, 2, 40));
        asked.put("dies", x -> x.dies(0, 30, 10));
        asked.put("shorter", x -> x.best(0));
        asked.put("least", x -> x.best(1));
        asked.put("share", x -> x.share(1, true));
        asked.put("began", x -> x.began(0));
        asked.put("began first", x -> x.began(1));
        asked.put("dropped never", x -> x.dropped(0, 0, 0, true));
        asked.put("dropped always", x -> x.dropped(0, 20, 10, false));
        asked.put("the seed set to what it was", x -> x.seed(Busy.SEED));
        return asked;
    }

    private void unchanged(String what, Call call) {
        leadsTo(what + " changes nothing", Busy::full, call, Busy::full);
    }

    /** Behind the call the one object answers all as the other does. */
    private void leadsTo(String what, Supplier<TurnRounds> one, Call call, Supplier<TurnRounds> other) {
        isSame(what, Looks.at(behind(one, call)), Looks.at(other));
    }

    private static Supplier<TurnRounds> behind(Supplier<TurnRounds> made, Call call) {
        return () -> {
            TurnRounds x = made.get();
            call.on(x);
            return x;
        };
    }

    private void judged() {
        says(19, "In what follows nothing is changed.");
        long[] rows = {1110L, 2010L, 3010L, 4010L, 5010L, 6000L, 7030L, 9999L};
        for (long row : rows) {
            unchanged("judge of " + row, x -> x.judge(1, row));
        }
        unchanged("judge of four that can be", x -> x.judge(4, 1110311520102000L));
        unchanged("judge of four of which the last can not", x -> x.judge(4, 1110311520102010L));
    }

    private void drawn() {
        says(26, "(Nothing changes but THE SEED.)");
        int[] often = {1, 2, 19, 20};
        for (int m : often) {
            TurnRounds first = Busy.full();
            first.drawn(m);
            long seed = first.seed(0);
            leadsTo("drawn " + m + " times", Busy::full, x -> x.drawn(m), () -> seeded(seed));
        }
    }

    private static TurnRounds seeded(long seed) {
        return Busy.with(Busy.SEEN, seed, Busy.TEXT);
    }

    private static TurnRounds written(String text) {
        return Busy.with(Busy.SEEN, Busy.SEED, text);
    }

    private static TurnRounds saw(int seen) {
        return Busy.with(seen, Busy.SEED, Busy.TEXT);
    }

    private void textAlone() {
        says(2, "A letter (0 .. 255) comes behind THE TEXT");
        leadsTo("a first letter", () -> written(""), x -> x.write('N'), () -> written("N"));
        leadsTo("a last letter", () -> written("N310221"), x -> x.write('5'), () -> written("N3102215"));
        says(3, "THE TEXT is empty");
        leadsTo("a text wiped", Busy::full, TurnRounds::wipe, () -> written(""));
        leadsTo("nothing wiped", () -> written(""), TurnRounds::wipe, () -> written(""));
    }

    private void seenAlone() {
        says(21, "SEEN: how many there are.");
        leadsTo("a first one seen", () -> saw(0), x -> x.see(0, 1, 1), () -> saw(1));
        leadsTo("a sixth one seen", () -> saw(5), x -> x.see(1, 6, 0), () -> saw(6));
        says(22, "Nothing is SEEN");
        leadsTo("all unseen", () -> saw(6), TurnRounds::unsee, () -> saw(0));
        leadsTo("nothing unseen", () -> saw(0), TurnRounds::unsee, () -> saw(0));
    }

    private void seedAlone() {
        says(25, "THE SEED is v");
        long[] seeds = {0, -1, Long.MIN_VALUE, Long.MAX_VALUE};
        for (long seed : seeds) {
            leadsTo("seed " + seed, Busy::full, x -> x.seed(seed), () -> seeded(seed));
        }
    }

    private void slotAlone() {
        says(27, "They are kept: WAITS.");
        String[] looks = {"KEPT_FIRST", "KEPT_LAST"};
        for (int i = 0; i < looks.length; i++) {
            int slot = i;
            isSame("kept in " + slot + ", all else", Looks.but(looks[slot], behind(Busy::full, x -> x.keep(slot))),
                    Looks.but(looks[slot], Busy::full));
        }
    }

    private void undoneAlone() {
        says(11, "The last DOING is undone");
        // From the third on, so that both slots are kept in the one and the other.
        for (int i = 3; i <= 14; i++) {
            int count = i;
            leadsTo("doing " + i + " undone", () -> Busy.doings(count), TurnRounds::undo,
                    () -> Busy.doings(count - 1));
        }
    }

    /** As many doings as there may be and more: what stays is what the last fourteen leave. */
    private void rowsOfFourteen() {
        says(11, "are a row (14 at most; when it is full, the first one is forgotten)");
        List<String> before = new ArrayList<>();
        TurnRounds x = of("N3");
        for (int i = 0; i < 30; i++) {
            before.add(waitsOf(x));
            int from = i / 3 % 3;
            int to = i % 3;
            long done = x.minutes(from, to) == NONE ? x.put(from, to, i % 10)
                    : i % 3 == 0 ? x.cut(from, to) : x.time(from, to, i % 7);
            is("doing " + i + " is done", done >= 0 ? 1 : 0, 1);
        }
        for (int i = 29; i >= 16; i--) {
            is("undone, left", x.undo(), i - 16);
            isSame("doing " + i + " undone", waitsOf(x), before.get(i));
        }
        is("the others are forgotten", x.undo(), LATE);
        isSame("the others are forgotten", waitsOf(x), before.get(16));
    }

    private static String waitsOf(TurnRounds x) {
        StringBuilder all = new StringBuilder();
        for (int cell = 0; cell < 9; cell++) {
            all.append(x.minutes(cell / 3, cell % 3)).append(' ');
        }
        return all.toString();
    }
}
