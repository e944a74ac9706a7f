import java.util.ArrayList;
import java.util.LinkedHashMap;
import java.util.List;
import java.util.Map;
import java.util.function.Supplier;

/** What is only asked changes nothing, and what is drawn changes the seed alone. */
final class UnchangedEdges extends Edges {
    UnchangedEdges(Due due, Words words) {
        super(due, words);
    }

    @Override
    void testAll() {
        says(12, "In what follows nothing is changed.");
        for (Map.Entry<String, Call> asked : questions().entrySet()) {
            unchanged(asked.getKey(), asked.getValue());
        }
        judged();
        drawn();
        rowsOfFourteen();
    }

    private static Map<String, Call> questions() {
        Map<String, Call> asked = new LinkedHashMap<>();
        for (int i = 0; i <= 9; i++) {
            int what = i;
            asked.put("about " + what, x -> x.about(what));
        }
        asked.put("fault", TurnRounds::fault);
        asked.put("minutes", x -> x.minutes(0, 1));
        asked.put("pace", x -> x.pace(true));
        asked.put("critical", x -> x.critical(0, 1));
        asked.put("departs", x -> x.departs(2, 10));
        asked.put("spare", x -> x.spare(2, 0, 20));
        asked.put("late", x -> x.late(0, 30, 10, 2, 40));
        asked.put("dies", x -> x.dies(0, 30, 10));
        asked.put("shorter", x -> x.best(0));
        asked.put("least", x -> x.best(1));
        asked.put("share", x -> x.share(1, true));
        asked.put("began", x -> x.began(0));
        asked.put("began first", x -> x.began(1));
        asked.put("dropped never", x -> x.dropped(0, 0, 0, true));
        asked.put("dropped always", x -> x.dropped(0, 20, 10, false));
        asked.put("the seed set to what it was", x -> x.seed(42));
        return asked;
    }

    private void unchanged(String what, Call call) {
        Supplier<TurnRounds> made = RefusalEdges::busy;
        String after = Looks.at(() -> {
            TurnRounds x = made.get();
            call.on(x);
            return x;
        });
        isSame(what + " changes nothing", after, Looks.at(made));
    }

    private void judged() {
        says(19, "In what follows nothing is changed.");
        long[] rows = {1110L, 2010L, 3010L, 4010L, 5010L, 6000L, 7030L, 9999L};
        for (long row : rows) {
            unchanged("judge of " + row, x -> x.judge(1, row));
        }
        unchanged("judge of four that can be", x -> x.judge(4, 1110311520102000L));
        unchanged("judge of four of which the last can not", x -> x.judge(4, 1110311520102010L));
    }

    private void drawn() {
        says(26, "(Nothing changes but THE SEED.)");
        int[] often = {1, 2, 19, 20};
        for (int m : often) {
            TurnRounds first = RefusalEdges.busy();
            first.drawn(m);
            long seed = first.seed(0);
            String after = Looks.at(() -> {
                TurnRounds x = RefusalEdges.busy();
                x.drawn(m);
                return x;
            });
            String set = Looks.at(() -> {
                TurnRounds x = RefusalEdges.busy();
                x.seed(seed);
                return x;
            });
            isSame("drawn " + m + " times", after, set);
        }
    }

    /** As many doings as there may be and more: what stays is what the last fourteen leave. */
    private void rowsOfFourteen() {
        says(11, "are a row (14 at most; when it is full, the first one is forgotten)");
        List<String> before = new ArrayList<>();
        TurnRounds x = of("N3");
        for (int i = 0; i < 30; i++) {
            before.add(waitsOf(x));
            int from = i / 3 % 3;
            int to = i % 3;
            long done = x.minutes(from, to) == NONE ? x.put(from, to, i % 10)
                    : i % 3 == 0 ? x.cut(from, to) : x.time(from, to, i % 7);
            is("doing " + i + " is done", done >= 0 ? 1 : 0, 1);
        }
        for (int i = 29; i >= 16; i--) {
            is("undone, left", x.undo(), i - 16);
            isSame("doing " + i + " undone", waitsOf(x), before.get(i));
        }
        is("the others are forgotten", x.undo(), LATE);
        isSame("the others are forgotten", waitsOf(x), before.get(16));
    }

    private static String waitsOf(TurnRounds x) {
        StringBuilder all = new StringBuilder();
        for (int cell = 0; cell < 9; cell++) {
            all.append(x.minutes(cell / 3, cell % 3)).append(' ');
        }
        return all.toString();
    }
}
