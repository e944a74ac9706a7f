import java.util.function.BiConsumer;
import java.util.function.Supplier;

/**
 * All that can be asked of an object. Some of it can only be asked by changing the object (what can be undone,
 * what is kept, what the text says), so each look has an object of its own, made anew and brought to the state.
 */
final class Looks {
    /** A look asks, and notes the answers; with what brings the object there it stays within 512 calls. */
    private enum Look {
        ASKED(Looks::ask), UNDONE(Looks::undoAll), KEPT_FIRST(Looks::goOnFirst), KEPT_LAST(Looks::goOnLast),
        TEXT(Looks::readText), LETTERS(Looks::wipeText), SEEN(Looks::lookAtSeen), SEED(Looks::draw);

        private final BiConsumer<TurnRounds, StringBuilder> asks;

        Look(BiConsumer<TurnRounds, StringBuilder> asks) {
            this.asks = asks;
        }
    }

    private Looks() {
    }

    /** The answers of all looks, each at a new object that is made this way. */
    static String at(Supplier<TurnRounds> made) {
        return but("", made);
    }

    /** The answers of all looks but that of this name. */
    static String but(String leftOut, Supplier<TurnRounds> made) {
        StringBuilder answers = new StringBuilder();
        for (Look look : Look.values()) {
            if (!look.name().equals(leftOut)) {
                answers.append(look).append(": ");
                look.asks.accept(made.get(), answers);
            }
        }
        return answers.toString();
    }

    private static void note(StringBuilder answers, long answer) {
        answers.append(answer).append(' ');
    }

    private static void ask(TurnRounds x, StringBuilder answers) {
        for (int what = 0; what <= 9; what++) {
            note(answers, x.about(what));
        }
        note(answers, x.fault());
        note(answers, x.pace(true));
        note(answers, x.pace(false));
        note(answers, x.best(0));
        note(answers, x.best(1));
        note(answers, x.began(0));
        note(answers, x.began(1));
        note(answers, x.judge(3, 101320103019L));
        int n = x.about(0);
        for (int from = 0; from < n; from++) {
            note(answers, x.departs(from, 8));
            note(answers, x.dies(from, 30, 9));
            note(answers, x.share(from, true));
            note(answers, x.share(from, false));
            note(answers, x.dropped(from, 5, 3, true));
            for (int to = 0; to < n; to++) {
                note(answers, x.minutes(from, to));
                note(answers, x.critical(from, to));
                note(answers, x.spare(from, to, 9));
                note(answers, x.late(from, 30, 9, to, 7));
            }
        }
    }

    private static void noteWaits(TurnRounds x, StringBuilder answers) {
        note(answers, x.about(1));
        int n = x.about(0);
        for (int cell = 0; cell < n * n; cell++) {
            note(answers, x.minutes(cell / n, cell % n));
        }
    }

    private static void undoAll(TurnRounds x, StringBuilder answers) {
        for (int i = 0; i < 15; i++) {
            note(answers, x.undo());
            noteWaits(x, answers);
        }
    }

    private static void goOnFirst(TurnRounds x, StringBuilder answers) {
        note(answers, x.again(0));
        noteWaits(x, answers);
    }

    private static void goOnLast(TurnRounds x, StringBuilder answers) {
        note(answers, x.again(1));
        noteWaits(x, answers);
    }

    private static void readText(TurnRounds x, StringBuilder answers) {
        note(answers, x.net());
        noteWaits(x, answers);
    }

    private static void wipeText(TurnRounds x, StringBuilder answers) {
        note(answers, x.write('N'));
        note(answers, x.fault());
        note(answers, x.wipe());
    }

    /** By nets that make each departure late in its own rounds: what was seen shows in where a delay began. */
    private static void lookAtSeen(TurnRounds x, StringBuilder answers) {
        String[] nets = {"N3009119229", "N3019129209", "N3005018021", "N3109219029"};
        for (String net : nets) {
            Edges.tell(x, net).net();
            note(answers, x.began(0));
            note(answers, x.began(1));
        }
        note(answers, x.unsee());
    }

    private static void draw(TurnRounds x, StringBuilder answers) {
        note(answers, x.drawn(20));
        note(answers, x.seed(0));
    }
}
