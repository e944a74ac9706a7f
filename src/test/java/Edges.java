/** What the edge tests share: each says its promise and the words of the document that it holds the class to. */
abstract class Edges {
    static final int UNKNOWN = TurnRounds.UNKNOWN, BAD = TurnRounds.BAD, LATE = TurnRounds.LATE,
            FULL = TurnRounds.FULL, NONE = TurnRounds.NONE;
    static final int FAR_BELOW = Integer.MIN_VALUE, FAR_ABOVE = Integer.MAX_VALUE;

    /** A question, or a doing, on an object. */
    interface Call {
        long on(TurnRounds x);
    }

    /** A fraction is asked twice: above and below. */
    interface Fraction {
        int told(boolean upper);
    }

    private final Due due;
    private final Words words;
    private String label = "";

    Edges(Due due, Words words) {
        this.due = due;
        this.words = words;
    }

    abstract void testAll();

    /** The words of the document that what follows holds to. */
    final void says(int promise, String quotation) {
        words.quote(promise, quotation);
        label = "promise " + promise + ", \"" + quotation + "\": ";
    }

    final void is(String what, long got, long want) {
        due.is(label + what, got, want);
    }

    final void isFraction(String what, Fraction fraction, int above, int below) {
        is(what + ", above", fraction.told(true), above);
        is(what + ", below", fraction.told(false), below);
    }

    final void isSame(String what, String got, String want) {
        due.so(label + what + ": it was " + want + ", it is " + got, got.equals(want));
    }

    static TurnRounds tell(TurnRounds x, String text) {
        x.wipe();
        for (int i = 0; i < text.length(); i++) {
            x.write(text.charAt(i));
        }
        return x;
    }

    static TurnRounds told(String text) {
        return tell(new TurnRounds(), text);
    }

    /** An object whose net is this text; waits beyond the text's twelve are put by rows of three figures. */
    final TurnRounds of(String text, int... more) {
        TurnRounds x = told(text);
        due.is(label + "net of " + text, x.net(), (text.length() - 2) / 3);
        for (int figures : more) {
            due.so(label + "put " + figures, x.put(figures / 100, figures / 10 % 10, figures % 10) > 0);
        }
        return x;
    }

    /** So many departures, and a wait of these minutes from each to each. */
    static TurnRounds allWaits(int n, int minutes) {
        TurnRounds x = told("N" + n);
        x.net();
        for (int cell = 0; cell < n * n; cell++) {
            x.put(cell / n, cell % n, minutes);
        }
        return x;
    }

    /** The text of one ring over departures 0, 1, .. with these minutes. */
    static String ring(int... minutes) {
        StringBuilder text = new StringBuilder("N").append(minutes.length);
        for (int i = 0; i < minutes.length; i++) {
            text.append(i).append((i + 1) % minutes.length).append(minutes[i]);
        }
        return text.toString();
    }

    /** The text of so many waits, row by row. */
    static String waits(int n, int count) {
        StringBuilder text = new StringBuilder("N").append(n);
        for (int i = 0; i < count; i++) {
            text.append(i / n).append(i % n).append(i % 10);
        }
        return text.toString();
    }
}
