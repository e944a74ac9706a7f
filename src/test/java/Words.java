import java.io.IOException;
import java.nio.charset.StandardCharsets;
import java.nio.file.Files;
import java.nio.file.Path;
import java.util.ArrayList;
import java.util.List;
import java.util.regex.Matcher;
import java.util.regex.Pattern;

/**
 * The document's words, and which of them the edge tests quote: a quotation must stand in the document, and
 * each piece of a sentence that names a boundary must be quoted.
 */
final class Words {
    private static final Path DOCUMENT = Path.of("../shared/DOC.md");
    private static final int PROMISES = 28;
    /** A piece ends with a full stop or a semicolon; the two stops of a range (0 .. 9) end none. */
    private static final Pattern PIECE = Pattern.compile(".*?[^\\s.][.;](?=\\s|$)|.+$");
    private static final Pattern BOUNDARY = Pattern.compile("[0-9]|\\b(BAD|UNKNOWN|LATE|FULL|NONE)\\b");

    private final Due due;
    /** At 0 the terms, at each other place the promise of that number. */
    private final String[] parts = new String[PROMISES + 1];
    private final boolean[][] quoted = new boolean[PROMISES + 1][];
    private final int[] tests = new int[PROMISES + 1];
    private final boolean isThere;

    Words(Due due) throws IOException {
        this.due = due;
        this.isThere = Files.isReadable(DOCUMENT);
        if (isThere) {
            read(Files.readString(DOCUMENT, StandardCharsets.UTF_8));
        }
    }

    private void read(String text) {
        List<String> heads = new ArrayList<>(List.of("## Terms"));
        for (int promise = 1; promise <= PROMISES; promise++) {
            heads.add("## Promise " + promise + ":");
        }
        for (int part = 0; part <= PROMISES; part++) {
            Matcher found = Pattern.compile("(?ms)^" + Pattern.quote(heads.get(part)) + "[^\n]*\n(.*?)(?=^## |\\z)")
                    .matcher(text);
            boolean isFound = found.find();
            due.so("the document has " + heads.get(part), isFound);
            parts[part] = isFound ? plain(found.group(1)) : "";
            quoted[part] = new boolean[parts[part].length()];
        }
    }

    private static String plain(String text) {
        return text.replaceAll("(?m)^```.*$", "").replaceAll("\\s+", " ").trim();
    }

    /** These words, of the promise or of the terms, have a test of this promise. */
    void quote(int promise, String words) {
        tests[promise]++;
        if (!isThere) {
            return;
        }
        boolean isFound = mark(promise, words) || mark(0, words);
        due.so("promise " + promise + ": the document says \"" + words + "\"", isFound);
    }

    private boolean mark(int part, String words) {
        int at = parts[part].indexOf(words);
        for (int i = at; at >= 0 && i < at + words.length(); i++) {
            quoted[part][i] = true;
        }
        return at >= 0;
    }

    void lookForGaps() {
        for (int promise = 1; promise <= PROMISES; promise++) {
            due.so("promise " + promise + " has an edge test", tests[promise] > 0);
        }
        for (int part = 0; isThere && part <= PROMISES; part++) {
            Matcher piece = PIECE.matcher(parts[part]);
            while (piece.find()) {
                if (BOUNDARY.matcher(piece.group()).find()) {
                    due.so("no test quotes" + (part == 0 ? "" : " of promise " + part) + ": " + piece.group(),
                            isQuoted(part, piece.start(), piece.end()));
                }
            }
        }
    }

    private boolean isQuoted(int part, int start, int end) {
        for (int i = start; i < end; i++) {
            if (quoted[part][i]) {
                return true;
            }
        }
        return false;
    }
}
