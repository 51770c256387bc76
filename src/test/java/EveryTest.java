import java.util.ArrayList;
import java.util.List;

/**
 * Not drawn, but every one: all clouds on nine places with all calls that ask about them, and all short texts, answered
 * by CloudDepth and by Oracle alike.
 */
public final class EveryTest {
    private static final int MOST_CALLS = 512;
    private static final int SIDE = 3;
    /** Steps through the nine places, so that the POINTS' numbers come in unlike orders; none has 3 as a divisor. */
    private static final int[] STEPS = {1, 4, 5};

    private final String text;
    private Twins twins;

    private EveryTest(String text) {
        this.text = text;
    }

    public static void main(String[] args) throws Exception {
        for (int set = 0; set < 1 << SIDE * SIDE && Twins.wrong() < 5; set++) everyCall(set);
        everyText(new ArrayList<>());
        Twins.end();
    }

    // ---- clouds ----

    private static void everyCall(int set) throws Exception {
        StringBuilder lines = new StringBuilder("grid 2;");
        int many = 0;
        for (int i = 0; i < SIDE * SIDE; i++) {
            int place = i * STEPS[set % STEPS.length] % (SIDE * SIDE);
            if ((set >> place & 1) == 1) {
                lines.append("point ").append((char) ('a' + place)).append(' ')
                    .append(place % SIDE - 1).append(' ').append(place / SIDE - 1).append(';');
                many++;
            }
        }
        EveryTest test = new EveryTest(lines.toString());
        test.askAll(many);
        test.askPlaces();
        test.askLines(many);
        test.askParts(many);
    }

    /** A new pair of twins takes over before an object has had more calls than the document allows. */
    private void ask(String name, Object... args) throws Exception {
        if (twins == null || twins.calls() >= MOST_CALLS) {
            twins = new Twins();
            twins.tell(text);
            twins.call("read");
        }
        twins.call(name, args);
    }

    private void askAll(int many) throws Exception {
        for (int what = -1; what <= 15; what++) ask("count", what);
        ask("splits");
        for (int i = -2; i <= many; i++) {
            for (String name : new String[] {"corner", "layer", "edges", "cutOff", "bends", "keeping"}) ask(name, i);
        }
        int most = many * (many - 1) / 2;
        for (int i = -2; i <= most; i++) ask("halving", i);
        for (int p = 0; p < many; p++) {
            for (int what = 2; what <= 5; what++) ask("point", p, what);
            for (int q = 0; q < many; q++) {
                for (int what = 3; what <= 5; what++) ask("sides", p, q, what);
            }
        }
        for (int what = -1; what <= 4; what++) {
            ask("deepest", what);
            ask("best", what);
        }
        for (int k = 0; k <= many; k++) for (int what = 0; what <= 4; what++) ask("region", k, what);
    }

    private void askPlaces() throws Exception {
        for (int x = -2; x <= 2; x++) {
            for (int y = -2; y <= 2; y++) {
                ask("depth", x, y);
                ask("triangles", x, y);
                for (int what = 0; what <= 2; what++) ask("fresh", x, y, what);
                ask("fit", x, y);
            }
        }
    }

    private void askLines(int many) throws Exception {
        for (int x = -3; x <= 3; x++) for (int i = -1; i <= many; i++) ask("order", x, i);
        int most = many * (many - 1) / 2;
        for (int i = -1; i <= most; i++) for (int what = 0; what <= 3; what++) ask("crossing", i, what);
    }

    private void askParts(int many) throws Exception {
        for (int p = 0; p < many; p++) {
            for (int q = p + 1; q < many; q++) {
                for (int r = q + 1; r < many; r++) {
                    for (int s = r + 1; s < many; s++) ask("four", q, s, p, r);
                }
            }
        }
        // All sets of larger clouds would take long, and have little that those of the smaller ones have not.
        int sets = many > 6 ? 0 : 1 << many;
        for (int set = 0; set < sets; set++) {
            ask("isCutOff", set);
            for (int i = -1; i <= 2; i++) ask("halvingBoth", set, i);
        }
    }

    // ---- texts ----

    private static final String[] PIECES = {"point", "grid", "a", "b", "2", "51", "-", ";", "abcdefghi", "00002", "?"};
    private static final int MOST_PIECES = 13;

    /** Goes on with each piece from each text that some text goes on from. */
    private static void everyText(List<String> pieces) throws Exception {
        if (Twins.wrong() >= 5) return;
        boolean goesOn = goesOn(joined(pieces, false)) & goesOn(joined(pieces, true));
        if (!goesOn || pieces.size() == MOST_PIECES) return;
        for (String piece : PIECES) {
            pieces.add(piece);
            everyText(pieces);
            pieces.remove(pieces.size() - 1);
        }
    }

    private static boolean goesOn(String text) throws Exception {
        Twins twins = new Twins();
        twins.tell(text);
        int fault = twins.call("read");
        int place = twins.call("place");
        for (int what : new int[] {0, 1, 7}) twins.call("count", what);
        for (int p = 0; p < twins.ours.count(0); p++) for (int what = 0; what <= 1; what++) twins.call("point", p, what);
        return fault != 1 || place == text.length();
    }

    /** The pieces with many blanks about them, or with none where none is needed. */
    private static String joined(List<String> pieces, boolean wide) {
        StringBuilder text = new StringBuilder(wide ? " " : "");
        String ahead = ";";
        for (String piece : pieces) {
            boolean needsBlank = kindOf(ahead) == kindOf(piece) && kindOf(piece) != ' ';
            text.append(!wide && needsBlank ? " " : "").append(piece).append(wide ? "\r\n\t " : "");
            ahead = piece;
        }
        return text.toString();
    }

    private static char kindOf(String piece) {
        char first = piece.charAt(0);
        return Character.isLetter(first) ? 'a' : Character.isDigit(first) ? '0' : ' ';
    }
}
