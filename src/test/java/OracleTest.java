import java.util.Random;

/** Long runs of calls, drawn with fixed seeds, answered by CloudDepth and by Oracle alike. */
public final class OracleTest {
    private static final String[] CHEAP = {
        "point", "turned", "sides", "corner", "layer", "edges", "halving", "cutOff", "isCutOff", "depth", "triangles",
        "order", "crossing", "bends", "fit", "halvingBoth", "four", "keeping", "count"};
    private static final String[] DEAR = {"deepest", "region", "best", "splits", "fresh", "count"};
    private static final String[] HAND = {"add", "add", "add", "add", "goes", "move", "turn", "undo", "hold", "restore"};

    private final Random random;
    private final Twins twins = new Twins();
    private final CloudDepth ours = twins.ours;
    private final int reach;

    private OracleTest(long seed) {
        random = new Random(seed);
        reach = new int[] {1, 2, 3, 5, 10, 25, 50}[random.nextInt(7)];
    }

    public static void main(String[] args) throws Exception {
        int runs = Integer.getInteger("runs", 400);
        long seed = Long.getLong("seed", 1L);
        for (int i = 0; i < runs && Twins.wrong() < 5; i++) new OracleTest(seed * 1000003 + i).run();
        for (int i = 0; i < runs * 5 && Twins.wrong() < 5; i++) new OracleTest(seed * 7000003 + i).readTexts();
        for (int i = 0; i < runs / 4 && Twins.wrong() < 5; i++) new OracleTest(seed * 9000011 + i).workByHand();
        Twins.end();
    }

    private int call(String name, Object... args) throws Exception {
        return twins.call(name, args);
    }

    private int near(int limit) { return random.nextInt(2 * limit + 1) - limit; }

    private int number() {
        int n = ours.count(0);
        return random.nextInt(30) == 0 ? wild() : random.nextInt(Math.max(1, n)) + (random.nextInt(25) == 0 ? near(2) : 0);
    }

    private int wild() {
        int[] odd = {-1, -2, 12, 13, 31, 32, 50, 51, -50, -51, 200, 201, -200, -201, Integer.MAX_VALUE, Integer.MIN_VALUE, 4095, 4096, 1000, -1001};
        return odd[random.nextInt(odd.length)];
    }

    private int coordinate() { return random.nextInt(40) == 0 ? wild() : near(reach); }

    private int placeCoordinate() { return random.nextInt(30) == 0 ? wild() : near(random.nextInt(8) == 0 ? 200 : reach + 1); }

    private int set() { return random.nextInt(25) == 0 ? wild() : random.nextInt(1 << ours.count(0)); }

    private int index(int many) { return random.nextInt(25) == 0 ? wild() : random.nextInt(Math.max(1, many) + 2) - 1; }

    private void run() throws Exception {
        twins.tell(text());
        call("read");
        call("place");
        int target = 30 + random.nextInt(60);
        int limit = random.nextInt(13);
        while (twins.calls() < target && !twins.failed()) {
            int kind = random.nextInt(20);
            if (kind < 5 || ours.count(0) < limit && kind < 10) hand(HAND[random.nextInt(HAND.length)]);
            else if (kind < 19) ask(CHEAP[random.nextInt(CHEAP.length)]);
            else ask(DEAR[random.nextInt(DEAR.length)]);
        }
        for (int what = -1; what <= 15 && !twins.failed(); what++) call("count", what);
        call("splits");
        for (int i = -1; i <= ours.count(0); i++) call("bends", i);
        for (int p = 0; p < ours.count(0); p++) for (int what = 2; what <= 5; what++) call("point", p, what);
        for (int what = 1; what <= 4; what++) call("region", ours.deepest(0), what);
    }

    /** As many calls as an object is used for, so that far more is done by hand than can be undone. */
    private void workByHand() throws Exception {
        int undoing = 2 + random.nextInt(5);
        while (twins.calls() < 480 && !twins.failed()) {
            int kind = random.nextInt(60);
            if (kind == 0) {
                twins.tell(random.nextBoolean() ? text() : "grid 3");
                call("read");
            } else if (kind < 3) {
                for (int i = 0; i < 10 * undoing; i++) call("undo");
            } else {
                hand(kind < 10 ? "goes" : HAND[random.nextInt(HAND.length)]);
            }
            for (int what = 7; what <= 9; what++) call("count", what);
            int p = random.nextInt(13);
            call("point", p, random.nextInt(2));
            call("count", 2 + random.nextInt(3));
        }
    }

    private void hand(String name) throws Exception {
        switch (name) {
            case "add" -> call(name, coordinate(), coordinate());
            case "goes" -> call(name, number());
            case "move" -> call(name, number(), coordinate(), coordinate());
            case "turn" -> call(name, random.nextBoolean());
            case "undo" -> call(name);
            default -> call(name, index(3));
        }
    }

    private void ask(String name) throws Exception {
        switch (name) {
            case "point" -> call(name, number(), index(6));
            case "turned" -> call(name, number(), number(), number(), index(2));
            case "sides" -> call(name, number(), number(), index(6));
            case "corner", "layer", "edges", "cutOff", "bends", "keeping" -> call(name, index(ours.count(0)));
            case "halving" -> call(name, index(ours.halving(-1)));
            case "isCutOff" -> call(name, set());
            case "depth", "triangles" -> call(name, placeCoordinate(), placeCoordinate());
            case "deepest", "best" -> call(name, index(4));
            case "region" -> call(name, index(ours.deepest(0) + 1), index(5));
            case "order" -> call(name, random.nextInt(10) == 0 ? near(1100) : near(4), index(ours.count(0)));
            case "crossing" -> call(name, index(ours.crossing(-1, 0)), index(4));
            case "fit" -> call(name, random.nextInt(10) == 0 ? near(110) : near(3), random.nextInt(10) == 0 ? near(11000) : near(2 * reach));
            case "halvingBoth" -> { int s = set(); call(name, s, index(ours.halvingBoth(s, -1))); }
            case "four" -> call(name, number(), number(), number(), number());
            case "splits" -> call(name);
            case "fresh" -> call(name, coordinate(), coordinate(), index(3));
            default -> call(name, index(15));
        }
    }

    private String text() {
        StringBuilder text = new StringBuilder();
        int lines = random.nextInt(10) == 0 ? 12 + random.nextInt(3) : random.nextInt(12);
        for (int i = 0; i < lines; i++) {
            if (random.nextInt(6) == 0) text.append("grid ").append(1 + random.nextInt(random.nextInt(6) == 0 ? 22 : 6)).append(';');
            text.append("point ").append(random.nextInt(40) == 0 ? "a" : "n" + (char) ('a' + i)).append(' ')
                .append(near(reach)).append(' ').append(near(reach)).append(random.nextBoolean() ? ";" : "; \n");
        }
        return text.toString();
    }

    private static final String[] BITS = {"point", "grid", "a", "abcdefgh", "abcdefghi", "0", "50", "51", "9999", "12345", "-", ";", " ", "\t", "\r\n",
        ".", "A", "\u00e9", "\0", "gridd", "poin", "points", "{", "+", ",", "\u000b", "007", "20", "21"};

    /** Texts with one or more bits changed, so that FAULTS of all kinds stand at all places. */
    private void readTexts() throws Exception {
        StringBuilder text = new StringBuilder(random.nextInt(8) == 0 ? many() : text());
        int changes = random.nextInt(4);
        for (int i = 0; i < changes; i++) {
            int at = random.nextInt(text.length() + 1);
            if (random.nextBoolean() && at < text.length()) text.delete(at, Math.min(text.length(), at + 1 + random.nextInt(3)));
            if (random.nextBoolean()) text.insert(Math.min(at, text.length()), BITS[random.nextInt(BITS.length)]);
        }
        if (random.nextInt(4) == 0) text.setLength(random.nextInt(text.length() + 1));
        if (text.length() > 2000) text.setLength(2000);
        twins.tell(text.toString());
        call("add", 1, 1);
        call("hold", 1);
        call("read");
        for (int what : new int[] {0, 1, 7, 8, 9}) call("count", what);
        call("place");
        for (int i = 0; i < ours.count(0); i++) {
            call("point", i, 0);
            call("point", i, 1);
        }
    }

    /** About as many TOKENS as a text may have. */
    private String many() {
        StringBuilder text = new StringBuilder();
        int lines = 125 + random.nextInt(10);
        for (int i = 0; i < lines; i++) text.append(i == 100 ? "point z 1 2;" : "grid " + (1 + random.nextInt(20)) + ";");
        return text.toString();
    }
}
