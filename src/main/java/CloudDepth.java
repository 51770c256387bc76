import java.util.Arrays;

/** Points of a cloud and how deep places lie in it, as ../shared/DOC.md promises. */
public final class CloudDepth {
    public static final int NONE = -1;

    private static final int NO_ANSWER = -100000;
    private static final int ON_ONE_LINE = -2;
    private static final int MOST_POINTS = 12;
    private static final int MOST_PAIRS = 66;
    private static final int POINT_REACH = 50;
    private static final int PLACE_REACH = 200;
    private static final int ORDER_REACH = 1000;
    private static final int USUAL_GRID = 10;
    private static final int MOST_GRID = 20;
    private static final int GRID_PLACES = 1681;
    private static final int TAPE_ROOM = 2000;
    private static final int FEED_BYTES = 20;
    private static final int MOST_UNDONE = 40;
    private static final int SLOT_COUNT = 3;

    private static final int LEFT = 1;
    private static final int ON = 0;
    private static final int RIGHT = -1;

    private final Tape tape;
    private final TextReader reader;
    private final Cloud cloud;
    private final Cloud trial;
    private final Hulls hulls;
    private final Depths depths;
    private final Cuts cuts;
    private final Lines lines;
    private final Fits fits;
    private final Shapes shapes;
    private final Shelf past;
    private final Shelf slots;
    private final boolean[] slotHolds;
    private int undoable;
    private int nextPast;

    public CloudDepth() {
        tape = new Tape();
        reader = new TextReader(tape);
        cloud = new Cloud();
        trial = new Cloud();
        hulls = new Hulls();
        depths = new Depths();
        cuts = new Cuts();
        lines = new Lines();
        fits = new Fits();
        shapes = new Shapes();
        past = new Shelf(MOST_UNDONE);
        slots = new Shelf(SLOT_COUNT);
        slotHolds = new boolean[SLOT_COUNT];
    }

    // ---- the text ----

    public int feed(int a, int b, int c, int d, int e) {
        if (tape.length > TAPE_ROOM - FEED_BYTES) {
            return NONE;
        }
        tape.push(a);
        tape.push(b);
        tape.push(c);
        tape.push(d);
        tape.push(e);
        return tape.length;
    }

    public int back(int n) {
        if (n < 0 || n > tape.length) {
            return NONE;
        }
        tape.length -= n;
        return tape.length;
    }

    public int read() {
        int fault = reader.parse();
        tape.length = 0;
        if (fault == 0) {
            cloud.takeFrom(reader.told);
            forgetPast();
            emptySlots();
        }
        return fault;
    }

    public int place() {
        return reader.faultPlace;
    }

    // ---- by hand ----

    public int add(int x, int y) {
        if (cloud.size >= MOST_POINTS || !cloud.isFree(x, y)) {
            return NONE;
        }
        rememberPast();
        cloud.append(x, y);
        return cloud.size - 1;
    }

    public boolean goes(int point) {
        if (!cloud.has(point)) {
            return false;
        }
        rememberPast();
        cloud.drop(point);
        return true;
    }

    public boolean move(int point, int x, int y) {
        if (!cloud.has(point) || !cloud.isFree(x, y)) {
            return false;
        }
        rememberPast();
        cloud.put(point, x, y);
        return true;
    }

    public boolean turn(boolean mirrored) {
        if (cloud.size == 0) {
            return false;
        }
        rememberPast();
        if (mirrored) {
            cloud.mirror();
        } else {
            cloud.turnQuarter();
        }
        return true;
    }

    public boolean undo() {
        if (undoable == 0) {
            return false;
        }
        undoable--;
        nextPast = (nextPast + MOST_UNDONE - 1) % MOST_UNDONE;
        past.give(nextPast, cloud);
        return true;
    }

    public boolean hold(int slot) {
        if (slot < 0 || slot >= SLOT_COUNT) {
            return false;
        }
        slots.keep(slot, cloud);
        slotHolds[slot] = true;
        return true;
    }

    public boolean restore(int slot) {
        if (slot < 0 || slot >= SLOT_COUNT || !slotHolds[slot]) {
            return false;
        }
        slots.give(slot, cloud);
        forgetPast();
        return true;
    }

    // The shelf is a ring: the 41st thing done takes the oldest one's row.
    private void rememberPast() {
        past.keep(nextPast, cloud);
        nextPast = (nextPast + 1) % MOST_UNDONE;
        undoable = Math.min(undoable + 1, MOST_UNDONE);
    }

    private void forgetPast() {
        undoable = 0;
        nextPast = 0;
    }

    private void emptySlots() {
        for (int slot = 0; slot < SLOT_COUNT; slot++) {
            slotHolds[slot] = false;
        }
    }

    // ---- points, sides, hulls ----

    public int point(int point, int what) {
        if (!cloud.has(point)) {
            return NO_ANSWER;
        }
        switch (what) {
            case 0:
                return cloud.xs[point];
            case 1:
                return cloud.ys[point];
            case 2:
                hulls.peel(cloud);
                return hulls.layerWith(point);
            case 3:
                return depths.depthAt(cloud, cloud.xs[point], cloud.ys[point]);
            case 4:
                hulls.peel(cloud);
                return bit(Hulls.cornersOf(cloud, hulls.layerBits(hulls.layerWith(point))), point);
            case 5:
                return shapes.shareOf(cloud, point);
            default:
                return NO_ANSWER;
        }
    }

    public int turned(int p, int q, int r, int what) {
        if (!cloud.has(p) || !cloud.has(q) || !cloud.has(r)) {
            return NO_ANSWER;
        }
        int turn = cloud.turnOf(p, q, r);
        switch (what) {
            case 0:
                return turn;
            case 1:
                return signOf(turn);
            default:
                return NO_ANSWER;
        }
    }

    public int sides(int p, int q, int what) {
        if (!cloud.has(p) || !cloud.has(q) || p == q) {
            return NONE;
        }
        switch (what) {
            case 0:
                return Integer.bitCount(cloud.sideBits(p, q, LEFT));
            case 1:
                return Integer.bitCount(cloud.sideBits(p, q, RIGHT));
            case 2:
                return Integer.bitCount(cloud.sideBits(p, q, ON));
            case 3:
                return cloud.sideBits(p, q, LEFT);
            case 4:
                return cloud.sideBits(p, q, RIGHT);
            case 5:
                return cloud.sideBits(p, q, ON);
            default:
                return NONE;
        }
    }

    public int corner(int i) {
        hulls.walk(cloud);
        return i == NONE ? hulls.cornerCount : hulls.cornerAt(i);
    }

    public int layer(int i) {
        hulls.peel(cloud);
        if (i == NONE) {
            return hulls.layerCount;
        }
        return i >= 0 && i < hulls.layerCount ? hulls.layerBits(i) : NONE;
    }

    public int edges(int k) {
        int many = 0;
        for (int p = 0; p < cloud.size; p++) {
            for (int q = 0; q < cloud.size; q++) {
                if (p != q && Integer.bitCount(cloud.sideBits(p, q, RIGHT)) == k) {
                    many++;
                }
            }
        }
        return many;
    }

    public int halving(int i) {
        int many = 0;
        for (int p = 0; p < cloud.size; p++) {
            for (int q = p + 1; q < cloud.size; q++) {
                if (cloud.isHalved(p, q, cloud.everyone())) {
                    if (many == i) {
                        return 16 * p + q;
                    }
                    many++;
                }
            }
        }
        return i == NONE ? many : NONE;
    }

    public int halvingBoth(int set, int i) {
        if (!cloud.hasSet(set)) {
            return NONE;
        }
        int others = cloud.everyone() & ~set;
        int many = 0;
        for (int p = 0; p < cloud.size; p++) {
            for (int q = 0; q < cloud.size; q++) {
                if (bit(set, p) == 1 && bit(others, q) == 1
                        && cloud.isHalved(p, q, set) && cloud.isHalved(p, q, others)) {
                    if (many == i) {
                        return 16 * p + q;
                    }
                    many++;
                }
            }
        }
        return i == NONE ? many : NONE;
    }

    // ---- sets that a line cuts off ----

    public int cutOff(int k) {
        cuts.find(cloud);
        return cuts.countOfSize(cloud, k);
    }

    public int isCutOff(int set) {
        if (!cloud.hasSet(set)) {
            return NONE;
        }
        cuts.find(cloud);
        return cuts.found.isMarked(set) ? 1 : 0;
    }

    // Two hulls have no place in common just if a line parts them, so the pairs that are no SPLIT
    // are the sets that are CUT OFF, each with the one of all others.
    public int splits() {
        if (cloud.size < 2) {
            return 0;
        }
        cuts.find(cloud);
        int parted = (cuts.countAll(cloud) - 2) / 2;
        return (1 << (cloud.size - 1)) - 1 - parted;
    }

    // ---- depth ----

    public int depth(int x, int y) {
        return isPlace(x, y) ? depths.depthAt(cloud, x, y) : NONE;
    }

    public int deepest(int what) {
        depths.survey(cloud);
        switch (what) {
            case 0:
                return depths.greatest;
            case 1:
                return depths.greatestCount;
            case 2:
                return depths.firstX;
            case 3:
                return depths.firstY;
            default:
                return NO_ANSWER;
        }
    }

    public int region(int k, int what) {
        if (what < 0 || what > 4) {
            return NO_ANSWER;
        }
        depths.survey(cloud);
        depths.bound(cloud, k);
        if (what == 0) {
            return depths.regionCount;
        }
        if (depths.regionCount == 0) {
            return NO_ANSWER;
        }
        switch (what) {
            case 1:
                return depths.leastX;
            case 2:
                return depths.mostX;
            case 3:
                return depths.leastY;
            default:
                return depths.mostY;
        }
    }

    public int fresh(int x, int y, int what) {
        if (what < 0 || what > 2 || cloud.size >= MOST_POINTS || !cloud.isFree(x, y)) {
            return NONE;
        }
        trial.takeFrom(cloud);
        trial.append(x, y);
        if (what == 0) {
            hulls.peel(trial);
            return hulls.layerCount;
        }
        if (what == 1) {
            return depths.greatestOf(trial);
        }
        return Integer.bitCount(Hulls.cornersOf(trial, trial.everyone()));
    }

    // ---- shapes ----

    public int triangles(int x, int y) {
        return isPlace(x, y) ? shapes.trianglesAbout(cloud, x, y) : NONE;
    }

    public int four(int p, int q, int r, int s) {
        if (!cloud.has(p) || !cloud.has(q) || !cloud.has(r) || !cloud.has(s)) {
            return NONE;
        }
        int set = 1 << p | 1 << q | 1 << r | 1 << s;
        return Integer.bitCount(set) == 4 ? shapes.partWithLeast(cloud, set) : NONE;
    }

    public int keeping(int point) {
        return cloud.has(point) ? shapes.keepingPlaces(cloud, point) : NONE;
    }

    // ---- points as lines ----

    public int order(int x, int i) {
        if (x < -ORDER_REACH || x > ORDER_REACH) {
            return NONE;
        }
        return Lines.lineAt(cloud, i, x, 1, Lines.BEHIND);
    }

    public int crossing(int i, int what) {
        lines.cross(cloud);
        if (i == NONE) {
            return lines.crossings;
        }
        if (i < 0 || i >= lines.crossings) {
            return NO_ANSWER;
        }
        switch (what) {
            case 0:
                return lines.over(cloud, i) / lines.divisor(cloud, i);
            case 1:
                return lines.under(cloud, i) / lines.divisor(cloud, i);
            case 2:
                return lines.lesser(i);
            case 3:
                return lines.other(i);
            default:
                return NO_ANSWER;
        }
    }

    public int bends(int i) {
        if (!cloud.has(i)) {
            return NONE;
        }
        lines.cross(cloud);
        return lines.bendsOf(cloud, i);
    }

    // ---- fits ----

    public int fit(int a, int b) {
        if (a < -100 || a > 100 || b < -10000 || b > 10000) {
            return NONE;
        }
        fits.arrange(cloud);
        return fits.fitOf(cloud, a, b);
    }

    public int best(int what) {
        fits.search(cloud);
        switch (what) {
            case 0:
                return fits.greatest;
            case 1:
                return fits.firstA;
            case 2:
                return fits.firstB;
            case 3:
                return fits.greatestCount;
            default:
                return NO_ANSWER;
        }
    }

    // ---- counts ----

    public int count(int what) {
        switch (what) {
            case 0:
                return cloud.size;
            case 1:
                return cloud.grid;
            case 2:
                hulls.walk(cloud);
                return hulls.areaTwice(cloud);
            case 3:
                return Hulls.cornersOf(cloud, cloud.everyone());
            case 4:
                return shapes.triplesOnOneLine(cloud);
            case 5:
                return greatestPointDepth();
            case 6:
                return pointsOfDepth(greatestPointDepth());
            case 7:
                return tape.length;
            case 8:
                return undoable;
            case 9:
                return slotsInUse();
            case 10:
                return thirdPart();
            case 11:
                depths.survey(cloud);
                return depths.greatest >= thirdPart() ? 1 : 0;
            case 12:
                return shapes.greatestConvex(cloud);
            case 13:
                return shapes.emptyTriangles(cloud);
            case 14:
                return shapes.meetingPairs(cloud);
            default:
                return NONE;
        }
    }

    private int greatestPointDepth() {
        int greatest = 0;
        for (int p = 0; p < cloud.size; p++) {
            greatest = Math.max(greatest, depths.depthAt(cloud, cloud.xs[p], cloud.ys[p]));
        }
        return greatest;
    }

    private int pointsOfDepth(int wanted) {
        int set = 0;
        for (int p = 0; p < cloud.size; p++) {
            if (depths.depthAt(cloud, cloud.xs[p], cloud.ys[p]) == wanted) {
                set |= 1 << p;
            }
        }
        return set;
    }

    private int slotsInUse() {
        int many = 0;
        for (int slot = 0; slot < SLOT_COUNT; slot++) {
            if (slotHolds[slot]) {
                many++;
            }
        }
        return many;
    }

    private int thirdPart() {
        return (cloud.size + 2) / 3;
    }

    // ---- small helps ----

    private static boolean isPlace(int x, int y) {
        return x >= -PLACE_REACH && x <= PLACE_REACH && y >= -PLACE_REACH && y <= PLACE_REACH;
    }

    private static boolean isWithinReach(int coordinate) {
        return coordinate >= -POINT_REACH && coordinate <= POINT_REACH;
    }

    private static int signOf(int number) {
        return number > 0 ? LEFT : number < 0 ? RIGHT : ON;
    }

    private static int bit(int set, int p) {
        return set >> p & 1;
    }

    /** The bytes that wait to be read, and the TOKENS in them, one at a time. */
    private static final class Tape {
        static final int NOTHING = 0;
        static final int POINT_WORD = 1;
        static final int GRID_WORD = 2;
        static final int NAME = 3;
        static final int INT = 4;
        static final int MINUS = 5;
        static final int SEMICOLON = 6;

        private static final int MOST_LETTERS = 8;
        private static final int MOST_DIGITS = 4;

        private final int[] bytes = new int[TAPE_ROOM];
        int length;
        /** Where the token begins. */
        int start;
        int kind;
        int number;
        long name;
        private int next;

        void push(int word) {
            for (int shift = 24; shift >= 0; shift -= 8) {
                if (length < TAPE_ROOM) {
                    bytes[length] = word >> shift & 255;
                    length++;
                }
            }
        }

        void rewind() {
            next = 0;
        }

        /** Goes to the next token, or to what is none; false at the text's end. */
        boolean advance() {
            start = next;
            while (start < length && isBlank(byteAt(start))) {
                start++;
            }
            next = start;
            if (start >= length) {
                return false;
            }
            int first = byteAt(start);
            if (isLetter(first)) {
                scanLetters();
            } else if (isDigit(first)) {
                scanDigits();
            } else {
                next = start + 1;
                kind = first == '-' ? MINUS : first == ';' ? SEMICOLON : NOTHING;
            }
            return true;
        }

        // Eight letters at most count, so a name fits a long as digits of base 27.
        private void scanLetters() {
            name = 0;
            while (next < length && isLetter(byteAt(next))) {
                name = name * 27 + (byteAt(next) - 'a' + 1);
                next++;
            }
            if (next - start > MOST_LETTERS) {
                kind = NOTHING;
            } else if (spells("point")) {
                kind = POINT_WORD;
            } else if (spells("grid")) {
                kind = GRID_WORD;
            } else {
                kind = NAME;
            }
        }

        private boolean spells(String word) {
            if (next - start != word.length()) {
                return false;
            }
            for (int i = 0; i < word.length(); i++) {
                if (byteAt(start + i) != word.charAt(i)) {
                    return false;
                }
            }
            return true;
        }

        private void scanDigits() {
            number = 0;
            while (next < length && isDigit(byteAt(next))) {
                number = number * 10 + (byteAt(next) - '0');
                next++;
            }
            kind = next - start > MOST_DIGITS ? NOTHING : INT;
        }

        private int byteAt(int i) {
            return i >= 0 && i < TAPE_ROOM ? bytes[i] : NONE;
        }

        private static boolean isBlank(int sign) {
            return sign == 9 || sign == 10 || sign == 13 || sign == 32;
        }

        private static boolean isLetter(int sign) {
            return sign >= 'a' && sign <= 'z';
        }

        private static boolean isDigit(int sign) {
            return sign >= '0' && sign <= '9';
        }
    }

    /** Reads a text into a cloud of its own and finds its first FAULT. */
    private static final class TextReader {
        private static final int SYNTAX = 1;
        private static final int ROOM = 2;
        private static final int TWICE = 3;
        private static final int WRONG = 5;
        private static final int MOST_TOKENS = 400;

        private static final int AT_TELL = 0;
        private static final int AT_NAME = 1;
        private static final int AT_X = 2;
        private static final int AT_X_INT = 3;
        private static final int AT_Y = 4;
        private static final int AT_Y_INT = 5;
        private static final int AT_GRID_INT = 6;
        private static final int AT_END = 7;

        final Cloud told = new Cloud();
        int faultPlace = NONE;
        private final Tape tape;
        private final long[] names = new long[MOST_POINTS];
        private int fault;
        private int state;
        private int tokenCount;
        private int pointLines;
        private int x;
        private boolean minus;

        TextReader(Tape tape) {
            this.tape = tape;
        }

        /** The number of the FAULT, 0 without; faultPlace is its place. */
        int parse() {
            reset();
            for (int step = 0; step <= TAPE_ROOM && tape.advance(); step++) {
                int hard = hardFault();
                if (hard != 0) {
                    return endWith(hard, tape.start);
                }
                take();
                state = following(state, tape.kind);
            }
            if (state != AT_TELL) {
                return endWith(SYNTAX, tape.length);
            }
            return fault;
        }

        private void reset() {
            tape.rewind();
            told.clear();
            fault = 0;
            faultPlace = NONE;
            state = AT_TELL;
            tokenCount = 0;
            pointLines = 0;
            minus = false;
        }

        private int endWith(int number, int at) {
            fault = number;
            faultPlace = at;
            return number;
        }

        /** SYNTAX or ROOM at the token; they end the reading, whatever soft fault stands ahead. */
        private int hardFault() {
            if (following(state, tape.kind) == NONE) {
                return SYNTAX;
            }
            tokenCount++;
            if (tape.kind == Tape.POINT_WORD) {
                pointLines++;
            }
            return tokenCount > MOST_TOKENS || pointLines > MOST_POINTS ? ROOM : 0;
        }

        private static int following(int state, int kind) {
            switch (state) {
                case AT_TELL:
                    return kind == Tape.POINT_WORD ? AT_NAME
                            : kind == Tape.GRID_WORD ? AT_GRID_INT : NONE;
                case AT_NAME:
                    return kind == Tape.NAME ? AT_X : NONE;
                case AT_X:
                    return kind == Tape.MINUS ? AT_X_INT : kind == Tape.INT ? AT_Y : NONE;
                case AT_X_INT:
                    return kind == Tape.INT ? AT_Y : NONE;
                case AT_Y:
                    return kind == Tape.MINUS ? AT_Y_INT : kind == Tape.INT ? AT_END : NONE;
                case AT_Y_INT:
                case AT_GRID_INT:
                    return kind == Tape.INT ? AT_END : NONE;
                default:
                    return kind == Tape.SEMICOLON ? AT_TELL : NONE;
            }
        }

        // A soft fault is kept, the first alone, until no hard one is found behind it.
        private void take() {
            if (fault != 0) {
                return;
            }
            switch (tape.kind) {
                case Tape.NAME:
                    takeName();
                    break;
                case Tape.MINUS:
                    minus = true;
                    break;
                case Tape.INT:
                    takeNumber(minus ? -tape.number : tape.number);
                    minus = false;
                    break;
                default:
                    break;
            }
        }

        private void takeName() {
            for (int i = 0; i < told.size; i++) {
                if (names[i] == tape.name) {
                    endWith(TWICE, tape.start);
                }
            }
            if (told.size < MOST_POINTS) {
                names[told.size] = tape.name;
            }
        }

        private void takeNumber(int value) {
            if (state == AT_GRID_INT) {
                takeGrid(value);
            } else if (!isWithinReach(value)) {
                endWith(WRONG, tape.start);
            } else if (state == AT_X || state == AT_X_INT) {
                x = value;
            } else if (told.isFree(x, value)) {
                told.append(x, value);
            } else {
                endWith(TWICE, tape.start);
            }
        }

        private void takeGrid(int value) {
            if (value < 1 || value > MOST_GRID) {
                endWith(WRONG, tape.start);
            } else {
                told.grid = value;
            }
        }
    }

    /** The POINTS and the GRID. */
    private static final class Cloud {
        final int[] xs = new int[MOST_POINTS];
        final int[] ys = new int[MOST_POINTS];
        int size;
        int grid = USUAL_GRID;
        /** Unlike after each change, so that what was reckoned can be known as stale. */
        int stamp;

        boolean has(int p) {
            return p >= 0 && p < size;
        }

        boolean hasSet(int set) {
            return set >= 0 && set <= everyone();
        }

        int everyone() {
            return (1 << size) - 1;
        }

        boolean isTaken(int x, int y) {
            for (int p = 0; p < size; p++) {
                if (xs[p] == x && ys[p] == y) {
                    return true;
                }
            }
            return false;
        }

        boolean isFree(int x, int y) {
            return isWithinReach(x) && isWithinReach(y) && !isTaken(x, y);
        }

        void clear() {
            size = 0;
            grid = USUAL_GRID;
            stamp++;
        }

        void append(int x, int y) {
            if (size < MOST_POINTS) {
                xs[size] = x;
                ys[size] = y;
                size++;
                stamp++;
            }
        }

        void put(int p, int x, int y) {
            if (has(p)) {
                xs[p] = x;
                ys[p] = y;
                stamp++;
            }
        }

        void drop(int p) {
            if (has(p)) {
                for (int i = p; i + 1 < size; i++) {
                    xs[i] = xs[i + 1];
                    ys[i] = ys[i + 1];
                }
                size--;
                stamp++;
            }
        }

        void turnQuarter() {
            for (int p = 0; p < size; p++) {
                put(p, -ys[p], xs[p]);
            }
        }

        void mirror() {
            for (int p = 0; p < size; p++) {
                put(p, -xs[p], ys[p]);
            }
        }

        void takeFrom(Cloud other) {
            clear();
            for (int p = 0; p < other.size; p++) {
                append(other.xs[p], other.ys[p]);
            }
            grid = other.grid;
        }

        int turnAt(int p, int q, int x, int y) {
            return (xs[q] - xs[p]) * (y - ys[p]) - (ys[q] - ys[p]) * (x - xs[p]);
        }

        int turnOf(int p, int q, int r) {
            return turnAt(p, q, xs[r], ys[r]);
        }

        /** The POINTS besides p and q that are LEFT, ON or RIGHT of them, as bits. */
        int sideBits(int p, int q, int side) {
            int set = 0;
            for (int r = 0; r < size; r++) {
                if (r != p && r != q && signOf(turnAt(p, q, xs[r], ys[r])) == side) {
                    set |= 1 << r;
                }
            }
            return set;
        }

        /** Whether neither side of p, q has more than half of a set. */
        boolean isHalved(int p, int q, int set) {
            int all = Integer.bitCount(set);
            return 2 * Integer.bitCount(sideBits(p, q, LEFT) & set) <= all
                    && 2 * Integer.bitCount(sideBits(p, q, RIGHT) & set) <= all;
        }

        /** How far r is along the way from p to q. */
        int wayAlong(int p, int q, int r) {
            return (xs[q] - xs[p]) * (xs[r] - xs[p]) + (ys[q] - ys[p]) * (ys[r] - ys[p]);
        }
    }

    /** Rows in which clouds are kept. */
    private static final class Shelf {
        private final int[][] rows;

        Shelf(int rowCount) {
            rows = new int[Math.max(0, rowCount)][2 + 2 * MOST_POINTS];
        }

        void keep(int row, Cloud cloud) {
            if (row >= 0 && row < rows.length) {
                int[] cells = rows[row];
                cells[0] = cloud.grid;
                cells[1] = cloud.size;
                for (int p = 0; p < cloud.size; p++) {
                    cells[2 + 2 * p] = cloud.xs[p];
                    cells[3 + 2 * p] = cloud.ys[p];
                }
            }
        }

        void give(int row, Cloud cloud) {
            if (row >= 0 && row < rows.length) {
                int[] cells = rows[row];
                cloud.clear();
                cloud.grid = cells[0];
                for (int p = 0; p < MOST_POINTS && p < cells[1]; p++) {
                    cloud.append(cells[2 + 2 * p], cells[3 + 2 * p]);
                }
            }
        }
    }

    /** HULLS, their CORNERS and LAYERS. */
    private static final class Hulls {
        private final int[] layers = new int[MOST_POINTS];
        private final int[] corners = new int[MOST_POINTS];
        int layerCount;
        int cornerCount;

        void peel(Cloud cloud) {
            int left = cloud.everyone();
            layerCount = 0;
            for (int i = 0; i < MOST_POINTS && left != 0; i++) {
                layers[i] = rimOf(cloud, left);
                left &= ~layers[i];
                layerCount++;
            }
        }

        int layerBits(int i) {
            return i >= 0 && i < layerCount ? layers[i] : 0;
        }

        int layerWith(int p) {
            for (int i = 0; i < layerCount; i++) {
                if (bit(layers[i], p) == 1) {
                    return i;
                }
            }
            return NONE;
        }

        /** Puts the CORNERS of all in their order. */
        void walk(Cloud cloud) {
            int set = cornersOf(cloud, cloud.everyone());
            int many = Integer.bitCount(set);
            int at = lowestOf(cloud, set);
            cornerCount = 0;
            for (int i = 0; i < many && i < MOST_POINTS; i++) {
                corners[i] = at;
                cornerCount++;
                at = nextCorner(cloud, set, at);
            }
        }

        int cornerAt(int i) {
            return i >= 0 && i < cornerCount ? corners[i] : NONE;
        }

        int areaTwice(Cloud cloud) {
            int area = 0;
            for (int i = 2; i < cornerCount; i++) {
                area += cloud.turnOf(corners[0], corners[i - 1], corners[i]);
            }
            return area;
        }

        static int cornersOf(Cloud cloud, int set) {
            int rim = rimOf(cloud, set);
            int found = 0;
            for (int p = 0; p < cloud.size; p++) {
                if (bit(rim, p) == 1 && !isBetweenOthers(cloud, rim, p)) {
                    found |= 1 << p;
                }
            }
            return found;
        }

        static int rimOf(Cloud cloud, int set) {
            int rim = 0;
            for (int p = 0; p < cloud.size; p++) {
                if (bit(set, p) == 1 && isOnRim(cloud, set, p)) {
                    rim |= 1 << p;
                }
            }
            return rim;
        }

        // A POINT of the rim has a next one on it, of which none is RIGHT.
        private static boolean isOnRim(Cloud cloud, int set, int p) {
            if (set == 1 << p) {
                return true;
            }
            for (int q = 0; q < cloud.size; q++) {
                if (q != p && bit(set, q) == 1 && (cloud.sideBits(p, q, RIGHT) & set) == 0) {
                    return true;
                }
            }
            return false;
        }

        private static boolean isBetweenOthers(Cloud cloud, int set, int p) {
            for (int q = 0; q < cloud.size; q++) {
                for (int r = q + 1; r < cloud.size; r++) {
                    if (q != p && r != p && bit(set, q) == 1 && bit(set, r) == 1
                            && cloud.turnOf(p, q, r) == 0 && cloud.wayAlong(p, q, r) < 0) {
                        return true;
                    }
                }
            }
            return false;
        }

        private static int lowestOf(Cloud cloud, int set) {
            int lowest = NONE;
            for (int p = 0; p < cloud.size; p++) {
                if (bit(set, p) == 1 && (lowest == NONE || cloud.ys[p] < cloud.ys[lowest]
                        || cloud.ys[p] == cloud.ys[lowest] && cloud.xs[p] < cloud.xs[lowest])) {
                    lowest = p;
                }
            }
            return lowest;
        }

        private static int nextCorner(Cloud cloud, int set, int at) {
            for (int q = 0; q < cloud.size; q++) {
                if (q != at && bit(set, q) == 1 && (cloud.sideBits(at, q, RIGHT) & set) == 0) {
                    return q;
                }
            }
            return at;
        }
    }

    /** A mark for each set of POINTS. */
    private static final class SetMarks {
        private final int[] words = new int[128];

        void clear() {
            Arrays.fill(words, 0);
        }

        void mark(int set) {
            words[set >> 5 & 127] |= 1 << (set & 31);
        }

        boolean isMarked(int set) {
            return (words[set >> 5 & 127] >> (set & 31) & 1) == 1;
        }
    }

    /** The sets that are CUT OFF. */
    private static final class Cuts {
        final SetMarks found = new SetMarks();
        private int stamp = NONE;

        void find(Cloud cloud) {
            if (stamp == cloud.stamp) {
                return;
            }
            stamp = cloud.stamp;
            found.clear();
            found.mark(0);
            found.mark(cloud.everyone());
            for (int p = 0; p < cloud.size; p++) {
                for (int q = p + 1; q < cloud.size; q++) {
                    cutAlong(cloud, p, q);
                }
            }
        }

        // A line that parts a set from the others can be brought to where it has one of each on it;
        // turned back by a little it parts those on it at any one place, or has all on one side.
        private void cutAlong(Cloud cloud, int p, int q) {
            int left = cloud.sideBits(p, q, LEFT);
            int right = cloud.sideBits(p, q, RIGHT);
            int on = cloud.sideBits(p, q, ON) | 1 << p | 1 << q;
            markBoth(left, right, on, 0);
            for (int r = 0; r < cloud.size; r++) {
                if (bit(on, r) == 1) {
                    markBoth(left, right, on, upTo(cloud, p, q, r) & on);
                }
            }
        }

        private void markBoth(int left, int right, int on, int ahead) {
            int behind = on & ~ahead;
            found.mark(left | ahead);
            found.mark(left | behind);
            found.mark(right | ahead);
            found.mark(right | behind);
        }

        private static int upTo(Cloud cloud, int p, int q, int r) {
            int limit = cloud.wayAlong(p, q, r);
            int set = 0;
            for (int s = 0; s < cloud.size; s++) {
                if (cloud.wayAlong(p, q, s) <= limit) {
                    set |= 1 << s;
                }
            }
            return set;
        }

        int countOfSize(Cloud cloud, int k) {
            int many = 0;
            for (int set = 0; set <= cloud.everyone(); set++) {
                if (Integer.bitCount(set) == k && found.isMarked(set)) {
                    many++;
                }
            }
            return many;
        }

        int countAll(Cloud cloud) {
            int many = 0;
            for (int set = 0; set <= cloud.everyone(); set++) {
                if (found.isMarked(set)) {
                    many++;
                }
            }
            return many;
        }
    }

    /** DEPTHS of places, and of those of the GRID. */
    private static final class Depths {
        private final int[] values = new int[GRID_PLACES];
        private final int[] dx = new int[MOST_POINTS];
        private final int[] dy = new int[MOST_POINTS];
        private int stamp = NONE;
        int greatest;
        int greatestCount;
        int firstX;
        int firstY;
        int regionCount;
        int leastX;
        int mostX;
        int leastY;
        int mostY;

        int depthAt(Cloud cloud, int x, int y) {
            return depthOver(cloud, x, y, 0);
        }

        /** The DEPTH of a place; if it is not above a floor, only some number that isn't either. */
        private int depthOver(Cloud cloud, int x, int y, int floor) {
            int here = 0;
            for (int p = 0; p < cloud.size; p++) {
                dx[p] = cloud.xs[p] - x;
                dy[p] = cloud.ys[p] - y;
                if (dx[p] == 0 && dy[p] == 0) {
                    here++;
                }
            }
            int least = cloud.size;
            for (int p = 0; p < cloud.size && least > floor; p++) {
                if (dx[p] != 0 || dy[p] != 0) {
                    least = Math.min(least, here + fewestAbout(p, cloud.size));
                }
            }
            return least;
        }

        // The rim through the place and a POINT, turned by a little, loses those on it that are
        // on the one side of the place, or those on the other one, as it is turned.
        // POINTS at the place itself are not counted here.
        private int fewestAbout(int p, int size) {
            int left = 0;
            int right = 0;
            int front = 0;
            int rear = 0;
            for (int q = 0; q < size; q++) {
                int turn = dx[p] * dy[q] - dy[p] * dx[q];
                if (turn > 0) {
                    left++;
                } else if (turn < 0) {
                    right++;
                } else {
                    int along = dx[p] * dx[q] + dy[p] * dy[q];
                    if (along > 0) {
                        front++;
                    } else if (along < 0) {
                        rear++;
                    }
                }
            }
            return Math.min(left, right) + Math.min(front, rear);
        }

        /** Reckons all places of the GRID, by Y, then X. */
        void survey(Cloud cloud) {
            if (stamp == cloud.stamp) {
                return;
            }
            stamp = cloud.stamp;
            greatest = NONE;
            int at = 0;
            for (int y = -cloud.grid; y <= cloud.grid; y++) {
                for (int x = -cloud.grid; x <= cloud.grid; x++) {
                    int value = depthAt(cloud, x, y);
                    noteDepth(value, x, y);
                    if (at < GRID_PLACES) {
                        values[at] = value;
                        at++;
                    }
                }
            }
        }

        /** The greatest DEPTH in the GRID, without a survey. */
        int greatestOf(Cloud cloud) {
            int found = 0;
            for (int y = -cloud.grid; y <= cloud.grid; y++) {
                for (int x = -cloud.grid; x <= cloud.grid; x++) {
                    found = Math.max(found, depthOver(cloud, x, y, found));
                }
            }
            return found;
        }

        private void noteDepth(int value, int x, int y) {
            if (value > greatest) {
                greatest = value;
                greatestCount = 0;
                firstX = x;
                firstY = y;
            }
            if (value == greatest) {
                greatestCount++;
            }
        }

        /** Finds how far the places of a DEPTH of k at least reach, behind survey. */
        void bound(Cloud cloud, int k) {
            regionCount = 0;
            leastX = MOST_GRID;
            mostX = -MOST_GRID;
            leastY = MOST_GRID;
            mostY = -MOST_GRID;
            int at = 0;
            for (int y = -cloud.grid; y <= cloud.grid; y++) {
                for (int x = -cloud.grid; x <= cloud.grid; x++) {
                    if (at < GRID_PLACES && values[at] >= k) {
                        regionCount++;
                        leastX = Math.min(leastX, x);
                        mostX = Math.max(mostX, x);
                        leastY = Math.min(leastY, y);
                        mostY = Math.max(mostY, y);
                    }
                    at++;
                }
            }
        }
    }

    /** POINTS as LINES. */
    private static final class Lines {
        static final int BEHIND = 1;
        static final int AHEAD = -1;

        private final int[] pairs = new int[MOST_PAIRS];
        int crossings;

        /** The LINE that is i-th just behind, or just ahead of, x, told as over by under. */
        static int lineAt(Cloud cloud, int i, int over, int under, int side) {
            for (int p = 0; p < cloud.size; p++) {
                if (rankOf(cloud, p, over, under, side) == i) {
                    return p;
                }
            }
            return NONE;
        }

        private static int rankOf(Cloud cloud, int p, int over, int under, int side) {
            int rank = 0;
            int height = cloud.xs[p] * over - cloud.ys[p] * under;
            for (int q = 0; q < cloud.size; q++) {
                int other = cloud.xs[q] * over - cloud.ys[q] * under;
                if (other < height || other == height && side * (cloud.xs[q] - cloud.xs[p]) < 0) {
                    rank++;
                }
            }
            return rank;
        }

        /** Puts all CROSSINGS in their order. */
        void cross(Cloud cloud) {
            crossings = 0;
            for (int p = 0; p < cloud.size; p++) {
                for (int q = p + 1; q < cloud.size; q++) {
                    if (cloud.xs[p] != cloud.xs[q] && crossings < MOST_PAIRS) {
                        pairs[crossings] = 16 * p + q;
                        crossings++;
                        sinkLast(cloud);
                    }
                }
            }
        }

        // Pairs come by their numbers, so those of one x stay as they came.
        private void sinkLast(Cloud cloud) {
            for (int i = crossings - 1; i > 0 && compareX(cloud, i, i - 1) < 0; i--) {
                int pair = pairs[i];
                pairs[i] = pairs[i - 1];
                pairs[i - 1] = pair;
            }
        }

        private int compareX(Cloud cloud, int i, int j) {
            return Integer.compare(over(cloud, i) * under(cloud, j), over(cloud, j) * under(cloud, i));
        }

        int lesser(int i) {
            return i >= 0 && i < crossings ? pairs[i] >> 4 : 0;
        }

        int other(int i) {
            return i >= 0 && i < crossings ? pairs[i] & 15 : 0;
        }

        int over(Cloud cloud, int i) {
            int apart = cloud.ys[lesser(i)] - cloud.ys[other(i)];
            return cloud.xs[lesser(i)] < cloud.xs[other(i)] ? -apart : apart;
        }

        int under(Cloud cloud, int i) {
            return Math.abs(cloud.xs[lesser(i)] - cloud.xs[other(i)]);
        }

        /** What x above and below the line have in common, never 0. */
        int divisor(Cloud cloud, int i) {
            int big = Math.abs(over(cloud, i));
            int small = under(cloud, i);
            for (int step = 0; step < 64 && small != 0; step++) {
                int rest = big % small;
                big = small;
                small = rest;
            }
            return Math.max(1, big);
        }

        int bendsOf(Cloud cloud, int level) {
            int many = 0;
            for (int i = 0; i < crossings; i++) {
                boolean isNew = i == 0 || compareX(cloud, i, i - 1) != 0;
                if (isNew && bendsAt(cloud, level, over(cloud, i), under(cloud, i))) {
                    many++;
                }
            }
            return many;
        }

        private static boolean bendsAt(Cloud cloud, int level, int over, int under) {
            return lineAt(cloud, level, over, under, AHEAD) != lineAt(cloud, level, over, under, BEHIND);
        }
    }

    /** FITS of lines. */
    private static final class Fits {
        private static final int MOST_A = 10;
        private static final int MOST_B = 50;

        private final int[] byX = new int[MOST_POINTS];
        private int stamp = NONE;
        int greatest;
        int greatestCount;
        int firstA;
        int firstB;

        /** Puts the POINTS in the order of their X, which fitOf goes along. */
        void arrange(Cloud cloud) {
            for (int p = 0; p < cloud.size; p++) {
                int at = p;
                while (at > 0 && cloud.xs[byX[at - 1]] > cloud.xs[p]) {
                    byX[at] = byX[at - 1];
                    at--;
                }
                byX[at] = p;
            }
        }

        int fitOf(Cloud cloud, int a, int b) {
            int aboveRight = 0;
            int belowRight = 0;
            for (int p = 0; p < cloud.size; p++) {
                int rest = cloud.ys[p] - a * cloud.xs[p] - b;
                aboveRight += rest >= 0 ? 1 : 0;
                belowRight += rest <= 0 ? 1 : 0;
            }
            int least = Math.min(aboveRight, belowRight);
            int aboveLeft = 0;
            int belowLeft = 0;
            for (int i = 0; i < cloud.size; i++) {
                int x = cloud.xs[byX[i]];
                int rest = cloud.ys[byX[i]] - a * x - b;
                int above = rest >= 0 ? 1 : 0;
                int below = rest <= 0 ? 1 : 0;
                aboveLeft += above;
                aboveRight -= above;
                belowLeft += below;
                belowRight -= below;
                // Between two of one X there is no room for v.
                if (i + 1 == cloud.size || cloud.xs[byX[i + 1]] != x) {
                    least = Math.min(least, Math.min(aboveLeft + belowRight, belowLeft + aboveRight));
                }
            }
            return least;
        }

        /** Finds the BEST FIT. */
        void search(Cloud cloud) {
            if (stamp == cloud.stamp) {
                return;
            }
            stamp = cloud.stamp;
            arrange(cloud);
            greatest = NONE;
            for (int a = -MOST_A; a <= MOST_A; a++) {
                for (int b = -MOST_B; b <= MOST_B; b++) {
                    noteFit(fitOf(cloud, a, b), a, b);
                }
            }
        }

        private void noteFit(int value, int a, int b) {
            if (value > greatest) {
                greatest = value;
                greatestCount = 0;
                firstA = a;
                firstB = b;
            }
            if (value == greatest) {
                greatestCount++;
            }
        }
    }

    /** TRIANGLES, CONVEX sets, MEETING ways, parts of FOUR, KEEPING places, SHARES. */
    private static final class Shapes {
        private final SetMarks convex = new SetMarks();

        int trianglesAbout(Cloud cloud, int x, int y) {
            int many = 0;
            for (int p = 0; p < cloud.size; p++) {
                for (int q = p + 1; q < cloud.size; q++) {
                    for (int r = q + 1; r < cloud.size; r++) {
                        if (cloud.turnOf(p, q, r) != 0 && covers(cloud, 1 << p | 1 << q | 1 << r, x, y)) {
                            many++;
                        }
                    }
                }
            }
            return many;
        }

        int triplesOnOneLine(Cloud cloud) {
            int many = 0;
            for (int p = 0; p < cloud.size; p++) {
                for (int q = p + 1; q < cloud.size; q++) {
                    for (int r = q + 1; r < cloud.size; r++) {
                        if (cloud.turnOf(p, q, r) == 0) {
                            many++;
                        }
                    }
                }
            }
            return many;
        }

        int emptyTriangles(Cloud cloud) {
            int many = 0;
            for (int p = 0; p < cloud.size; p++) {
                for (int q = p + 1; q < cloud.size; q++) {
                    for (int r = q + 1; r < cloud.size; r++) {
                        if (cloud.turnOf(p, q, r) != 0 && isEmpty(cloud, 1 << p | 1 << q | 1 << r)) {
                            many++;
                        }
                    }
                }
            }
            return many;
        }

        private static boolean isEmpty(Cloud cloud, int three) {
            for (int s = 0; s < cloud.size; s++) {
                if (bit(three, s) == 0 && covers(cloud, three, cloud.xs[s], cloud.ys[s])) {
                    return false;
                }
            }
            return true;
        }

        /** Whether three POINTS, not on one line, have a place inside or on their rim. */
        private static boolean covers(Cloud cloud, int three, int x, int y) {
            int p = leastOf(three);
            int q = leastOf(three & ~(1 << p));
            int r = leastOf(three & ~(1 << p) & ~(1 << q));
            if (!cloud.has(p) || !cloud.has(q) || !cloud.has(r)) {
                return false;
            }
            int first = cloud.turnAt(p, q, x, y);
            int second = cloud.turnAt(q, r, x, y);
            int third = cloud.turnAt(r, p, x, y);
            boolean someLeft = first > 0 || second > 0 || third > 0;
            boolean someRight = first < 0 || second < 0 || third < 0;
            return !(someLeft && someRight);
        }

        private static int leastOf(int set) {
            return Integer.bitCount((set & -set) - 1);
        }

        int greatestConvex(Cloud cloud) {
            int greatest = 0;
            convex.clear();
            for (int set = 0; set <= cloud.everyone(); set++) {
                if (isConvex(cloud, set)) {
                    convex.mark(set);
                    greatest = Math.max(greatest, Integer.bitCount(set));
                }
            }
            return greatest;
        }

        // A POINT that is no corner is in a triangle, or on a way, of others: so of more than four
        // the sets with one less tell all. They have lesser bits, and are marked already.
        private boolean isConvex(Cloud cloud, int set) {
            int many = Integer.bitCount(set);
            if (many <= 2) {
                return true;
            }
            if (many == 3) {
                return !hasThreeOnOneLine(cloud, set);
            }
            for (int p = 0; p < cloud.size; p++) {
                if (bit(set, p) == 1 && !convex.isMarked(set & ~(1 << p))) {
                    return false;
                }
            }
            return many > 4 || innerOf(cloud, set) == NONE;
        }

        private static boolean hasThreeOnOneLine(Cloud cloud, int set) {
            for (int p = 0; p < cloud.size; p++) {
                for (int q = p + 1; q < cloud.size; q++) {
                    if (bit(set, p) == 1 && bit(set, q) == 1 && (cloud.sideBits(p, q, ON) & set) != 0) {
                        return true;
                    }
                }
            }
            return false;
        }

        /** Of four POINTS, no three on one line, the one that the three others go round, or NONE. */
        private static int innerOf(Cloud cloud, int four) {
            for (int p = 0; p < cloud.size; p++) {
                if (bit(four, p) == 1 && covers(cloud, four & ~(1 << p), cloud.xs[p], cloud.ys[p])) {
                    return p;
                }
            }
            return NONE;
        }

        int partWithLeast(Cloud cloud, int four) {
            if (hasThreeOnOneLine(cloud, four)) {
                return ON_ONE_LINE;
            }
            int least = leastOf(four);
            int inner = innerOf(cloud, four);
            if (inner != NONE) {
                return inner == least ? 1 << inner : four & ~(1 << inner);
            }
            for (int q = least + 1; q < cloud.size; q++) {
                int others = four & ~(1 << least) & ~(1 << q);
                if (bit(four, q) == 1 && meet(cloud, least, q, others)) {
                    return 1 << least | 1 << q;
                }
            }
            return NONE;
        }

        /** Whether the ways from p to q and from the one to the other of two POINTS cross inside. */
        private static boolean meet(Cloud cloud, int p, int q, int two) {
            int r = leastOf(two);
            int s = leastOf(two & ~(1 << r));
            if (!cloud.has(p) || !cloud.has(q) || !cloud.has(r) || !cloud.has(s)) {
                return false;
            }
            return signOf(cloud.turnOf(p, q, r)) * signOf(cloud.turnOf(p, q, s)) < 0
                    && signOf(cloud.turnOf(r, s, p)) * signOf(cloud.turnOf(r, s, q)) < 0;
        }

        int meetingPairs(Cloud cloud) {
            int many = 0;
            for (int p = 0; p < cloud.size; p++) {
                for (int q = p + 1; q < cloud.size; q++) {
                    many += meetingBehind(cloud, p, q);
                }
            }
            return many;
        }

        // The way with the least of the four numbers comes first, so that each pair counts once.
        private static int meetingBehind(Cloud cloud, int p, int q) {
            int many = 0;
            for (int r = p + 1; r < cloud.size; r++) {
                for (int s = r + 1; s < cloud.size; s++) {
                    if (r != q && s != q && meet(cloud, p, q, 1 << r | 1 << s)) {
                        many++;
                    }
                }
            }
            return many;
        }

        int keepingPlaces(Cloud cloud, int p) {
            int many = 0;
            for (int y = -cloud.grid; y <= cloud.grid; y++) {
                for (int x = -cloud.grid; x <= cloud.grid; x++) {
                    boolean isOwn = cloud.xs[p] == x && cloud.ys[p] == y;
                    if (isOwn || !cloud.isTaken(x, y) && keepsTurns(cloud, p, x, y)) {
                        many++;
                    }
                }
            }
            return many;
        }

        private static boolean keepsTurns(Cloud cloud, int p, int x, int y) {
            for (int q = 0; q < cloud.size; q++) {
                for (int r = q + 1; r < cloud.size; r++) {
                    if (q != p && r != p
                            && signOf(cloud.turnAt(q, r, x, y)) != signOf(cloud.turnOf(q, r, p))) {
                        return false;
                    }
                }
            }
            return true;
        }

        int shareOf(Cloud cloud, int p) {
            int many = 0;
            for (int y = -cloud.grid; y <= cloud.grid; y++) {
                for (int x = -cloud.grid; x <= cloud.grid; x++) {
                    if (isNearest(cloud, p, x, y)) {
                        many++;
                    }
                }
            }
            return many;
        }

        private static boolean isNearest(Cloud cloud, int p, int x, int y) {
            int own = squareApart(cloud, p, x, y);
            for (int q = 0; q < cloud.size; q++) {
                if (q != p && squareApart(cloud, q, x, y) <= own) {
                    return false;
                }
            }
            return true;
        }

        private static int squareApart(Cloud cloud, int p, int x, int y) {
            int dx = cloud.xs[p] - x;
            int dy = cloud.ys[p] - y;
            return dx * dx + dy * dy;
        }
    }
}
