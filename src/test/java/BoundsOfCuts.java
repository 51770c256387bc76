/** Boundary cases of promises 16 to 19 and 29: EDGES, HALVING ones, sets that are CUT OFF. */
final class BoundsOfCuts extends Bench {
    private static final int[] PENTAGON = {0, 0, 4, 0, 5, 3, 2, 5, -1, 3};
    private static final int[] HEXAGON = {-2, -3, 2, -3, 4, 0, 2, 3, -2, 3, -4, 0};

    // ---- promise 16 ----

    // "two unlike POINTS p, q in this order": of none and of one POINT there are no EDGES.
    static void promise16EdgesOfFewPoints() {
        due(0, new CloudDepth().edges(0));
        due(0, with(1, 1).edges(0));
        CloudDepth two = with(1, 1, 2, 2);
        due(2, two.edges(0));
        due(0, two.edges(1));
        due(0, two.edges(-1));
        CloudDepth three = with(TRIANGLE);
        due(3, three.edges(0));
        due(3, three.edges(1));
        due(0, three.edges(2));
    }

    // "just k others are RIGHT": k from 0 to all others.
    static void promise16EdgesFromNoneToAllOthers() {
        CloudDepth x = with(BOWL);
        for (int k = 0; k <= 10; k++) due(12, x.edges(k));
        for (int k : new int[] {-1, 11, 12, LEAST, MOST}) due(0, x.edges(k));
        CloudDepth inner = with(join(SQUARE, 0, 1));
        due(4, inner.edges(0));
        due(4, inner.edges(3));
        due(0, inner.edges(4));
        due(12, inner.edges(1) + inner.edges(2));
    }

    // ON is not RIGHT.
    static void promise16EdgesOfARow() {
        due(20, with(ROW_OF_5).edges(0));
        due(0, with(ROW_OF_5).edges(1));
        due(132, with(row(12)).edges(0));
        CloudDepth x = with(join(TRIANGLE, 2, 0));
        due(5, x.edges(0));
        due(5, x.edges(1));
        due(2, x.edges(2));
        due(0, x.edges(3));
        x.move(3, 2, -1);
        due(4, x.edges(0));
        due(4, x.edges(1));
        due(4, x.edges(2));
    }

    // ---- promise 17 ----

    // "neither LEFT nor RIGHT of them are more than half": just half is none too many.
    static void promise17HalvingWithJustHalf() {
        due(6, with(SQUARE).halving(NONE));
        due(5, with(PENTAGON).halving(NONE));
        due(9, with(HEXAGON).halving(NONE));
        due(3, with(TRIANGLE).halving(NONE));
        due(18, with(BOWL).halving(NONE));
    }

    static void promise17HalvingOfFewPoints() {
        due(0, new CloudDepth().halving(NONE));
        due(NONE, new CloudDepth().halving(0));
        due(0, with(1, 1).halving(NONE));
        due(NONE, with(1, 1).halving(0));
        CloudDepth two = with(1, 1, 2, 2);
        due(1, two.halving(NONE));
        due(1, two.halving(0));
        due(NONE, two.halving(1));
    }

    // "half of all POINTS": those ON the line, too, and the two.
    static void promise17HalvingCountsPointsOnTheLine() {
        due(10, with(ROW_OF_5).halving(NONE));
        CloudDepth x = with(0, 0, 4, 0, 0, 1, 1, 2, 3, 1);
        due(NONE, indexOf(x, 1));
        x.add(8, 0);
        due(0, indexOf(x, 1));
    }

    /** Which HALVING one has this answer. */
    private static int indexOf(CloudDepth x, int answer) {
        int many = x.halving(NONE);
        for (int i = 0; i < many; i++) if (x.halving(i) == answer) return i;
        return NONE;
    }

    // "of the i-th (by the lesser number, then the other one) 16 times the lesser and the other one"
    static void promise17HalvingByTheLesserThenTheOther() {
        CloudDepth x = with(BOWL);
        int i = 0;
        for (int p = 0; p < 12; p++) {
            for (int q = p + 5; q <= p + 7 && q < 12; q++) due(16 * p + q, x.halving(i++));
        }
        due(18, i);
        due(16 * 6 + 11, x.halving(17));
    }

    // "NONE: no such one"
    static void promise17HalvingOfNoSuchNumber() {
        CloudDepth x = with(BOWL);
        for (int i : new int[] {-2, 18, 19, LEAST, MOST}) due(NONE, x.halving(i));
        due(5, x.halving(0));
        x = with(PENTAGON);
        due(16 * 2 + 4, x.halving(4));
        due(NONE, x.halving(5));
    }

    // ---- promise 18 ----

    // "of none, of all, too"
    static void promise18CutOffOfNoneAndOfAll() {
        due(1, new CloudDepth().cutOff(0));
        due(1, with(1, 1).cutOff(0));
        due(1, with(1, 1).cutOff(1));
        CloudDepth two = with(1, 1, 2, 2);
        due(1, two.cutOff(0));
        due(2, two.cutOff(1));
        due(1, two.cutOff(2));
        CloudDepth x = with(BOWL);
        due(1, x.cutOff(0));
        due(1, x.cutOff(12));
    }

    // How many there are of fewer than none, or of more than all: none.
    static void promise18CutOffOfNoSuchSize() {
        due(0, new CloudDepth().cutOff(1));
        due(0, new CloudDepth().cutOff(-1));
        due(0, with(1, 1).cutOff(2));
        CloudDepth x = with(BOWL);
        for (int k : new int[] {-1, 13, 32, LEAST, MOST}) due(0, x.cutOff(k));
        for (int k = 1; k <= 11; k++) due(12, x.cutOff(k));
    }

    // On one line only the ends' sets are CUT OFF.
    static void promise18CutOffOfARow() {
        CloudDepth x = with(row(12));
        for (int k = 1; k <= 11; k++) due(2, x.cutOff(k));
        due(1, x.cutOff(12));
    }

    // ".. none on it": a POINT between two on the rim is not CUT OFF alone, one step out it is.
    static void promise18CutOffOfPointsOnTheRim() {
        CloudDepth x = with(join(SQUARE, 0, -2));
        due(4, x.cutOff(1));
        x.move(4, 0, -3);
        due(5, x.cutOff(1));
        x.move(4, 0, -1);
        due(4, x.cutOff(1));
    }

    // ---- promise 19 ----

    // "NONE: no such set"
    static void promise19IsCutOffOfNoSuchSet() {
        CloudDepth none = new CloudDepth();
        due(1, none.isCutOff(0));
        due(NONE, none.isCutOff(1));
        due(NONE, none.isCutOff(-1));
        CloudDepth x = with(TRIANGLE);
        for (int set : new int[] {-1, 8, 9, 16, 1 << 30, LEAST, MOST}) due(NONE, x.isCutOff(set));
        for (int set = 0; set <= 7; set++) due(1, x.isCutOff(set));
        x.goes(2);
        due(NONE, x.isCutOff(4));
        due(1, x.isCutOff(3));
    }

    // "of none, of all, too"
    static void promise19IsCutOffOfNoneAndOfAll() {
        due(1, with(1, 1).isCutOff(0));
        due(1, with(1, 1).isCutOff(1));
        due(NONE, with(1, 1).isCutOff(2));
        CloudDepth x = with(BOWL);
        due(1, x.isCutOff(0));
        due(1, x.isCutOff(4095));
        due(NONE, x.isCutOff(4096));
        due(1, x.isCutOff(2048));
        due(1, x.isCutOff(4095 - 2048));
        due(1, x.isCutOff(2048 + 1));
        due(0, x.isCutOff(1 + 4));
    }

    // "on its one side just these, on the other one the others, none on it"
    static void promise19IsCutOffWithNoneOnTheLine() {
        CloudDepth row = with(0, 0, 1, 1, 2, 2, 3, 3);
        int[] ends = {0, 1, 3, 7, 8, 12, 14, 15};
        int at = 0;
        for (int set = 0; set <= 15; set++) {
            boolean isEnd = at < ends.length && ends[at] == set;
            due(isEnd ? 1 : 0, row.isCutOff(set));
            if (isEnd) at++;
        }
        CloudDepth x = with(join(SQUARE, 0, -2));
        due(0, x.isCutOff(16));
        due(0, x.isCutOff(3));
        due(1, x.isCutOff(17));
        due(1, x.isCutOff(18));
        due(1, x.isCutOff(19));
        x.move(4, 0, -3);
        due(1, x.isCutOff(16));
        due(0, x.isCutOff(3));
        x.move(4, 0, -1);
        due(0, x.isCutOff(16));
        due(1, x.isCutOff(3));
    }

    // The two of a way are parted from the others if the ways do not touch.
    static void promise19IsCutOffOfWaysThatTouch() {
        CloudDepth x = with(-5, 0, 5, 0, 0, 1, 0, 5);
        due(1, x.isCutOff(3));
        x.move(2, 0, 0);
        due(0, x.isCutOff(3));
        x.move(2, 0, -1);
        due(0, x.isCutOff(3));
    }

    // ---- promise 29 ----

    // "NONE: no such ones": no such set.
    static void promise29HalvingBothOfNoSuchSet() {
        CloudDepth none = new CloudDepth();
        due(0, none.halvingBoth(0, NONE));
        due(NONE, none.halvingBoth(1, NONE));
        CloudDepth x = with(SQUARE);
        for (int set : new int[] {-1, 16, 17, LEAST, MOST}) {
            due(NONE, x.halvingBoth(set, NONE));
            due(NONE, x.halvingBoth(set, 0));
        }
        due(1, x.halvingBoth(7, NONE));
        x.goes(3);
        due(NONE, x.halvingBoth(8, NONE));
        CloudDepth twelve = with(BOWL);
        due(0, twelve.halvingBoth(4095, NONE));
        due(NONE, twelve.halvingBoth(4096, NONE));
    }

    // A set of none, or of all, has no two POINTS of which one is of the others.
    static void promise29HalvingBothOfNoneAndOfAll() {
        CloudDepth x = with(SQUARE);
        due(0, x.halvingBoth(0, NONE));
        due(0, x.halvingBoth(15, NONE));
        due(NONE, x.halvingBoth(0, 0));
        due(NONE, x.halvingBoth(15, 0));
        due(0, with(1, 1).halvingBoth(1, NONE));
        due(1, with(1, 1, 2, 2).halvingBoth(1, NONE));
        due(1, with(1, 1, 2, 2).halvingBoth(1, 0));
        due(16, with(1, 1, 2, 2).halvingBoth(2, 0));
    }

    // "NONE: no such ones": no such number.
    static void promise29HalvingBothOfNoSuchNumber() {
        CloudDepth x = with(SQUARE);
        due(4, x.halvingBoth(3, NONE));
        for (int i : new int[] {-2, 4, 5, LEAST, MOST}) due(NONE, x.halvingBoth(3, i));
        due(16 + 3, x.halvingBoth(3, 3));
    }

    // "(by the POINT of the set, then the other one) 16 times the one of the set and the other one"
    static void promise29HalvingBothByThePointOfTheSet() {
        CloudDepth x = with(SQUARE);
        int[] dues = {16 * 1, 16 * 1 + 2, 16 * 3, 16 * 3 + 2};
        due(4, x.halvingBoth(10, NONE));
        for (int i = 0; i < 4; i++) due(dues[i], x.halvingBoth(10, i));
    }

    // "more than half of A's, nor of the others'": just half is none too many, one more is.
    static void promise29HalvingBothWithJustHalf() {
        // LEFT of the way from (0, 0) to (0, 9) are POINTS of A with X below 0.
        CloudDepth x = with(0, 0, 0, 9, -1, 1, -2, 1, 3, 1);
        due(0, hasPair(x, 1 + 4 + 8, 1));
        x.move(3, 2, 1);
        due(1, hasPair(x, 1 + 4 + 8, 1));
        x.move(2, 1, 1);
        due(0, hasPair(x, 1 + 4 + 8, 1));
        x.add(-7, 0);
        due(1, hasPair(x, 1 + 4 + 8 + 32, 1));
        // The same of the others.
        x = with(0, 9, 0, 0, -1, 1, -2, 1);
        due(0, hasPair(x, 1, 1));
        x.move(3, 2, 1);
        due(1, hasPair(x, 1, 1));
    }

    /** Whether the HALVING BOTH ones have this answer. */
    private static int hasPair(CloudDepth x, int set, int answer) {
        int many = x.halvingBoth(set, NONE);
        for (int i = 0; i < many; i++) if (x.halvingBoth(set, i) == answer) return 1;
        return 0;
    }
}
