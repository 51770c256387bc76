/** Boundary cases of promise 36: each count where it is least, greatest, and at the step between two answers. */
final class BoundsOfCounts extends Bench {

    // "NONE for others"
    static void promise36CountOfNoSuchWhat() {
        CloudDepth x = with(SQUARE);
        for (int what : new int[] {-1, -2, 15, 16, LEAST, MOST}) {
            due(NONE, x.count(what));
            due(NONE, new CloudDepth().count(what));
        }
        int[] answers = {4, 10, 32, 15, 0, 1, 15, 0, 4, 0, 2, 1, 4, 4, 1};
        for (int what = 0; what <= 14; what++) due(answers[what], x.count(what));
    }

    static void promise36CountWithoutPoints() {
        int[] answers = {0, 10, 0, 0, 0, 0, 0, 0, 0, 0, 0, 1, 0, 0, 0};
        for (int what = 0; what <= 14; what++) due(answers[what], new CloudDepth().count(what));
    }

    private static final int[] ODD = {LEAST, -100001, -10001, -1001, -201, -101, -51, -2, -1, 0, 3, 12, 32, 51, 101, 201, 1001, 4096, 10001, MOST};

    private static CloudDepth busy() {
        CloudDepth x = inGrid(2, join(SQUARE, 1, 0));
        x.hold(1);
        x.turn(true);
        x.add(7, 7);
        return x;
    }

    // Calls that only ask change nothing, whatever they are asked.
    static void promise36CountIsLeftByCallsThatAsk() {
        CloudDepth x = busy();
        x.feed(1, 2, 3, 4, 5);
        String before = stateOf(x);
        for (int a : ODD) {
            x.point(a, 0); x.point(0, a); x.turned(a, 0, 1, 0); x.sides(a, 1, 0); x.corner(a); x.layer(a); x.edges(a);
            x.halving(a); x.cutOff(a); x.isCutOff(a); x.depth(a, a); x.deepest(a); x.region(a, a); x.triangles(a, a);
        }
        due(before, stateOf(x));
        CloudDepth y = busy();
        y.feed(1, 2, 3, 4, 5);
        for (int a : ODD) {
            y.order(a, a); y.crossing(a, a); y.bends(a); y.fit(a, a); y.best(a); y.halvingBoth(a, a);
            y.four(a, a, a, a); y.keeping(a); y.fresh(a, a, a); y.fresh(4, 4, a); y.count(a);
        }
        due(before, stateOf(y));
    }

    // Nor do calls that are refused.
    static void promise36CountIsLeftByCallsThatAreRefused() {
        CloudDepth x = busy();
        String before = stateOf(x);
        for (int beyond : new int[] {LEAST, -51, 51, 4096, MOST}) {
            due(NONE, x.add(beyond, 0));
            due(NONE, x.add(0, beyond));
            due(false, x.goes(beyond));
            due(false, x.move(beyond, 30, 30));
            due(false, x.move(0, beyond, 30));
            due(false, x.move(0, 30, beyond));
            due(false, x.hold(beyond));
            due(false, x.restore(beyond));
            due(NONE, x.back(beyond));
        }
        due(before, stateOf(x));
        due(true, x.undo());
        due(true, x.undo());
        due(false, x.undo());
        due("(-2 -2)(2 -2)(2 2)(-2 2)(1 0)", placesOf(x));
    }

    // "0 POINTS"
    static void promise36CountOfPointsFrom0To12() {
        CloudDepth x = new CloudDepth();
        for (int i = 0; i < 12; i++) {
            due(i, x.count(0));
            x.add(i, 0);
        }
        due(12, x.count(0));
        x.add(12, 0);
        due(12, x.count(0));
        x.goes(0);
        due(11, x.count(0));
    }

    // "1 GRID"
    static void promise36CountOfGrid() {
        due(10, new CloudDepth().count(1));
        due(1, inGrid(1).count(1));
        due(20, inGrid(20).count(1));
        CloudDepth x = inGrid(1);
        x.add(50, 50);
        x.turn(false);
        x.undo();
        due(1, x.count(1));
    }

    // "2 AREA": "twice what the CORNERS of all go round"
    static void promise36CountOfArea() {
        due(0, with(1, 1).count(2));
        due(0, with(-50, -50, 50, 50).count(2));
        due(0, with(ROW_OF_5).count(2));
        due(1, with(0, 0, 1, 0, 0, 1).count(2));
        due(1, with(0, 0, 0, 1, 1, 0).count(2));
        due(20000, with(-50, -50, 50, 50, -50, 50, 50, -50).count(2));
        due(10000, with(-50, -50, 50, 50, -50, 50).count(2));
        due(440, with(BOWL).count(2));
        due(32, with(join(SQUARE, 0, -2, 1, 1)).count(2));
        due(36, with(join(SQUARE, 0, -3, 1, 1)).count(2));
    }

    // "3 CORNERS of all (bits)"
    static void promise36CountOfCornersAsBits() {
        due(1, with(1, 1).count(3));
        due(3, with(1, 1, 2, 2).count(3));
        due(17, with(ROW_OF_5).count(3));
        due(4095, with(BOWL).count(3));
        due(1 + 2048, with(row(12)).count(3));
        due(15, with(join(SQUARE, 0, -2)).count(3));
        due(31, with(join(SQUARE, 0, -3)).count(3));
        due(15, with(join(SQUARE, 0, -1)).count(3));
    }

    // "4 triples of POINTS on one line"
    static void promise36CountOfTriplesOnOneLine() {
        due(0, with(1, 1, 2, 2).count(4));
        due(1, with(1, 1, 2, 2, 3, 3).count(4));
        due(0, with(1, 1, 2, 2, 3, 4).count(4));
        due(0, with(-50, -50, 50, 49, 49, 48).count(4));
        due(1, with(-50, -50, 50, 50, 49, 49).count(4));
        due(220, with(row(12)).count(4));
        due(0, with(BOWL).count(4));
        due(2, with(join(SQUARE, 0, 0)).count(4));
    }

    // "5 the greatest DEPTH of a POINT (0 without), 6 POINTS of it (bits)"
    static void promise36CountOfTheDeepestPoints() {
        dueDeep(new CloudDepth(), 0, 0);
        dueDeep(with(50, 50), 1, 1);
        dueDeep(with(1, 1, 2, 2), 1, 3);
        dueDeep(with(ROW_OF_5), 3, 4);
        dueDeep(with(row(12)), 6, 32 + 64);
        dueDeep(with(BOWL), 1, 4095);
        dueDeep(with(join(SQUARE, 0, 0)), 3, 16);
        dueDeep(with(join(SQUARE, 0, -2)), 2, 16);
        dueDeep(with(join(SQUARE, 0, -3)), 1, 31);
    }

    private static void dueDeep(CloudDepth x, int depth, int points) {
        due(depth, x.count(5));
        due(points, x.count(6));
    }

    // "7 bytes on the tape"
    static void promise36CountOfBytesFrom0To2000() {
        CloudDepth x = new CloudDepth();
        due(0, x.count(7));
        for (int i = 1; i <= 100; i++) {
            x.feed(0, 0, 0, 0, 0);
            due(20 * i, x.count(7));
        }
        x.feed(0, 0, 0, 0, 0);
        due(2000, x.count(7));
        x.back(1);
        due(1999, x.count(7));
        x.back(2000);
        due(1999, x.count(7));
        x.read();
        due(0, x.count(7));
    }

    // "8 things that can be undone": the last 40.
    static void promise36CountOfThingsToUndoFrom0To40() {
        CloudDepth x = reads("point a 1 2;");
        for (int i = 0; i <= 42; i++) {
            due(Math.min(i, 40), x.count(8));
            x.turn(false);
        }
        for (int i = 40; i >= 1; i--) {
            due(i, x.count(8));
            x.undo();
        }
        due(0, x.count(8));
        x.undo();
        due(0, x.count(8));
    }

    // "9 SLOTS that hold something"
    static void promise36CountOfSlotsFrom0To3() {
        CloudDepth x = new CloudDepth();
        due(0, x.count(9));
        x.hold(2);
        due(1, x.count(9));
        x.hold(2);
        due(1, x.count(9));
        x.hold(0);
        due(2, x.count(9));
        x.hold(1);
        due(3, x.count(9));
        x.hold(3);
        x.hold(-1);
        due(3, x.count(9));
        x.restore(1);
        due(3, x.count(9));
        x.read();
        due(0, x.count(9));
    }

    // "10 the third part of POINTS, rounded up"
    static void promise36CountOfTheThirdPartRoundedUp() {
        int[] thirds = {0, 1, 1, 1, 2, 2, 2, 3, 3, 3, 4, 4, 4};
        CloudDepth x = new CloudDepth();
        for (int i = 0; i <= 12; i++) {
            due(thirds[i], x.count(10));
            x.add(i, 0);
        }
    }

    // "11 whether some place of the GRID has that DEPTH at least (1, 0)"
    static void promise36CountWhetherTheGridHasThatDepth() {
        due(1, new CloudDepth().count(11));
        due(1, with(10, 10).count(11));
        due(0, with(11, 10).count(11));
        due(0, with(10, -11).count(11));
        due(1, with(SQUARE).count(11));
        due(0, with(0, 0, 1, 0, 1, 1, 0, 1).count(11));
        due(1, with(0, 0, 1, 0, 1, 1).count(11));
        due(1, inGrid(1, -50, -50, 50, -50, 0, 50).count(11));
        due(0, inGrid(1, 2, 0, 50, 1, 50, -1).count(11));
        due(1, inGrid(1, 1, 0, 50, 1, 50, -1).count(11));
    }

    // "12 of how many POINTS the greatest CONVEX set is"
    static void promise36CountOfTheGreatestConvexSet() {
        due(0, new CloudDepth().count(12));
        due(1, with(1, 1).count(12));
        due(2, with(1, 1, 2, 2).count(12));
        due(2, with(row(12)).count(12));
        due(3, with(TRIANGLE).count(12));
        due(3, with(join(TRIANGLE, 1, 1)).count(12));
        due(3, with(join(TRIANGLE, 2, 0)).count(12));
        due(4, with(join(TRIANGLE, 2, -1)).count(12));
        due(4, with(join(SQUARE, 0, -1)).count(12));
        due(4, with(join(SQUARE, 0, -2)).count(12));
        due(5, with(join(SQUARE, 0, -3)).count(12));
        due(12, with(BOWL).count(12));
        due(3, with(join(row(11), 5, 5)).count(12));
        for (int[] order : ordersOf(4)) due(3, with(inOrder(order, join(TRIANGLE, 1, 1))).count(12));
        for (int[] order : ordersOf(4)) due(3, with(inOrder(order, join(TRIANGLE, 2, 2))).count(12));
        for (int[] order : ordersOf(5)) due(4, with(inOrder(order, join(SQUARE, 0, -1))).count(12));
        CloudDepth bowl = with(BOWL);
        due(12, bowl.count(12));
        bowl.move(0, 0, 10);
        due(11, bowl.count(12));
        CloudDepth x = with(SQUARE);
        due(4, x.count(12));
        x.move(3, 0, -1);
        due(3, x.count(12));
        x.move(3, 0, -2);
        due(3, x.count(12));
    }

    // "13 EMPTY ones": "no other POINT inside or on its rim"
    static void promise36CountOfEmptyTriangles() {
        due(0, with(1, 1, 2, 2).count(13));
        due(1, with(TRIANGLE).count(13));
        due(3, with(join(TRIANGLE, 2, 1)).count(13));
        due(2, with(join(TRIANGLE, 2, 0)).count(13));
        due(2, with(join(TRIANGLE, 2, 2)).count(13));
        due(2, with(join(TRIANGLE, 0, 2)).count(13));
        due(4, with(join(TRIANGLE, 2, -1)).count(13));
        due(2, with(join(TRIANGLE, 5, 0)).count(13));
        for (int[] order : ordersOf(4)) {
            due(3, with(inOrder(order, join(TRIANGLE, 2, 1))).count(13));
            due(2, with(inOrder(order, join(TRIANGLE, 2, 2))).count(13));
        }
        due(220, with(BOWL).count(13));
        due(0, with(row(12)).count(13));
        due(10, with(join(row(11), 5, 5)).count(13));
    }

    // "14 MEETING pairs": "just one place in common, none of the four POINTS"
    static void promise36CountOfMeetingPairs() {
        due(0, with(TRIANGLE).count(14));
        due(1, with(SQUARE).count(14));
        CloudDepth x = with(-5, 0, 5, 0, 0, 1, 0, 5);
        due(0, x.count(14));
        x.move(2, 0, 0);
        due(0, x.count(14));
        x.move(2, 0, -1);
        due(1, x.count(14));
        due(1, with(join(SQUARE, 0, 0)).count(14));
        for (int[] order : ordersOf(4)) {
            due(1, with(inOrder(order, SQUARE)).count(14));
            due(0, with(inOrder(order, -5, 0, 5, 0, 0, 0, 0, 5)).count(14));
        }
        due(0, with(row(12)).count(14));
        due(495, with(BOWL).count(14));
    }
}
