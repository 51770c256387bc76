/** Boundary cases of promises 20 to 23 and 33: DEPTHS, DEEPEST places, TRIANGLES, what a NEW POINT would change. */
final class BoundsOfDepth extends Bench {
    /** Six pairs about (0, 0), each on a line of its own. */
    private static final int[] SIX_PAIRS = {5, 1, -5, -1, 4, 3, -4, -3, 1, 5, -1, -5, -5, 2, 5, -2, -3, 4, 3, -4, -1, 5, 1, -5};

    // ---- promise 20 ----

    // "NONE: X or Y beyond -200 .. 200"
    static void promise20DepthOfPlacesFromMinus200To200() {
        CloudDepth x = with(TRIANGLE);
        for (int within : new int[] {-200, -199, 199, 200}) {
            due(0, x.depth(within, 0));
            due(0, x.depth(0, within));
            due(0, x.depth(within, within));
        }
        for (int beyond : new int[] {-201, 201, LEAST, MOST}) {
            due(NONE, x.depth(beyond, 0));
            due(NONE, x.depth(0, beyond));
            due(NONE, x.depth(beyond, beyond));
        }
        due(NONE, new CloudDepth().depth(201, 0));
        due(0, new CloudDepth().depth(200, 0));
    }

    // "the fewest POINTS": of no POINTS none, of one POINT 1 at its place alone.
    static void promise20DepthOfFewPoints() {
        due(0, new CloudDepth().depth(0, 0));
        CloudDepth one = with(3, 3);
        due(1, one.depth(3, 3));
        due(0, one.depth(3, 4));
        due(0, one.depth(2, 3));
        CloudDepth two = with(-2, 0, 2, 0);
        for (int i = -2; i <= 2; i++) due(1, two.depth(i, 0));
        due(0, two.depth(-3, 0));
        due(0, two.depth(3, 0));
        due(0, two.depth(0, 1));
        due(0, two.depth(0, -1));
    }

    // "a half-plane with its rim .. that has the place": on the rim of the cloud, and one step out.
    static void promise20DepthOnTheRim() {
        CloudDepth x = with(TRIANGLE);
        int[][] within = {{0, 0}, {4, 0}, {0, 4}, {2, 0}, {0, 2}, {2, 2}, {3, 1}, {1, 1}};
        for (int[] at : within) due(1, x.depth(at[0], at[1]));
        int[][] out = {{-1, 0}, {0, -1}, {5, 0}, {0, 5}, {2, -1}, {-1, 2}, {3, 2}, {2, 3}, {4, 1}};
        for (int[] at : out) due(0, x.depth(at[0], at[1]));
    }

    // POINTS on the half-plane's rim can be lost by turning it on one side of the place alone.
    static void promise20DepthOfARow() {
        CloudDepth x = with(row(12));
        for (int i = 0; i < 12; i++) due(Math.min(i + 1, 12 - i), x.depth(i, 0));
        due(0, x.depth(-1, 0));
        due(0, x.depth(12, 0));
        due(0, x.depth(5, 1));
    }

    // The greatest that there can be: half of the POINTS, with one at the place itself one more.
    static void promise20DepthOfTheMiddle() {
        CloudDepth x = with(SIX_PAIRS);
        due(6, x.depth(0, 0));
        x.goes(11);
        due(5, x.depth(0, 0));
        x.goes(10);
        due(5, x.depth(0, 0));
        x.add(0, 0);
        due(6, x.depth(0, 0));
        due(2, with(SQUARE).depth(0, 0));
        due(1, with(SQUARE).depth(1, 0));
        due(3, with(join(SQUARE, 0, 0)).depth(0, 0));
    }

    // A place that is beside the way of two by the least that there is: a TURN of 1.
    static void promise20DepthBesideTheRim() {
        CloudDepth x = with(50, 49, -49, -48, 1, -1);
        due(1, x.depth(0, 0));
        x.move(2, -1, 1);
        due(0, x.depth(0, 0));
        x = with(-50, -50, 50, 49, -50, 50);
        due(1, x.depth(-49, -49));
        due(0, x.depth(49, 48));
        x.move(2, 50, -50);
        due(0, x.depth(-49, -49));
        due(1, x.depth(49, 48));
    }

    // A place on the way of two, with a third beside that line by a TURN of 1, LEFT or RIGHT of it.
    static void promise20DepthOnAWayWithAThirdBesideIt() {
        for (int[] order : ordersOf(3)) {
            due(1, with(inOrder(order, -1, -1, 3, 3, -3, -2)).depth(0, 0));
            due(1, with(inOrder(order, -1, -1, 3, 3, -2, -3)).depth(0, 0));
            due(1, with(inOrder(order, 1, 1, -3, -3, 3, 2)).depth(0, 0));
            due(1, with(inOrder(order, 1, 1, -3, -3, 2, 3)).depth(0, 0));
            due(0, with(inOrder(order, 1, 1, 3, 3, -3, -2)).depth(0, 0));
            due(0, with(inOrder(order, 1, 1, 3, 3, -2, -3)).depth(0, 0));
        }
    }

    // ---- promise 21 ----

    // "-100000 for others"
    static void promise21DeepestOfNoSuchWhat() {
        CloudDepth x = inGrid(3, -2, -2, 2, -2, 2, 2, -2, 2);
        for (int what : new int[] {-1, 4, 5, LEAST, MOST}) {
            due(NO, x.deepest(what));
            due(NO, new CloudDepth().deepest(what));
        }
        int[] answers = {2, 1, 0, 0};
        for (int what = 0; what <= 3; what++) due(answers[what], x.deepest(what));
    }

    // Without POINTS all places are as deep.
    static void promise21DeepestWithoutPoints() {
        dueDeepest(new CloudDepth(), 0, 441, -10, -10);
        dueDeepest(inGrid(1), 0, 9, -1, -1);
        dueDeepest(inGrid(20), 0, 1681, -20, -20);
    }

    private static void dueDeepest(CloudDepth x, int... answers) {
        for (int what = 0; what <= 3; what++) due(answers[what], x.deepest(what));
    }

    // "places of the GRID": its rim with them, none beyond.
    static void promise21DeepestAtTheGridsRim() {
        dueDeepest(with(10, 10), 1, 1, 10, 10);
        dueDeepest(with(-10, -10), 1, 1, -10, -10);
        dueDeepest(with(11, 10), 0, 441, -10, -10);
        dueDeepest(with(10, 11), 0, 441, -10, -10);
        dueDeepest(with(-11, 10), 0, 441, -10, -10);
        dueDeepest(inGrid(20, 20, -20), 1, 1, 20, -20);
        dueDeepest(inGrid(20, 20, -21), 0, 1681, -20, -20);
        dueDeepest(inGrid(1, -50, 1, 50, 1), 1, 3, -1, 1);
    }

    // "the first of them: of the least Y, then X"
    static void promise21DeepestFirstByYThenX() {
        dueDeepest(with(3, 1, 1, 3), 1, 3, 3, 1);
        dueDeepest(with(1, 1, 3, 3), 1, 3, 1, 1);
        dueDeepest(with(3, 1, 1, 1), 1, 3, 1, 1);
        dueDeepest(with(TRIANGLE), 1, 15, 0, 0);
        dueDeepest(with(0, 0, 4, -1, 4, 3), 1, 12, 4, -1);
    }

    // "how many are as deep": one, or many.
    static void promise21DeepestCountsThoseAsDeep() {
        dueDeepest(with(SQUARE), 2, 1, 0, 0);
        dueDeepest(with(0, 0, 1, 0, 1, 1, 0, 1), 1, 4, 0, 0);
        dueDeepest(inGrid(20, -20, 0, 20, 0), 1, 41, -20, 0);
        dueDeepest(with(SIX_PAIRS), 6, 1, 0, 0);
    }

    // ---- promise 22 ----

    // "-100000 for others", whatever k is.
    static void promise22RegionOfNoSuchWhat() {
        CloudDepth x = with(SQUARE);
        for (int what : new int[] {-1, 5, 6, LEAST, MOST}) {
            for (int k : new int[] {LEAST, -1, 0, 1, 3, MOST}) due(NO, x.region(k, what));
        }
        int[] answers = {25, -2, 2, -2, 2};
        for (int what = 0; what <= 4; what++) due(answers[what], x.region(1, what));
    }

    // "of a DEPTH of k at least"
    static void promise22RegionOfADepthOfKAtLeast() {
        CloudDepth x = with(join(SQUARE, 0, 0));
        due(441, x.region(-1, 0));
        due(441, x.region(0, 0));
        due(25, x.region(1, 0));
        due(1, x.region(2, 0));
        due(1, x.region(3, 0));
        due(0, x.region(4, 0));
        due(441, x.region(LEAST, 0));
        due(0, x.region(MOST, 0));
        due(9, inGrid(1, -2, -2, 2, -2, 2, 2, -2, 2).region(1, 0));
    }

    // "(1 to 4: -100000 if there are none)"
    static void promise22RegionOfNoPlaces() {
        CloudDepth x = with(SQUARE);
        due(0, x.region(3, 0));
        for (int what = 1; what <= 4; what++) {
            due(0, x.region(2, what));
            due(NO, x.region(3, what));
            due(NO, x.region(MOST, what));
            due(NO, new CloudDepth().region(1, what));
        }
        due(0, new CloudDepth().region(1, 0));
        due(0, with(11, 0).region(1, 0));
        due(NO, with(11, 0).region(1, 1));
        due(1, with(10, 0).region(1, 0));
        due(10, with(10, 0).region(1, 1));
    }

    // "1 least X, 2 greatest X, 3 least Y, 4 greatest Y"
    static void promise22RegionReachesToTheGridsRim() {
        CloudDepth x = with(-3, 1, 5, 1);
        dueRegion(x, 9, -3, 5, 1, 1);
        dueRegion(inGrid(4, -3, 1, 5, 1), 8, -3, 4, 1, 1);
        dueRegion(inGrid(2, -3, 1, 5, 1), 5, -2, 2, 1, 1);
        dueRegion(inGrid(1, 1, -3, 1, 5), 3, 1, 1, -1, 1);
        dueRegion(inGrid(20, -50, -50, 50, -50, 0, 50), 1681 - 60, -20, 20, -20, 20);
        dueRegion(with(1, -7), 1, 1, 1, -7, -7);
    }

    // The same, far from the middle on each side.
    static void promise22RegionReachesFarFromTheMiddle() {
        dueRegion(with(-5, 5, -3, 5, -4, 9), 7, -5, -3, 5, 9);
        dueRegion(with(5, 5, 3, 5, 4, 9), 7, 3, 5, 5, 9);
        dueRegion(with(-5, -5, -3, -5, -4, -9), 7, -5, -3, -9, -5);
        dueRegion(with(5, -5, 3, -5, 4, -9), 7, 3, 5, -9, -5);
        dueRegion(with(5, -5, 5, -3, 9, -4), 7, 5, 9, -5, -3);
        dueRegion(with(-5, 5, -5, 3, -9, 4), 7, -9, -5, 3, 5);
        dueRegion(with(5, 5, 5, 3, 9, 4), 7, 5, 9, 3, 5);
        dueRegion(with(-5, -5, -5, -3, -9, -4), 7, -9, -5, -5, -3);
    }

    // Each call tells its own k, whatever was asked ahead.
    static void promise22RegionOfOneKThenAnother() {
        CloudDepth x = with(1, 2, 3, 4, 3, 2);
        int[][] dues = {{441, -10, 10, -10, 10}, {6, 1, 3, 2, 4}, {0, NO, NO, NO, NO}, {6, 1, 3, 2, 4}, {441, -10, 10, -10, 10}};
        int[] ks = {0, 1, 2, 1, 0};
        for (int i = 0; i < ks.length; i++) {
            for (int what = 0; what <= 4; what++) due(dues[i][what], x.region(ks[i], what));
        }
    }

    private static void dueRegion(CloudDepth x, int... answers) {
        for (int what = 0; what <= 4; what++) due(answers[what], x.region(1, what));
    }

    // ---- promise 23 ----

    // "NONE: X or Y beyond -200 .. 200"
    static void promise23TrianglesOfPlacesFromMinus200To200() {
        CloudDepth x = with(TRIANGLE);
        for (int within : new int[] {-200, -199, 199, 200}) {
            due(0, x.triangles(within, 0));
            due(0, x.triangles(0, within));
        }
        for (int beyond : new int[] {-201, 201, LEAST, MOST}) {
            due(NONE, x.triangles(beyond, 0));
            due(NONE, x.triangles(0, beyond));
            due(NONE, x.triangles(beyond, beyond));
        }
    }

    // Three POINTS make the first one.
    static void promise23TrianglesOfFewPoints() {
        CloudDepth x = new CloudDepth();
        due(0, x.triangles(0, 0));
        x.add(0, 0);
        due(0, x.triangles(0, 0));
        x.add(4, 0);
        due(0, x.triangles(0, 0));
        due(0, x.triangles(2, 0));
        x.add(0, 4);
        due(1, x.triangles(0, 0));
        due(1, x.triangles(2, 0));
    }

    // "three POINTS not on one line"
    static void promise23TrianglesAreNotOnOneLine() {
        CloudDepth x = with(0, 0, 2, 0, 4, 0);
        due(0, x.triangles(2, 0));
        due(0, x.triangles(1, 0));
        x.move(1, 2, 1);
        due(1, x.triangles(2, 0));
        due(1, x.triangles(2, 1));
        due(0, with(row(12)).triangles(5, 0));
    }

    // "inside or on their rim"
    static void promise23TrianglesHaveTheirRim() {
        CloudDepth x = with(TRIANGLE);
        int[][] within = {{0, 0}, {4, 0}, {0, 4}, {2, 0}, {0, 2}, {2, 2}, {3, 1}, {1, 1}};
        for (int[] at : within) due(1, x.triangles(at[0], at[1]));
        int[][] out = {{-1, 0}, {0, -1}, {5, 0}, {0, 5}, {5, -1}, {-1, 5}, {2, -1}, {-1, 2}, {3, 2}, {2, 3}};
        for (int[] at : out) due(0, x.triangles(at[0], at[1]));
        // The same three the other way round.
        x = with(0, 0, 0, 4, 4, 0);
        for (int[] at : within) due(1, x.triangles(at[0], at[1]));
        for (int[] at : out) due(0, x.triangles(at[0], at[1]));
    }

    // One step of TURN 1 within, or out of, each of the three sides.
    static void promise23TrianglesBesideTheRim() {
        for (int[] order : ordersOf(3)) {
            CloudDepth x = with(inOrder(order, -50, -50, 50, 49, -50, 50));
            due(1, x.triangles(-49, -49));
            due(0, x.triangles(49, 48));
            x = with(inOrder(order, -50, -50, 50, 49, 50, -50));
            due(0, x.triangles(-49, -49));
            due(1, x.triangles(49, 48));
        }
    }

    static void promise23TrianglesOf12Points() {
        CloudDepth x = with(BOWL);
        for (int p = 0; p < 12; p++) due(55, x.triangles(x.point(p, 0), x.point(p, 1)));
        due(0, x.triangles(0, -1));
        due(4, with(SQUARE).triangles(0, 0));
        due(2, with(SQUARE).triangles(1, 0));
        due(2, with(SQUARE).triangles(2, 0));
        due(0, with(SQUARE).triangles(3, 0));
    }

    // ---- promise 33 ----

    // "NONE for others": what is 0 .. 2.
    static void promise33FreshOfNoSuchWhat() {
        CloudDepth x = with(SQUARE);
        for (int what : new int[] {-1, 3, LEAST, MOST}) due(NONE, x.fresh(0, 0, what));
        int[] answers = {2, 3, 4};
        for (int what = 0; what <= 2; what++) due(answers[what], x.fresh(0, 0, what));
    }

    // "X or Y beyond -50 .. 50"
    static void promise33FreshOfPlacesFromMinus50To50() {
        CloudDepth x = with(SQUARE);
        for (int what = 0; what <= 2; what++) {
            int due = what == 2 ? 5 : what == 1 ? 2 : 1;
            for (int within : new int[] {-50, -49, 49, 50}) {
                due(due, x.fresh(within, 0, what));
                due(due, x.fresh(0, within, what));
            }
            for (int beyond : new int[] {-51, 51, LEAST, MOST}) {
                due(NONE, x.fresh(beyond, 0, what));
                due(NONE, x.fresh(0, beyond, what));
            }
        }
    }

    // "a POINT is there"
    static void promise33FreshWhereAPointIs() {
        CloudDepth x = with(SQUARE);
        for (int what = 0; what <= 2; what++) {
            for (int p = 0; p < 4; p++) due(NONE, x.fresh(x.point(p, 0), x.point(p, 1), what));
            due(what == 1 ? 2 : what == 0 ? 1 : 4, x.fresh(2, 1, what));
        }
        x.goes(2);
        due(4, x.fresh(2, 2, 2));
    }

    // "there are 12"
    static void promise33FreshOfA13thPoint() {
        CloudDepth x = with(row(11));
        due(1, x.fresh(11, 0, 0));
        due(6, x.fresh(11, 0, 1));
        due(3, x.fresh(11, 1, 2));
        x.add(11, 0);
        for (int what = 0; what <= 2; what++) due(NONE, x.fresh(12, 0, what));
        x.goes(0);
        due(1, x.fresh(12, 0, 0));
    }

    // Of no POINTS: the new one is all that there would be.
    static void promise33FreshOfTheFirstPoint() {
        CloudDepth x = new CloudDepth();
        due(1, x.fresh(50, -50, 0));
        due(0, x.fresh(50, -50, 1));
        due(1, x.fresh(50, -50, 2));
        due(1, x.fresh(10, -10, 1));
        due(1, x.fresh(10, 10, 1));
        due(1, x.fresh(-10, 10, 1));
        due(1, x.fresh(-10, -10, 1));
        due(0, x.fresh(11, -10, 1));
        due(0, x.fresh(-11, 10, 1));
        due(0, x.fresh(-10, 11, 1));
        due(0, x.fresh(10, -11, 1));
    }

    // "how many LAYERS there would be", "CORNERS": on the rim, one step within, one step out.
    static void promise33FreshOnTheRim() {
        CloudDepth x = with(SQUARE);
        int[][] dues = {{-1, 2, 4}, {-2, 1, 4}, {-3, 1, 5}};
        for (int[] due : dues) {
            due(due[1], x.fresh(0, due[0], 0));
            due(due[2], x.fresh(0, due[0], 2));
        }
        due(4, x.fresh(3, -3, 2));
        CloudDepth row = with(ROW_OF_5);
        due(2, row.fresh(1, 1, 2));
        due(2, row.fresh(5, 5, 2));
        due(3, row.fresh(1, 2, 2));
        due(1, row.fresh(1, 2, 0));
    }

    // What would be is not: nothing changes.
    static void promise33FreshChangesNothing() {
        CloudDepth x = with(SQUARE);
        String before = stateOf(x);
        due(2, x.deepest(0));
        due(4, x.cutOff(1));
        for (int what = 0; what <= 2; what++) x.fresh(0, -3, what);
        due(before, stateOf(x));
        due(2, x.deepest(0));
        due(4, x.cutOff(1));
        due(4, x.corner(NONE));
        due(1, x.layer(NONE));
    }
}
