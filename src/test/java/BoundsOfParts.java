/** Boundary cases of promises 30 to 32: parts of FOUR, KEEPING places, SPLITS. */
final class BoundsOfParts extends Bench {

    // ---- promise 30 ----

    // "NONE: no such unlike ones": no such POINT, at each of the four.
    static void promise30FourOfNoSuchPoints() {
        CloudDepth x = with(SQUARE);
        for (int other : new int[] {-1, 4, 5, 31, 32, LEAST, MOST}) {
            due(NONE, x.four(other, 1, 2, 3));
            due(NONE, x.four(0, other, 2, 3));
            due(NONE, x.four(0, 1, other, 3));
            due(NONE, x.four(0, 1, 2, other));
        }
        due(5, x.four(0, 1, 2, 3));
        // Numbers that are as 0 in their last five bits.
        for (int other : new int[] {32, -32, 64}) {
            due(NONE, x.four(other, 1, 2, 3));
            due(NONE, x.four(1, other, 2, 3));
            due(NONE, x.four(1, 2, other, 3));
            due(NONE, x.four(1, 2, 3, other));
        }
        due(NONE, new CloudDepth().four(0, 1, 2, 3));
        due(NONE, with(TRIANGLE).four(0, 1, 2, 3));
    }

    // "FOUR unlike POINTS"
    static void promise30FourOfPointsToldTwice() {
        CloudDepth x = with(SQUARE);
        due(NONE, x.four(0, 0, 1, 2));
        due(NONE, x.four(0, 1, 0, 2));
        due(NONE, x.four(0, 1, 2, 0));
        due(NONE, x.four(1, 0, 0, 2));
        due(NONE, x.four(1, 0, 2, 0));
        due(NONE, x.four(1, 2, 0, 0));
        due(NONE, x.four(3, 3, 3, 3));
    }

    // "-2: three of them are on one line"
    static void promise30FourWithThreeOnOneLine() {
        CloudDepth x = with(join(TRIANGLE, 2, 0));
        due(-2, x.four(0, 1, 2, 3));
        x.move(3, 6, 0);
        due(-2, x.four(0, 1, 2, 3));
        x.move(3, 2, 2);
        due(-2, x.four(3, 2, 1, 0));
        x.move(3, 0, 1);
        due(-2, x.four(3, 0, 1, 2));
        due(-2, with(row(4)).four(0, 1, 2, 3));
        due(-2, with(row(12)).four(8, 9, 10, 11));
    }

    // One step within the three and one step out: the parts are others.
    static void promise30FourBesideTheLine() {
        CloudDepth x = with(join(TRIANGLE, 2, 1));
        due(7, x.four(0, 1, 2, 3));
        x.move(3, 2, -1);
        due(3, x.four(0, 1, 2, 3));
        x.move(3, 3, 2);
        due(1 + 8, x.four(0, 1, 2, 3));
        x.move(3, -1, 2);
        due(1 + 4, x.four(0, 1, 2, 3));
    }

    // "Where NONE and -2 could both be told, it is NONE"
    static void promise30FourIsNoneAheadOfMinus2() {
        CloudDepth x = with(ROW_OF_5);
        due(NONE, x.four(0, 1, 2, 2));
        due(NONE, x.four(0, 0, 1, 2));
        due(NONE, x.four(0, 1, 2, 5));
        due(NONE, x.four(-1, 1, 2, 3));
        due(-2, x.four(0, 1, 2, 3));
    }

    // "the one that has the least number": a part of one, of two, of three.
    static void promise30FourTellsThePartOfTheLeastNumber() {
        due(1, with(1, 1, 0, 0, 4, 0, 0, 4).four(3, 2, 1, 0));
        due(1 + 4 + 8, with(0, 0, 1, 1, 4, 0, 0, 4).four(0, 1, 2, 3));
        due(1 + 2 + 8, with(0, 0, 4, 0, 1, 1, 0, 4).four(0, 1, 2, 3));
        due(1 + 2 + 4, with(0, 0, 4, 0, 0, 4, 1, 1).four(0, 1, 2, 3));
        due(256 + 1024, with(BOWL).four(11, 8, 10, 9));
        due(1 + 64, with(BOWL).four(0, 5, 6, 11));
        for (int i = 0; i < 4; i++) due(5, with(SQUARE).four(i, (i + 1) % 4, (i + 2) % 4, (i + 3) % 4));
    }

    // The same with numbers above 0, in each order; one that is not of the four changes nothing, wherever it is.
    static void promise30FourBesideOthersInEachOrder() {
        for (int[] order : ordersOf(5)) {
            int[] at = new int[5];
            for (int i = 0; i < 5; i++) at[order[i]] = i;
            for (int[] fifth : new int[][] {{0, -2}, {0, 0}, {6, 2}, {-5, -5}, {1, 1}}) {
                CloudDepth x = with(inOrder(order, join(SQUARE, fifth)));
                int one = 1 << at[0] | 1 << at[2];
                int two = 1 << at[1] | 1 << at[3];
                due(leastBit(one) < leastBit(two) ? one : two, x.four(at[3], at[0], at[2], at[1]));
            }
            for (int[] fifth : new int[][] {{2, 2}, {2, 0}, {0, 7}, {3, 3}, {-1, -1}}) {
                CloudDepth x = with(inOrder(order, join(join(TRIANGLE, 1, 1), fifth)));
                int inner = 1 << at[3];
                int three = 1 << at[0] | 1 << at[1] | 1 << at[2];
                due(leastBit(inner) < leastBit(three) ? inner : three, x.four(at[0], at[1], at[2], at[3]));
            }
        }
    }

    private static int leastBit(int set) { return Integer.numberOfTrailingZeros(set); }

    // ---- promise 31 ----

    // "NONE: no such one"
    static void promise31KeepingOfNoSuchPoint() {
        due(NONE, new CloudDepth().keeping(0));
        due(NONE, new CloudDepth().keeping(-1));
        CloudDepth x = with(TRIANGLE);
        for (int p : new int[] {-1, 3, 4, LEAST, MOST}) due(NONE, x.keeping(p));
        for (int p = 0; p < 3; p++) due(true, x.keeping(p) > 0);
        due(NONE, with(row(12)).keeping(12));
        due(10, with(row(12)).keeping(11));
    }

    // Without two others each place keeps all.
    static void promise31KeepingOfFewPoints() {
        due(441, with(3, 3).keeping(0));
        due(441, with(50, 50).keeping(0));
        due(9, inGrid(1, 3, 3).keeping(0));
        due(1681, inGrid(20, 3, 3).keeping(0));
        CloudDepth two = with(3, 3, 4, 4);
        due(440, two.keeping(0));
        due(440, two.keeping(1));
    }

    // "not where another POINT is": one at the GRID's rim counts, one beyond it does not.
    static void promise31KeepingNotWhereAnotherIs() {
        due(440, with(0, 0, 10, 10).keeping(0));
        due(441, with(0, 0, 11, 10).keeping(0));
        due(441, with(0, 0, 10, -11).keeping(0));
        CloudDepth x = with(0, 0, 5, 0, 3, 0);
        due(19, x.keeping(2));
        x.move(1, 10, 0);
        due(19, x.keeping(2));
        x.move(1, 11, 0);
        due(20, x.keeping(2));
    }

    // "(its own, too, if it is one ..)": a place of the GRID.
    static void promise31KeepingItsOwnPlace() {
        CloudDepth x = with(-1, -1, 2, -1, -1, 2, 0, 0);
        due(1, x.keeping(3));
        x = with(9, 9, 12, 9, 9, 12, 10, 10);
        due(1, x.keeping(3));
        x = with(10, 10, 13, 10, 10, 13, 11, 11);
        due(0, x.keeping(3));
        due(9, inGrid(1, 30, 30, 31, 30, 30, 31).keeping(0));
        due(9, inGrid(1, 30, 30, 31, 30, 29, 29).keeping(2));
        due(0, inGrid(1, 30, 30, 31, 30, 29, 31).keeping(2));
    }

    // "the same TURN (LEFT, RIGHT, ON) as now": ON stays ON, LEFT does not become ON.
    static void promise31KeepingTheSameTurn() {
        CloudDepth x = with(-20, 0, 20, 0, 0, 1);
        due(210, x.keeping(2));
        x.move(2, 0, 0);
        due(21, x.keeping(2));
        x.move(2, 0, -1);
        due(210, x.keeping(2));
        x.move(2, 0, 50);
        due(210, x.keeping(2));
        x.move(0, -20, 10);
        x.move(1, 20, 10);
        due(0, x.keeping(2));
        x.move(0, -20, 9);
        x.move(1, 20, 9);
        due(21, x.keeping(2));
    }

    // ---- promise 32 ----

    // "(fewer than 2 POINTS: 0)"
    static void promise32SplitsOfFewPoints() {
        CloudDepth x = new CloudDepth();
        due(0, x.splits());
        x.add(1, 1);
        due(0, x.splits());
        x.add(3, 3);
        due(0, x.splits());
        x.add(2, 2);
        due(1, x.splits());
        x.move(2, 2, 1);
        due(0, x.splits());
    }

    // "the HULLS' figures have a place in common": those that touch have one.
    static void promise32SplitsOfFiguresThatTouch() {
        CloudDepth x = with(-5, 0, 5, 0, 0, 1, 0, 5);
        due(1, x.splits());
        x.move(2, 0, 0);
        due(2, x.splits());
        x.move(2, 0, -1);
        due(1, x.splits());
        due(7, with(join(SQUARE, 0, 0)).splits());
    }

    // "neither empty", "each two sets count once": of 12 POINTS there are 2,047 pairs.
    static void promise32SplitsOf12Points() {
        due(2047 - 66, with(BOWL).splits());
        due(2047 - 11, with(row(12)).splits());
        due(1, with(SQUARE).splits());
    }
}
