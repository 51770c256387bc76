/** Boundary cases of promises 11 to 15: POINTS, turns, sides, CORNERS and LAYERS. */
final class BoundsOfHulls extends Bench {
    /** Four triangles, one in the other: 12 POINTS, four LAYERS of three. */
    private static final int[] NESTED = {-50, -50, 50, -50, 0, 50, -30, -35, 30, -35, 0, 20, -15, -25, 15, -25, 0, 0, -5, -20, 5, -20, 0, -12};

    // ---- promise 11 ----

    // "-100000 for others": no such POINT.
    static void promise11PointOfNoSuchPoint() {
        CloudDepth none = new CloudDepth();
        CloudDepth two = with(3, 4, 5, 6);
        CloudDepth twelve = with(row(12));
        for (int what = 0; what <= 5; what++) {
            due(NO, none.point(0, what));
            due(NO, none.point(-1, what));
            due(NO, two.point(-1, what));
            due(NO, two.point(2, what));
            due(NO, two.point(LEAST, what));
            due(NO, two.point(MOST, what));
            due(NO, twelve.point(12, what));
        }
        due(3, two.point(0, 0));
        due(5, two.point(1, 0));
        due(11, twelve.point(11, 0));
    }

    // "-100000 for others": what is 0 .. 5.
    static void promise11PointOfNoSuchWhat() {
        CloudDepth x = with(3, 4);
        for (int what : new int[] {-1, 6, LEAST, MOST}) due(NO, x.point(0, what));
        int[] answers = {3, 4, 0, 1, 1, 441};
        for (int what = 0; what <= 5; what++) due(answers[what], x.point(0, what));
    }

    // "what 0 X, 1 Y"
    static void promise11PointTellsXAndYToTheirEnds() {
        CloudDepth x = with(-50, 50, 50, -50, 0, -1);
        due("(-50 50)(50 -50)(0 -1)", placesOf(x));
    }

    // "2 its LAYER": LAYER 0 has the rim with it, one step within is LAYER 1.
    static void promise11PointTellsTheLayer() {
        CloudDepth x = with(join(SQUARE, 0, -2));
        due(0, x.point(4, 2));
        x.move(4, 0, -1);
        due(1, x.point(4, 2));
        x.move(4, 0, -3);
        due(0, x.point(4, 2));
        x = with(NESTED);
        for (int p = 0; p < 12; p++) due(p / 3, x.point(p, 2));
    }

    // "of POINTS on one line: all"
    static void promise11PointOfARowIsInLayer0() {
        CloudDepth x = with(ROW_OF_5);
        for (int p = 0; p < 5; p++) due(0, x.point(p, 2));
        due(0, with(7, 7).point(0, 2));
        x = with(join(new int[] {-9, -9, 9, -9, 9, 9, -9, 9}, -1, 0, 0, 0, 1, 0));
        for (int p = 4; p < 7; p++) due(1, x.point(p, 2));
    }

    // "3 its DEPTH": the POINT itself is in every half-plane about it.
    static void promise11PointTellsItsDepth() {
        due(1, with(7, 7).point(0, 3));
        due(1, with(-50, -50).point(0, 3));
        CloudDepth x = with(ROW_OF_5);
        int[] depths = {1, 2, 3, 2, 1};
        for (int p = 0; p < 5; p++) due(depths[p], x.point(p, 3));
        x = with(join(SQUARE, 0, 0));
        due(1, x.point(0, 3));
        due(3, x.point(4, 3));
        x.move(4, 0, -1);
        due(2, x.point(4, 3));
        x.move(4, 0, -2);
        due(2, x.point(4, 3));
        x.move(4, 0, -3);
        due(1, x.point(4, 3));
    }

    // "4 whether it is a CORNER of its LAYER (1, 0)"
    static void promise11PointIsACornerOfItsLayer() {
        due(1, with(7, 7).point(0, 4));
        CloudDepth two = with(7, 7, 8, 8);
        due(1, two.point(0, 4));
        due(1, two.point(1, 4));
        CloudDepth row = with(ROW_OF_5);
        int[] ends = {1, 0, 0, 0, 1};
        for (int p = 0; p < 5; p++) due(ends[p], row.point(p, 4));
        CloudDepth x = with(join(SQUARE, 0, -2));
        due(0, x.point(4, 4));
        x.move(4, 0, -3);
        due(1, x.point(4, 4));
        x.move(4, 0, -1);
        due(1, x.point(4, 4));
        x.add(1, -1);
        x.add(-1, -1);
        due(0, x.point(4, 4));
        due(1, x.point(5, 4));
        due(1, x.point(6, 4));
        due(1, x.point(0, 4));
    }

    // Between one of its LAYER and one of another LAYER it is a CORNER still, whichever came first.
    static void promise11PointIsACornerInLineWithOtherLayers() {
        int[] outer = {-10, -10, 10, -10, 10, 10, -10, 10, 0, -10, 0, 10};
        int[] inner = {0, -4, 0, 4, 3, 0};
        CloudDepth x = with(join(outer, inner));
        int[] corners = {1, 1, 1, 1, 0, 0, 1, 1, 1};
        for (int p = 0; p < 9; p++) due(corners[p], x.point(p, 4));
        CloudDepth y = with(join(inner, outer));
        for (int p = 0; p < 9; p++) due(corners[(p + 6) % 9], y.point(p, 4));
        y.add(0, 1);
        due(0, y.point(9, 4));
    }

    // "5 its SHARE": places "nearer to it than to any other POINT": those as near to two are of none.
    static void promise11PointSharesNoPlaceAsNearToTwo() {
        CloudDepth x = inGrid(1, -1, 0, 1, 0);
        due(3, x.point(0, 5));
        due(3, x.point(1, 5));
        x = inGrid(1, 0, 0, 1, 0);
        due(6, x.point(0, 5));
        due(3, x.point(1, 5));
        x = inGrid(1, 0, 1, 0, -1, 1, 0, -1, 0);
        due(1, x.point(0, 5));
        x.add(0, 0);
        due(1, x.point(4, 5));
        due(1, x.point(0, 5));
    }

    // "how many places of the GRID": of a POINT alone all of them, of one that is far none.
    static void promise11PointSharesFromNoneToAll() {
        due(9, inGrid(1, 0, 0).point(0, 5));
        due(9, inGrid(1, 50, 50).point(0, 5));
        due(1681, inGrid(20, -50, 50).point(0, 5));
        CloudDepth x = inGrid(1, 2, 0, 3, 0);
        due(9, x.point(0, 5));
        due(0, x.point(1, 5));
        x = inGrid(20, 20, 20, 21, 20);
        due(1681, x.point(0, 5));
        due(0, x.point(1, 5));
        x = inGrid(20, 19, 20, 20, 20);
        due(1681 - 41, x.point(0, 5));
        due(41, x.point(1, 5));
    }

    // ---- promise 12 ----

    // "-100000 for others": no such POINT, at each of the three.
    static void promise12TurnedOfNoSuchPoint() {
        CloudDepth x = with(TRIANGLE);
        for (int other : new int[] {-1, 3, LEAST, MOST}) {
            for (int what = 0; what <= 1; what++) {
                due(NO, x.turned(other, 1, 2, what));
                due(NO, x.turned(0, other, 2, what));
                due(NO, x.turned(0, 1, other, what));
            }
        }
        due(16, x.turned(0, 1, 2, 0));
        due(NO, new CloudDepth().turned(0, 0, 0, 0));
        due(0, with(row(12)).turned(0, 10, 11, 0));
        due(NO, with(row(12)).turned(0, 11, 12, 0));
    }

    // "-100000 for others": what is 0 or 1.
    static void promise12TurnedOfNoSuchWhat() {
        CloudDepth x = with(TRIANGLE);
        for (int what : new int[] {-1, 2, LEAST, MOST}) due(NO, x.turned(0, 1, 2, what));
        due(16, x.turned(0, 1, 2, 0));
        due(1, x.turned(0, 1, 2, 1));
    }

    // "(one may be told twice)"
    static void promise12TurnedOfAPointToldTwice() {
        CloudDepth x = with(TRIANGLE);
        for (int what = 0; what <= 1; what++) {
            due(0, x.turned(0, 0, 2, what));
            due(0, x.turned(0, 2, 0, what));
            due(0, x.turned(2, 0, 0, what));
            due(0, x.turned(1, 1, 1, what));
        }
    }

    // "above 0: r is LEFT of p, q, below 0: RIGHT, 0: ON"
    static void promise12TurnedIsLeftRightOrOn() {
        CloudDepth x = with(0, 0, 5, 2, 3, 1);
        due(-1, x.turned(0, 1, 2, 0));
        due(-1, x.turned(0, 1, 2, 1));
        due(1, x.turned(1, 0, 2, 0));
        due(1, x.turned(1, 0, 2, 1));
        x.move(1, 6, 2);
        due(0, x.turned(0, 1, 2, 0));
        due(0, x.turned(0, 1, 2, 1));
        x.move(1, 7, 2);
        due(1, x.turned(0, 1, 2, 0));
        due(1, x.turned(0, 1, 2, 1));
    }

    static void promise12TurnedIsAtMost10000() {
        CloudDepth x = with(-50, -50, 50, -50, 50, 50);
        due(10000, x.turned(0, 1, 2, 0));
        due(-10000, x.turned(0, 2, 1, 0));
        due(1, x.turned(0, 1, 2, 1));
        due(-1, x.turned(0, 2, 1, 1));
    }

    // ---- promise 13 ----

    // "Of two unlike POINTS p, q": "NONE for others"
    static void promise13SidesOfNoSuchPoints() {
        CloudDepth x = with(TRIANGLE);
        for (int what = 0; what <= 5; what++) {
            for (int p = 0; p < 3; p++) due(NONE, x.sides(p, p, what));
            for (int other : new int[] {-1, 3, LEAST, MOST}) {
                due(NONE, x.sides(other, 1, what));
                due(NONE, x.sides(0, other, what));
                due(NONE, x.sides(other, other, what));
            }
        }
        due(NONE, new CloudDepth().sides(0, 1, 0));
        due(NONE, with(1, 1).sides(0, 0, 0));
        due(NONE, with(1, 1).sides(0, 1, 0));
    }

    // "NONE for others": what is 0 .. 5.
    static void promise13SidesOfNoSuchWhat() {
        CloudDepth x = with(join(TRIANGLE, 2, 0, 2, -1));
        for (int what : new int[] {-1, 6, LEAST, MOST}) due(NONE, x.sides(0, 1, what));
        int[] answers = {1, 1, 1, 4, 16, 8};
        for (int what = 0; what <= 5; what++) due(answers[what], x.sides(0, 1, what));
        int[] back = {1, 1, 1, 16, 4, 8};
        for (int what = 0; what <= 5; what++) due(back[what], x.sides(1, 0, what));
    }

    // "2 ON besides them": beyond them and between, without the two.
    static void promise13SidesAreOnBesidesThem() {
        CloudDepth two = with(1, 1, 2, 2);
        for (int what = 0; what <= 5; what++) due(0, two.sides(0, 1, what));
        CloudDepth x = with(ROW_OF_5);
        due(0, x.sides(1, 3, 0));
        due(0, x.sides(1, 3, 1));
        due(3, x.sides(1, 3, 2));
        due(1 + 4 + 16, x.sides(1, 3, 5));
        due(1 + 4 + 16, x.sides(3, 1, 5));
    }

    // Of 12 POINTS ten are at the sides; the highest bit is that of POINT 11.
    static void promise13SidesOf12Points() {
        CloudDepth x = with(BOWL);
        due(10, x.sides(0, 11, 1));
        due(0, x.sides(0, 11, 0));
        due(4095 - 1 - 2048, x.sides(0, 11, 4));
        due(10, x.sides(0, 1, 0));
        due(4095 - 3, x.sides(0, 1, 3));
        due(4095 - 3, x.sides(1, 0, 4));
        x = with(row(12));
        due(10, x.sides(0, 11, 2));
        due(4095 - 1 - 2048, x.sides(0, 11, 5));
    }

    // One step beside the line is LEFT or RIGHT.
    static void promise13SidesOneStepFromTheLine() {
        CloudDepth x = with(-50, -50, 50, 49, 49, 48);
        due(-1, x.turned(0, 1, 2, 0));
        due(4, x.sides(0, 1, 4));
        due(0, x.sides(0, 1, 3));
        x.move(1, 50, 50);
        x.move(2, 49, 49);
        due(4, x.sides(0, 1, 5));
        x.move(2, 49, 50);
        due(4, x.sides(0, 1, 3));
        x.move(2, 50, 49);
        due(4, x.sides(0, 1, 4));
    }

    // ---- promise 14 ----

    // "how many (i NONE)": of no POINTS, of one, of two.
    static void promise14CornerOfFewPoints() {
        CloudDepth x = new CloudDepth();
        due(0, x.corner(NONE));
        due(NONE, x.corner(0));
        x.add(5, 5);
        due(1, x.corner(NONE));
        due(0, x.corner(0));
        due(NONE, x.corner(1));
        x.add(6, 4);
        due(2, x.corner(NONE));
        due(NONE, x.corner(2));
        x.add(5, 4);
        due(3, x.corner(NONE));
        due(NONE, x.corner(3));
    }

    // "NONE: no such one"
    static void promise14CornerOfNoSuchNumber() {
        CloudDepth x = with(SQUARE);
        due(4, x.corner(NONE));
        for (int i : new int[] {-2, 4, 5, LEAST, MOST}) due(NONE, x.corner(i));
        for (int i = 0; i < 4; i++) due(i, x.corner(i));
    }

    // "from the one of the least Y (of as low ones the least X) on"
    static void promise14CornerFirstIsTheLowest() {
        due(2, with(0, 5, 5, 1, 3, 0).corner(0));
        due(1, with(0, 5, 0, 1, 3, 2).corner(0));
        CloudDepth x = with(2, 0, 1, 5, -2, 0, 0, 0);
        due("2 0 1", cornersOf(x));
        x.move(0, -3, 0);
        due("0 3 1", cornersOf(x));
    }

    // "of as low ones the least X": wherever the two are, and whichever came first.
    static void promise14CornerFirstOfAsLowOnes() {
        int[] xs = {-50, -7, -1, 0, 1, 7, 50};
        for (int y : new int[] {-50, -7, 0, 7, 49}) {
            for (int i = 0; i < xs.length; i++) {
                for (int j = i + 1; j < xs.length; j++) {
                    due("0 1 2", cornersOf(with(xs[i], y, xs[j], y, 0, y + 1)));
                    due("1 0 2", cornersOf(with(xs[j], y, xs[i], y, 0, y + 1)));
                    due("2 1 0", cornersOf(with(0, y + 1, xs[j], y, xs[i], y)));
                }
            }
        }
    }

    private static String cornersOf(CloudDepth x) {
        StringBuilder text = new StringBuilder();
        int many = x.corner(NONE);
        for (int i = 0; i < many; i++) text.append(i == 0 ? "" : " ").append(x.corner(i));
        due(NONE, x.corner(many));
        return text.toString();
    }

    // "with all others LEFT of, or ON, the way from each to the next"
    static void promise14CornerOrderGoesLeft() {
        due("1 3 2 0", cornersOf(with(-2, 2, -2, -2, 2, 2, 2, -2)));
        due("6 7 8 9 10 11 0 1 2 3 4 5", cornersOf(with(BOWL)));
    }

    // "(of two or fewer: that one, the other one)"
    static void promise14CornerOrderOfTwo() {
        due("1 0", cornersOf(with(3, 3, 1, 1)));
        due("0 1", cornersOf(with(1, 1, 3, 3)));
        due("1 0", cornersOf(with(3, 1, 1, 1)));
        due("0 1", cornersOf(with(1, 1, 3, 1)));
        due("2 1", cornersOf(with(0, 0, 1, 1, -1, -1)));
    }

    // "those of the HULL that are not between two others on one line"
    static void promise14CornerIsNotBetweenTwoOthers() {
        due("0 4", cornersOf(with(ROW_OF_5)));
        CloudDepth x = with(join(SQUARE, 0, -2, 2, 0, 0, 2, -2, 0));
        due("0 1 2 3", cornersOf(x));
        x.move(4, 0, -3);
        due("4 1 2 3 0", cornersOf(x));
        x.move(4, 0, -1);
        due("0 1 2 3", cornersOf(x));
        due("0 11", cornersOf(with(row(12))));
    }

    // ---- promise 15 ----

    // "how many (i NONE)": of no POINTS none, of 12 four at most.
    static void promise15LayerCountFromNoneToFour() {
        due(0, new CloudDepth().layer(NONE));
        due(NONE, new CloudDepth().layer(0));
        due(1, with(1, 1).layer(NONE));
        due(1, with(1, 1, 2, 2).layer(NONE));
        due(1, with(BOWL).layer(NONE));
        due(1, with(row(12)).layer(NONE));
        CloudDepth x = with(NESTED);
        due(4, x.layer(NONE));
        for (int i = 0; i < 4; i++) due(7 << 3 * i, x.layer(i));
        due(NONE, x.layer(4));
    }

    // "NONE: no such one"
    static void promise15LayerOfNoSuchNumber() {
        CloudDepth x = with(join(SQUARE, 0, 0));
        due(2, x.layer(NONE));
        for (int i : new int[] {-2, 2, 3, LEAST, MOST}) due(NONE, x.layer(i));
        due(15, x.layer(0));
        due(16, x.layer(1));
    }

    // "those of them that are on the rim": between two corners, too.
    static void promise15LayerHasTheRim() {
        CloudDepth x = with(join(SQUARE, 1, -2, -2, 1));
        due(1, x.layer(NONE));
        due(63, x.layer(0));
        x.move(4, 1, -1);
        due(2, x.layer(NONE));
        due(47, x.layer(0));
        due(16, x.layer(1));
    }

    // "(of POINTS on one line: all)": at the top, and below it.
    static void promise15LayerOfARowHasAll() {
        due(31, with(ROW_OF_5).layer(0));
        due(1, with(ROW_OF_5).layer(NONE));
        due(4095, with(row(12)).layer(0));
        CloudDepth x = with(join(SQUARE, -1, -1, 0, 0, 1, 1));
        due(2, x.layer(NONE));
        due(7 << 4, x.layer(1));
        x.move(5, 0, -1);
        due(7 << 4, x.layer(1));
        x.add(0, 1);
        x.move(5, 0, 0);
        due(2, x.layer(NONE));
        due(15 << 4, x.layer(1));
    }

    // "each next one the HULL of those left": down to one POINT, or two.
    static void promise15LayerLastOfOneOrTwo() {
        CloudDepth x = with(-9, -9, 9, -9, 0, 9, -3, -3, 3, -3, 0, 3, 0, -1);
        due(3, x.layer(NONE));
        due(64, x.layer(2));
        x.add(0, 0);
        due(3, x.layer(NONE));
        due(64 + 128, x.layer(2));
        x.goes(7);
        x.goes(6);
        due(2, x.layer(NONE));
        due(NONE, x.layer(2));
    }
}
