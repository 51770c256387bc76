/** Each promise by its number: ordinary calls, the edges that the document names, and wrong inputs. */
public final class PromiseTest {
    private static final int NONE = CloudDepth.NONE;
    private static final int NO = -100000;
    private static final String SQUARE = "point a -2 -2;point b 2 -2;point c 2 2;point d -2 2;";
    private static final String CENTRED = SQUARE + "point e 0 0;grid 3;";
    private static final String PENTAGON = "point a 0 0;point b 4 0;point c 5 3;point d 2 5;point e -1 3;";
    private static final String NESTED = "point a 0 0;point b 10 0;point c 0 10;point d 2 2;point e 3 2;point f 2 3;";
    private static final String ROW = "point a 0 0;point b 1 1;point c 2 2;point d 3 3;";

    private static int wrong;
    private static int promise;

    public static void main(String[] args) {
        newObject();
        feedAndBack();
        readsTexts();
        findsSyntax();
        findsRoom();
        findsTwiceAndWrong();
        readReplacesAll();
        handWork();
        undoing();
        points();
        turnsAndSides();
        cornersAndLayers();
        edgesAndHalves();
        cutOffs();
        depths();
        deepestAndRegion();
        triangles();
        orders();
        crossings();
        bends();
        fits();
        halvingBoth();
        fours();
        keeping();
        splits();
        fresh();
        slots();
        counts();
        neverThrows();
        System.out.println(wrong == 0 ? "all promises hold" : wrong + " answers are not as due");
        if (wrong != 0) System.exit(1);
    }

    private static void due(long want, long got) {
        if (got != want) {
            wrong++;
            StackTraceElement at = new Throwable().getStackTrace()[1];
            System.out.println("promise " + promise + ", line " + at.getLineNumber() + ": " + got + ", due is " + want);
        }
    }

    private static void due(boolean want, boolean got) {
        if (got != want) {
            wrong++;
            StackTraceElement at = new Throwable().getStackTrace()[1];
            System.out.println("promise " + promise + ", line " + at.getLineNumber() + ": " + got + ", due is " + want);
        }
    }

    /** Puts a text behind the tape; what is too much for the last feed goes by back. */
    private static void tell(CloudDepth x, String text) {
        String padded = text + " ".repeat((20 - text.length() % 20) % 20);
        for (int at = 0; at < padded.length(); at += 20) {
            int[] w = new int[5];
            for (int i = 0; i < 20; i++) w[i / 4] = w[i / 4] << 8 | padded.charAt(at + i) & 255;
            x.feed(w[0], w[1], w[2], w[3], w[4]);
        }
        x.back(padded.length() - text.length());
    }

    private static CloudDepth of(String text) {
        CloudDepth x = new CloudDepth();
        tell(x, text);
        due(0, x.read());
        return x;
    }

    /** 100 times the place of a text's FAULT and its number; 0 without. */
    private static int fault(String text) {
        CloudDepth x = new CloudDepth();
        tell(x, text);
        int number = x.read();
        return number == 0 ? x.place() + 1 : 100 * x.place() + number;
    }

    private static void newObject() {
        promise = 1;
        CloudDepth x = new CloudDepth();
        due(0, x.count(0));
        due(10, x.count(1));
        due(0, x.count(7));
        due(0, x.count(8));
        due(0, x.count(9));
        due(NONE, x.place());
        due(441, x.region(0, 0));
    }

    private static void feedAndBack() {
        promise = 2;
        CloudDepth x = new CloudDepth();
        due(20, x.feed(0x706f696e, 0x74206120, 0x31202d32, 0x3b206772, 0x69642037));
        due(40, x.feed(0x3b202020, 0x20202020, 0x20202020, 0x20202020, 0x20202020));
        due(0, x.read());
        due(1, x.point(0, 0));
        due(-2, x.point(0, 1));
        due(7, x.count(1));
        for (int i = 1; i <= 100; i++) due(20 * i, x.feed(-1, -1, -1, -1, -1));
        due(NONE, x.feed(0, 0, 0, 0, 0));
        due(2000, x.count(7));
        due(1999, x.back(1));
        due(NONE, x.feed(0, 0, 0, 0, 0));
        due(1999, x.count(7));
        promise = 3;
        due(NONE, x.back(-1));
        due(NONE, x.back(2000));
        due(NONE, x.back(Integer.MAX_VALUE));
        due(NONE, x.back(Integer.MIN_VALUE));
        due(1999, x.back(0));
        due(20, x.back(1979));
        due(40, x.feed(0, 0, 0, 0, 0));
        due(0, x.back(40));
        due(0, x.back(0));
        due(NONE, x.back(1));
        tell(x, "point a 1 1;xyz");
        due(12, x.back(3));
        due(0, x.read());
        due(1, x.count(0));
    }

    private static void readsTexts() {
        promise = 4;
        due(0, fault(""));
        due(0, fault(" \t\r\n"));
        due(0, fault("point a 1 1;"));
        due(0, fault("point a1 1;"));
        due(1, fault("pointa1 1;"));
        due(0, fault("point abcdefgh -50-50;point b 50 50;"));
        due(0, fault("point\na\t-\r0001 - 2 ;grid 20;grid1;"));
        due(0, fault("point pointx 1 1;point gri 2 2;point poin 3 3;"));
        due(1, of("grid 7;grid 1;").count(1));
        due(10, of("point a 1 1;").count(1));
        CloudDepth x = of("point b -1 2;grid 4;point a 3 -4;");
        due(2, x.count(0));
        due(-1, x.point(0, 0));
        due(2, x.point(0, 1));
        due(3, x.point(1, 0));
        due(-4, x.point(1, 1));
        due(4, x.count(1));
        due(0, x.count(7));
    }

    private static void findsSyntax() {
        promise = 5;
        due(1, fault("x"));
        due(1, fault("xoint a 1 1;"));
        due(1, fault("frid 1;"));
        due(0, fault("point xoint 1 1;point frid 2 2;"));
        due(1, fault("point a 1 1;x") - 1200);
        due(1, fault("point") - 500);
        due(1, fault("point a 1 1 ") - 1200);
        due(1, fault("point point 1 1;") - 600);
        due(1, fault("point grid 1 1;") - 600);
        due(1, fault("point a - -1 1;") - 1000);
        due(1, fault("point a 1;") - 900);
        due(1, fault("point a 1 1 1;") - 1200);
        due(1, fault("point abcdefghi 1 1;") - 600);
        due(1, fault("point a 12345 1;") - 800);
        due(1, fault("point a 1 1;;") - 1200);
        due(1, fault("grid -1;") - 500);
        due(1, fault("grid a;") - 500);
        due(1, fault("grid 1.") - 600);
        due(1, fault("Point a 1 1;"));
        due(1, fault("point a 1 1;\u000b") - 1200);
        due(1, fault("point a 1 1;\u0000") - 1200);
        due(1, fault("point a 1 1;\u00ff") - 1200);
        due(1, fault("gridgridg 1;"));
        due(1, fault("gridgrid 1;"));
        due(1, fault("grid 99;grid 99;grid") - 2000);
        due(1, fault("point a 77 1;point a") - 2000);
    }

    private static String pointLines(int many) {
        StringBuilder text = new StringBuilder();
        for (int i = 0; i < many; i++) text.append("point ").append((char) ('a' + i)).append(' ').append(10 + i).append(" 1;");
        return text.toString();
    }

    private static void findsRoom() {
        promise = 4;
        due(0, fault(pointLines(12)));
        due(2, fault(pointLines(13)) - 100 * pointLines(12).length());
        due(2, fault(pointLines(12) + "point 5") - 100 * pointLines(12).length());
        due(1, fault(pointLines(12) + "points") - 100 * pointLines(12).length());
        due(2, fault("grid 99;" + pointLines(13)) - 100 * (8 + pointLines(12).length()));
        String full = "grid 1;".repeat(133);
        due(0, fault(full));
        due(1, fault(full + "grid") - 100 * (full.length() + 4));
        due(2, fault(full + "grid 1;") - 100 * (full.length() + 5));
        due(1, fault(full + "grid ;") - 100 * (full.length() + 5));
        due(1, fault(full + "grid 11111") - 100 * (full.length() + 5));
        due(2, fault("point a 1 1;point a 1 1;" + full) - 100 * (24 + 7 * 130));
    }

    private static void findsTwiceAndWrong() {
        promise = 4;
        due(3, fault("point a 1 1;point a 2 2;") - 1800);
        due(3, fault("point a 1 1;point b 1 1;") - 2200);
        due(3, fault("point a 1 -1;point b 1 - 1;") - 2500);
        due(3, fault("point a 0 0;point b -0 -0;") - 2400);
        due(3, fault("point a 1 1;point a 1 1;") - 1800);
        due(3, fault("point a 1 1;point a 99 1;") - 1800);
        due(5, fault("point a 51 1;") - 800);
        due(5, fault("point a -51 1;") - 900);
        due(5, fault("point a 1 51;") - 1000);
        due(5, fault("point a 1 -9999;") - 1100);
        due(5, fault("point a 51 51;") - 800);
        due(5, fault("grid 0;") - 500);
        due(5, fault("grid 21;") - 500);
        due(5, fault("grid 21;point a 1 1;point a 1 1;") - 500);
        due(5, fault("point a 60 1;point b 60 1;") - 800);
        promise = 5;
        CloudDepth x = of("point a 1 1;");
        due(NONE, x.place());
        tell(x, "grid 0;");
        due(5, x.read());
        due(5, x.place());
        x.feed(0, 0, 0, 0, 0);
        x.back(20);
        due(5, x.place());
        due(0, x.read());
        due(NONE, x.place());
    }

    private static void readReplacesAll() {
        promise = 4;
        CloudDepth x = of("grid 5;point a 1 2;");
        x.add(7, 7);
        x.hold(1);
        tell(x, "point a 1 1;point b 1 1;");
        due(3, x.read());
        due(0, x.count(7));
        due(2, x.count(0));
        due(5, x.count(1));
        due(1, x.count(8));
        due(1, x.count(9));
        tell(x, "point c 3 3;");
        due(0, x.read());
        due(1, x.count(0));
        due(10, x.count(1));
        due(0, x.count(8));
        due(0, x.count(9));
        due(false, x.undo());
        due(false, x.restore(1));
        for (int slot = 0; slot < 3; slot++) x.hold(slot);
        due(3, x.count(9));
        due(0, x.read());
        due(0, x.count(9));
        due(0, x.count(0));
        for (int slot = 0; slot < 3; slot++) due(false, x.restore(slot));
    }

    private static void handWork() {
        promise = 6;
        CloudDepth x = new CloudDepth();
        due(0, x.add(50, -50));
        due(NONE, x.add(50, -50));
        due(NONE, x.add(51, 0));
        due(NONE, x.add(0, 51));
        due(NONE, x.add(-51, 0));
        due(NONE, x.add(0, -51));
        due(NONE, x.add(Integer.MIN_VALUE, Integer.MAX_VALUE));
        due(1, x.count(8));
        for (int i = 1; i < 12; i++) due(i, x.add(i, 3));
        due(NONE, x.add(0, 0));
        due(12, x.count(0));
        due(12, x.count(8));
        promise = 7;
        due(false, x.goes(12));
        due(false, x.goes(-1));
        due(true, x.goes(3));
        due(11, x.count(0));
        due(2, x.point(2, 0));
        due(4, x.point(3, 0));
        due(11, x.point(10, 0));
        due(NO, x.point(11, 0));
        due(true, x.goes(10));
        due(10, x.add(11, 3));
        promise = 8;
        due(false, x.move(11, 0, 0));
        due(false, x.move(-1, 0, 0));
        due(false, x.move(0, 51, 0));
        due(false, x.move(0, 0, -51));
        due(false, x.move(0, 1, 3));
        due(false, x.move(0, 50, -50));
        due(15, x.count(8));
        due(true, x.move(0, -50, 50));
        due(-50, x.point(0, 0));
        due(50, x.point(0, 1));
        due(16, x.count(8));
        promise = 9;
        x = of("point a 1 2;point b -50 50;");
        due(true, x.turn(false));
        due(-2, x.point(0, 0));
        due(1, x.point(0, 1));
        due(-50, x.point(1, 0));
        due(-50, x.point(1, 1));
        due(true, x.turn(true));
        due(2, x.point(0, 0));
        due(1, x.point(0, 1));
        due(50, x.point(1, 0));
        due(2, x.count(8));
        due(false, new CloudDepth().turn(false));
        due(false, new CloudDepth().turn(true));
    }

    private static void undoing() {
        promise = 10;
        CloudDepth x = of("point a 1 2;point b 3 4;point c 5 6;");
        due(false, x.undo());
        x.goes(0);
        x.move(0, 9, 9);
        x.turn(false);
        x.add(0, 0);
        x.turn(true);
        due(5, x.count(8));
        due(true, x.undo());
        due(-9, x.point(0, 0));
        due(true, x.undo());
        due(2, x.count(0));
        due(true, x.undo());
        due(9, x.point(0, 0));
        due(true, x.undo());
        due(3, x.point(0, 0));
        due(true, x.undo());
        due(3, x.count(0));
        due(1, x.point(0, 0));
        due(6, x.point(2, 1));
        due(false, x.undo());
        x.goes(2);
        x.goes(1);
        for (int i = 0; i < 41; i++) due(true, x.move(0, i, 50));
        due(40, x.count(8));
        for (int i = 39; i >= 0; i--) {
            due(true, x.undo());
            due(i, x.point(0, 0));
        }
        due(false, x.undo());
        due(50, x.point(0, 1));
        due(0, x.count(8));
    }

    private static void points() {
        promise = 11;
        CloudDepth x = of(NESTED + "point g 5 0;grid 2;");
        due(0, x.point(1, 1));
        due(10, x.point(1, 0));
        due(0, x.point(0, 2));
        due(0, x.point(6, 2));
        due(1, x.point(3, 2));
        due(1, x.point(1, 3));
        due(2, x.point(3, 3));
        due(1, x.point(0, 4));
        due(0, x.point(6, 4));
        due(1, x.point(4, 4));
        due(NO, x.point(0, 6));
        due(NO, x.point(0, -1));
        due(NO, x.point(7, 0));
        due(NO, x.point(-1, 0));
        x = of("point a -1 0;point b 1 0;");
        due(210, x.point(0, 5));
        due(210, x.point(1, 5));
        x.add(0, 0);
        due(210, x.point(0, 5));
        due(21, x.point(2, 5));
        due(0, x.point(2, 4));
        due(0, x.point(2, 2));
        due(2, x.point(2, 3));
        due(0, of("point a 50 50;point b 0 0;").point(0, 5));
    }

    private static void turnsAndSides() {
        promise = 12;
        CloudDepth x = of("point a -50 -50;point b 50 -50;point c 50 50;point d 0 0;");
        due(10000, x.turned(0, 1, 2, 0));
        due(-10000, x.turned(1, 0, 2, 0));
        due(1, x.turned(0, 1, 2, 1));
        due(-1, x.turned(2, 1, 0, 1));
        due(0, x.turned(0, 2, 3, 0));
        due(0, x.turned(0, 2, 3, 1));
        due(0, x.turned(0, 1, 1, 0));
        due(0, x.turned(1, 1, 0, 0));
        due(0, x.turned(0, 1, 0, 1));
        due(NO, x.turned(0, 1, 2, 2));
        due(NO, x.turned(0, 1, 2, -1));
        due(NO, x.turned(0, 1, 4, 0));
        due(NO, x.turned(-1, 1, 2, 0));
        due(NO, x.turned(0, 4, 2, 0));
        promise = 13;
        due(1, x.sides(0, 2, 1));
        due(0, x.sides(0, 2, 0));
        due(1, x.sides(0, 2, 2));
        due(0, x.sides(0, 2, 3));
        due(2, x.sides(0, 2, 4));
        due(8, x.sides(0, 2, 5));
        due(2, x.sides(2, 0, 3));
        due(NONE, x.sides(0, 0, 0));
        due(NONE, x.sides(0, 4, 0));
        due(NONE, x.sides(-1, 0, 0));
        due(NONE, x.sides(0, 1, 6));
        due(NONE, x.sides(0, 1, -1));
    }

    private static void cornersAndLayers() {
        promise = 14;
        CloudDepth x = of("point a 5 5;point b 0 0;point c 5 0;point d 0 5;point e 2 0;point f 1 1;");
        due(4, x.corner(NONE));
        due(1, x.corner(0));
        due(2, x.corner(1));
        due(0, x.corner(2));
        due(3, x.corner(3));
        due(NONE, x.corner(4));
        due(NONE, x.corner(-2));
        x = of("point a 3 1;point b 1 1;point c 2 1;");
        due(2, x.corner(NONE));
        due(1, x.corner(0));
        due(0, x.corner(1));
        x = of("point a 3 1;");
        due(1, x.corner(NONE));
        due(0, x.corner(0));
        due(NONE, x.corner(1));
        promise = 15;
        x = of(NESTED + "point g 5 0;point h 5 5;");
        due(2, x.layer(NONE));
        due(7 + 64 + 128, x.layer(0));
        due(56, x.layer(1));
        due(NONE, x.layer(2));
        due(NONE, x.layer(-2));
        x = of(ROW);
        due(1, x.layer(NONE));
        due(15, x.layer(0));
        due(3, of(SQUARE + "point e -1 -1;point f 1 -1;point g 0 1;point h 0 0;").layer(NONE));
        due(128, of(SQUARE + "point e -1 -1;point f 1 -1;point g 0 1;point h 0 0;").layer(2));
    }

    private static void edgesAndHalves() {
        promise = 16;
        CloudDepth x = of("point a 0 0;point b 4 0;point c 0 4;");
        due(3, x.edges(0));
        due(3, x.edges(1));
        due(0, x.edges(2));
        due(0, x.edges(-1));
        due(0, x.edges(Integer.MIN_VALUE));
        x = of(PENTAGON);
        due(5, x.edges(0));
        due(5, x.edges(1));
        due(5, x.edges(2));
        due(5, x.edges(3));
        due(12, of(ROW).edges(0));
        promise = 17;
        due(5, x.halving(NONE));
        due(2, x.halving(0));
        due(3, x.halving(1));
        due(19, x.halving(2));
        due(20, x.halving(3));
        due(36, x.halving(4));
        due(NONE, x.halving(5));
        due(NONE, x.halving(-2));
        due(6, of(SQUARE).halving(NONE));
        due(35, of(SQUARE).halving(5));
        due(1, of("point a 0 0;point b 4 0;").halving(NONE));
        due(0, of("point a 0 0;").halving(NONE));
    }

    private static void cutOffs() {
        promise = 18;
        CloudDepth x = of(PENTAGON);
        for (int k = 1; k <= 4; k++) due(5, x.cutOff(k));
        due(1, x.cutOff(0));
        due(1, x.cutOff(5));
        due(0, x.cutOff(6));
        due(0, x.cutOff(-1));
        due(2, of(ROW).cutOff(2));
        due(3, of(NESTED).cutOff(1));
        promise = 19;
        due(1, x.isCutOff(3));
        due(1, x.isCutOff(17));
        due(0, x.isCutOff(5));
        due(1, x.isCutOff(0));
        due(1, x.isCutOff(31));
        due(NONE, x.isCutOff(32));
        due(NONE, x.isCutOff(-1));
        due(1, of(ROW).isCutOff(3));
        due(0, of(ROW).isCutOff(5));
        due(0, of(ROW).isCutOff(6));
        due(0, of(NESTED).isCutOff(8));
        due(1, of(NESTED).isCutOff(9));
        x.goes(4);
        due(NONE, x.isCutOff(16));
        due(4, x.cutOff(1));
    }

    private static void depths() {
        promise = 20;
        CloudDepth x = of(CENTRED);
        due(3, x.depth(0, 0));
        due(1, x.depth(-1, -1));
        due(1, x.depth(0, 2));
        due(0, x.depth(0, 3));
        due(0, x.depth(200, -200));
        due(NONE, x.depth(201, 0));
        due(NONE, x.depth(0, -201));
        due(NONE, x.depth(Integer.MIN_VALUE, 0));
        due(2, of(SQUARE).depth(0, 0));
        due(2, of(ROW).depth(2, 2));
        due(0, of(ROW).depth(2, 1));
        due(2, of(PENTAGON).depth(2, 2));
    }

    private static void deepestAndRegion() {
        promise = 21;
        CloudDepth x = of(CENTRED);
        due(3, x.deepest(0));
        due(1, x.deepest(1));
        due(0, x.deepest(2));
        due(0, x.deepest(3));
        due(NO, x.deepest(4));
        due(NO, x.deepest(-1));
        x = of("point a -2 0;point b 2 0;");
        due(1, x.deepest(0));
        due(5, x.deepest(1));
        due(-2, x.deepest(2));
        due(0, x.deepest(3));
        x.turn(false);
        due(0, x.deepest(2));
        due(-2, x.deepest(3));
        due(0, of("point a 5 5;grid 4;").deepest(0));
        due(81, of("point a 5 5;grid 4;").deepest(1));
        due(-4, of("point a 5 5;grid 4;").deepest(2));
        promise = 22;
        due(5, x.region(1, 0));
        due(0, x.region(1, 1));
        due(0, x.region(1, 2));
        due(-2, x.region(1, 3));
        due(2, x.region(1, 4));
        due(0, x.region(2, 0));
        due(NO, x.region(2, 1));
        due(NO, x.region(2, 4));
        due(441, x.region(0, 0));
        due(441, x.region(Integer.MIN_VALUE, 0));
        due(0, x.region(Integer.MAX_VALUE, 0));
        due(-10, x.region(0, 1));
        due(10, x.region(-1, 2));
        due(NO, x.region(1, 5));
        due(NO, x.region(1, -1));
    }

    private static void triangles() {
        promise = 23;
        CloudDepth x = of(NESTED);
        due(14, x.triangles(2, 2));
        due(10, of(NESTED).triangles(10, 0));
        due(0, x.triangles(6, 6));
        due(0, x.triangles(200, 200));
        due(NONE, x.triangles(201, 0));
        due(NONE, x.triangles(0, -201));
        due(1, of("point a 0 0;point b 4 0;point c 0 4;").triangles(2, 2));
        due(0, of(ROW).triangles(1, 1));
        due(4, of(SQUARE).triangles(0, 0));
    }

    private static void orders() {
        promise = 24;
        CloudDepth x = of("point a 2 0;point b 1 0;point c 1 3;");
        due(2, x.order(0, 0));
        due(1, x.order(0, 1));
        due(0, x.order(0, 2));
        due(2, x.order(-1, 0));
        due(0, x.order(-1, 1));
        due(0, x.order(-1000, 0));
        due(2, x.order(1000, 0));
        due(2, x.order(-3, 0));
        due(0, x.order(-3, 1));
        due(NONE, x.order(1001, 0));
        due(NONE, x.order(-1001, 0));
        due(NONE, x.order(0, 3));
        due(NONE, x.order(0, -1));
    }

    private static void crossings() {
        promise = 25;
        CloudDepth x = of("point a 0 0;point b 4 -2;point c 4 7;point d 1 1;point e 2 2;");
        due(9, x.crossing(NONE, 0));
        due(9, x.crossing(NONE, 77));
        due(-2, x.crossing(0, 0));
        due(1, x.crossing(0, 1));
        due(1, x.crossing(0, 2));
        due(4, x.crossing(0, 3));
        due(-1, x.crossing(2, 0));
        due(2, x.crossing(2, 1));
        due(0, x.crossing(2, 2));
        due(1, x.crossing(2, 3));
        due(0, x.crossing(3, 2));
        due(3, x.crossing(3, 3));
        due(4, x.crossing(4, 3));
        due(3, x.crossing(5, 2));
        due(1, x.crossing(5, 0));
        due(1, x.crossing(5, 1));
        due(5, x.crossing(8, 0));
        due(2, x.crossing(8, 1));
        due(NO, x.crossing(9, 0));
        due(NO, x.crossing(-2, 0));
        due(NO, x.crossing(0, 4));
        due(NO, x.crossing(0, -1));
        x = of("point a 3 1;point b -3 1;");
        due(0, x.crossing(0, 0));
        due(1, x.crossing(0, 1));
        due(0, of("point a 3 1;point b 3 2;").crossing(NONE, 0));
    }

    private static void bends() {
        promise = 26;
        CloudDepth x = of("point a -1 0;point b 0 0;point c 1 0;");
        due(1, x.bends(0));
        due(0, x.bends(1));
        due(1, x.bends(2));
        due(NONE, x.bends(3));
        due(NONE, x.bends(-1));
        x.move(1, 0, -1);
        due(1, x.bends(0));
        due(3, x.bends(1));
        due(2, x.bends(2));
        due(0, of("point a 1 1;").bends(0));
        due(0, of("point a 1 1;point b 1 2;").bends(1));
    }

    private static void fits() {
        promise = 27;
        CloudDepth x = of(ROW);
        due(4, x.fit(1, 0));
        due(0, x.fit(0, 10));
        due(1, x.fit(0, 1));
        due(0, x.fit(100, -10000));
        due(0, x.fit(-100, 10000));
        due(NONE, x.fit(101, 0));
        due(NONE, x.fit(-101, 0));
        due(NONE, x.fit(0, 10001));
        due(NONE, x.fit(0, -10001));
        due(1, of("point a 0 1;point b 0 -1;").fit(0, 0));
        due(2, of("point a 0 1;point b 0 -1;point c 3 0;").fit(0, 0));
        promise = 28;
        due(4, x.best(0));
        due(1, x.best(1));
        due(0, x.best(2));
        due(1, x.best(3));
        due(NO, x.best(4));
        due(NO, x.best(-1));
        x = of("point a 0 0;");
        due(1, x.best(0));
        due(-10, x.best(1));
        due(0, x.best(2));
        due(21, x.best(3));
        x.move(0, 0, 5);
        due(5, x.best(2));
        x.move(0, 0, 50);
        due(1, x.best(0));
        due(50, x.best(2));
        x.move(0, 0, -50);
        due(-50, x.best(2));
        due(21, x.best(3));
    }

    private static void halvingBoth() {
        promise = 29;
        CloudDepth x = of("point a 0 0;point b 1 0;point c 2 0;point d 5 5;");
        due(1, x.halvingBoth(7, NONE));
        due(19, x.halvingBoth(7, 0));
        due(NONE, x.halvingBoth(7, 1));
        due(NONE, x.halvingBoth(7, -2));
        due(49, x.halvingBoth(8, 0));
        due(0, x.halvingBoth(0, NONE));
        due(0, x.halvingBoth(15, NONE));
        due(NONE, x.halvingBoth(16, NONE));
        due(NONE, x.halvingBoth(-1, NONE));
        x = of(SQUARE);
        due(4, x.halvingBoth(3, NONE));
        due(2, x.halvingBoth(3, 0));
        due(3, x.halvingBoth(3, 1));
        due(18, x.halvingBoth(3, 2));
        due(19, x.halvingBoth(3, 3));
    }

    private static void fours() {
        promise = 30;
        CloudDepth x = of(SQUARE + "point e 0 1;point f 0 0;");
        due(5, x.four(0, 1, 2, 3));
        due(5, x.four(3, 1, 2, 0));
        due(5, x.four(0, 1, 2, 4));
        due(19, x.four(4, 5, 0, 1));
        due(NONE, x.four(0, 1, 2, 2));
        due(NONE, x.four(0, 1, 2, 6));
        due(NONE, x.four(-1, 1, 2, 3));
        due(-2, x.four(0, 2, 5, 1));
        x = of("point a 0 0;point b 9 0;point c 0 9;point d 1 2;");
        due(7, x.four(0, 1, 2, 3));
        x = of("point a 1 2;point b 9 0;point c 0 9;point d 0 0;");
        due(1, x.four(3, 2, 1, 0));
        x = of("point z 40 40;point a 0 0;point b 0 9;point c 9 0;point d 9 9;");
        due(18, x.four(4, 3, 2, 1));
    }

    private static void keeping() {
        promise = 31;
        due(441, of("point a 30 30;").keeping(0));
        due(440, of("point a 30 30;point b 3 3;").keeping(0));
        due(441, of("point a 3 3;point b 30 30;").keeping(0));
        CloudDepth x = of("point a 0 0;point b 5 0;point c 30 1;");
        due(210, x.keeping(2));
        x.move(2, 3, 0);
        due(19, x.keeping(2));
        due(NONE, x.keeping(3));
        due(NONE, x.keeping(-1));
        // Inside a triangle: just the grid places inside it, its own among them.
        due(1, of("point a -1 -1;point b 2 -1;point c -1 2;point d 0 0;").keeping(3));
    }

    private static void splits() {
        promise = 32;
        due(0, new CloudDepth().splits());
        due(0, of("point a 0 0;").splits());
        due(0, of("point a 0 0;point b 1 1;").splits());
        due(0, of("point a 0 0;point b 4 0;point c 0 4;").splits());
        due(1, of("point a 0 0;point b 1 1;point c 2 2;").splits());
        due(1, of(SQUARE).splits());
        due(5, of(PENTAGON).splits());
        due(7, of(CENTRED).splits());
        due(4, of(ROW).splits());
    }

    private static void fresh() {
        promise = 33;
        CloudDepth x = of(SQUARE);
        due(2, x.fresh(0, 0, 0));
        due(3, x.fresh(0, 0, 1));
        due(4, x.fresh(0, 0, 2));
        due(5, x.fresh(5, 0, 2));
        due(1, x.fresh(5, 0, 0));
        due(4, x.fresh(0, 2, 2));
        due(NONE, x.fresh(0, 0, 3));
        due(NONE, x.fresh(0, 0, -1));
        due(NONE, x.fresh(51, 0, 0));
        due(NONE, x.fresh(0, -51, 0));
        due(NONE, x.fresh(2, 2, 0));
        due(4, x.count(0));
        due(2, x.deepest(0));
        due(0, x.count(8));
        due(1, new CloudDepth().fresh(10, 10, 1));
        due(1, new CloudDepth().fresh(-10, -10, 1));
        due(0, new CloudDepth().fresh(11, 0, 1));
        x = of(pointLines(11));
        due(1, x.fresh(0, 0, 0));
        x.add(0, 0);
        due(NONE, x.fresh(1, 1, 0));
    }

    private static void slots() {
        promise = 34;
        CloudDepth x = of("point a 1 2;grid 6;");
        due(false, x.hold(-1));
        due(false, x.hold(3));
        due(0, x.count(9));
        due(true, x.hold(0));
        due(true, x.hold(2));
        due(true, x.hold(0));
        due(2, x.count(9));
        x.add(4, 4);
        due(true, x.hold(2));
        due(1, x.count(8));
        promise = 35;
        due(false, x.restore(1));
        due(false, x.restore(3));
        due(false, x.restore(-1));
        due(1, x.count(8));
        x.turn(true);
        due(true, x.restore(0));
        due(1, x.count(0));
        due(1, x.point(0, 0));
        due(6, x.count(1));
        due(0, x.count(8));
        due(false, x.undo());
        x.goes(0);
        due(true, x.restore(2));
        due(2, x.count(0));
        x.move(0, 0, 0);
        due(true, x.restore(2));
        due(1, x.point(0, 0));
        due(2, x.count(9));
    }

    private static void counts() {
        promise = 36;
        CloudDepth x = of(NESTED + "grid 4;");
        due(6, x.count(0));
        due(4, x.count(1));
        due(100, x.count(2));
        due(7, x.count(3));
        due(0, x.count(4));
        due(2, x.count(5));
        due(56, x.count(6));
        x.feed(0, 0, 0, 0, 0);
        due(20, x.count(7));
        due(2, x.count(10));
        due(1, x.count(11));
        x.add(5, 0);
        due(2, x.count(4));
        due(3, x.count(10));
        due(NONE, x.count(15));
        due(NONE, x.count(-1));
        due(5, of(PENTAGON).count(12));
        due(10, of(PENTAGON).count(13));
        due(5, of(PENTAGON).count(14));
        due(4, of(CENTRED).count(12));
        due(4, of(CENTRED).count(13));
        due(1, of(CENTRED).count(14));
        due(2, of(ROW).count(12));
        due(0, of(ROW).count(13));
        due(4, of(ROW).count(4));
        due(0, of(ROW).count(14));
        due(1, of("point a 3 3;").count(12));
        due(0, of("point a 30 30;").count(11));
        due(1, of("point a 3 3;").count(11));
        due(1, of("point a 3 3;").count(6));
    }

    private static final int[] ODD = {Integer.MIN_VALUE, Integer.MIN_VALUE + 1, -100001, -1001, -201, -51, -2, -1, 0, 1, 5, 11, 12, 13,
        50, 51, 200, 4095, 4096, 1 << 30, Integer.MAX_VALUE};

    private static void neverThrows() {
        promise = 0;
        for (int size = 0; size <= 12; size++) {
            CloudDepth x = of(pointLines(size));
            for (int a : ODD) {
                x.back(a); x.goes(a); x.undo(); x.corner(a); x.layer(a); x.edges(a); x.halving(a); x.cutOff(a); x.isCutOff(a);
                x.deepest(a); x.bends(a); x.best(a); x.keeping(a); x.hold(a); x.restore(a); x.count(a);
                for (int b : ODD) {
                    x.add(a, b); x.undo(); x.move(0, a, b); x.undo(); x.move(a, b, 7); x.undo();
                    x.point(a, b); x.sides(a, b, 0); x.sides(0, a, b); x.turned(a, b, 0, 0); x.turned(0, 0, a, b);
                    x.depth(a, b); x.region(a, b); x.triangles(a, b); x.order(a, b); x.crossing(a, b); x.fit(a, b);
                    x.halvingBoth(a, b); x.four(a, b, 0, 1); x.four(0, 1, a, b); x.fresh(a, b, 1); x.fresh(3, a, b);
                    x.feed(a, b, a, b, a);
                }
                x.read();
                x.place();
                x.undo();
                tell(x, pointLines(size));
                x.read();
            }
        }
    }
}
