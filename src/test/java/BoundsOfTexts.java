/** Boundary cases of promises 1 to 5: a new object, the tape, texts and their FAULTS. */
final class BoundsOfTexts extends Bench {
    private static final String BLANKS = " ".repeat(20);
    /** Lines of three TOKENS each. */
    private static final String GRID_LINE = "grid 1;";

    private static CloudDepth withTape(int bytes) {
        CloudDepth x = new CloudDepth();
        for (int i = 0; i < bytes; i += 20) feed(x, BLANKS);
        x.back((20 - bytes % 20) % 20);
        due(bytes, x.count(7));
        return x;
    }

    // ---- promise 1 ----

    // "public static final int NONE = -1;"
    static void promise01CloudDepthTellsNone() {
        due(-1, CloudDepth.NONE);
    }

    // "No POINTS"
    static void promise01CloudDepthHasNoPoints() {
        CloudDepth x = new CloudDepth();
        due(0, x.count(0));
        due(NO, x.point(0, 0));
        due(0, x.count(3));
        due(0, x.layer(NONE));
        due(0, x.add(0, 0));
    }

    // "GRID 10"
    static void promise01CloudDepthHasGrid10() {
        CloudDepth x = new CloudDepth();
        due(10, x.count(1));
        due(441, x.region(0, 0));
        due(-10, x.region(0, 1));
        due(10, x.region(0, 2));
        due(-10, x.region(0, 3));
        due(10, x.region(0, 4));
    }

    static void promise01CloudDepthHasNothingElse() {
        CloudDepth x = new CloudDepth();
        due(0, x.count(7));
        due(0, x.count(8));
        due(0, x.count(9));
        due(NONE, x.place());
        due(false, x.undo());
        for (int slot = 0; slot <= 2; slot++) due(false, x.restore(slot));
        due(NONE, x.back(1));
    }

    static void promise01CloudDepthIsApartFromOthers() {
        CloudDepth x = inGrid(3, 1, 1);
        feed(x, BLANKS);
        x.hold(0);
        x.add(2, 2);
        CloudDepth y = new CloudDepth();
        due("grid 10 tape 0 undo 0 slots 0", stateOf(y));
        y.add(7, 7);
        y.hold(1);
        due("grid 3 (1 1) (2 2) tape 20 undo 1 slots 1", stateOf(x));
        due(false, x.restore(1));
    }

    // "An object is used for at most 512 calls after it has been made"
    static void promise01CloudDepthStandsAll512Calls() {
        CloudDepth x = new CloudDepth();
        due(0, x.add(0, 0));
        for (int i = 2; i <= 510; i++) due(true, x.move(0, i % 2, i % 50));
        due(40, x.count(8));
        due(10, x.point(0, 1));
    }

    static void promise01CloudDepthReadsInItsLastCall() {
        CloudDepth x = new CloudDepth();
        for (int i = 1; i <= 100; i++) due(20 * i, feed(x, BLANKS));
        for (int i = 101; i <= 511; i++) due(NONE, feed(x, BLANKS));
        due(0, x.read());
    }

    // ---- promise 2 ----

    // "Twenty bytes, the highest of a first": each one is at its place.
    static void promise02FeedPutsTheHighestOfAFirst() {
        for (int i = 0; i < 20; i++) {
            StringBuilder bytes = new StringBuilder(BLANKS);
            bytes.setCharAt(i, '!');
            CloudDepth x = new CloudDepth();
            due(20, feed(x, bytes.toString()));
            due(1, x.read());
            due(i, x.place());
        }
        CloudDepth x = new CloudDepth();
        due(20, x.feed(0x706f696e, 0x74206162, 0x20312d32, 0x333b6772, 0x6964373b));
        due(0, x.read());
        due("grid 7 (1 -23) tape 0 undo 0 slots 0", stateOf(x));
    }

    // A highest byte of 128 and above makes its number negative, and is still one byte.
    static void promise02FeedTakesBytesOf0To255() {
        for (int b : new int[] {0, 1, 127, 128, 255}) {
            CloudDepth x = new CloudDepth();
            due(20, x.feed(0x20202020, b << 24 | 0x202020, 0x20202020, 0x20202020, 0x20202020));
            due(1, x.read());
            due(4, x.place());
            due(20, x.feed(0x20202020, 0x20202020, 0x20202020, 0x20202020, 0x20202000 | b));
            due(1, x.read());
            due(19, x.place());
        }
    }

    // ".. come behind the tape: how many it has"
    static void promise02FeedTellsHowManyTheTapeHas() {
        CloudDepth x = new CloudDepth();
        due(20, feed(x, "grid 4;point a 1 1;p"));
        due(40, feed(x, "oint b 2 2;xxxxxxxxx"));
        due(31, x.back(9));
        due(51, feed(x, "point c 3 3;        "));
        due(0, x.read());
        due(20, feed(x, BLANKS));
        due("grid 4 (1 1) (2 2) (3 3) tape 20 undo 0 slots 0", stateOf(x));
    }

    // "NONE, and nothing comes, if it would have more than 2,000."
    static void promise02FeedTakes2000BytesAtMost() {
        due(1999, feed(withTape(1979), BLANKS));
        due(2000, feed(withTape(1980), BLANKS));
        due(NONE, feed(withTape(1981), BLANKS));
        due(NONE, feed(withTape(1999), BLANKS));
        due(NONE, feed(withTape(2000), BLANKS));
    }

    static void promise02FeedBeyond2000ChangesNothing() {
        CloudDepth x = withTape(1981);
        due(NONE, feed(x, "!!!!!!!!!!!!!!!!!!!!"));
        due(1981, x.count(7));
        due(0, x.read());
        x = withTape(1981);
        due(NONE, feed(x, "!!!!!!!!!!!!!!!!!!!!"));
        due(1980, x.back(1));
        due(2000, feed(x, "            grid 12;"));
        due(NONE, feed(x, "!!!!!!!!!!!!!!!!!!!!"));
        due(0, x.read());
        due(12, x.count(1));
    }

    // ---- promise 3 ----

    // "The last n bytes of the tape go: how many it has."
    static void promise03BackTakesTheLastBytes() {
        CloudDepth x = new CloudDepth();
        tell(x, "grid 5;grid 6;!");
        due(14, x.back(1));
        due(7, x.back(7));
        due(0, x.read());
        due(5, x.count(1));
    }

    // "NONE, and nothing goes, if it has not so many"
    static void promise03BackTakesNoMoreThanThereAre() {
        CloudDepth x = new CloudDepth();
        tell(x, "grid 5;");
        due(NONE, x.back(8));
        due(NONE, x.back(MOST));
        due(7, x.count(7));
        due(7, x.back(0));
        due(0, x.read());
        due(5, x.count(1));
        tell(x, "grid 5;");
        due(1, x.back(6));
        due(0, x.back(1));
        tell(x, "grid 5;");
        due(0, x.back(7));
        due(0, withTape(2000).back(2000));
        due(1, withTape(2000).back(1999));
        due(NONE, withTape(2000).back(2001));
        due(2000, withTape(2000).back(0));
    }

    // What went is not read, though it was on the tape.
    static void promise03BackLeavesNothingBehindTheEnd() {
        CloudDepth x = new CloudDepth();
        tell(x, "point");
        due(4, x.back(1));
        due(1, x.read());
        due(0, x.place());
        tell(x, "grid 11111");
        due(9, x.back(1));
        due(1, x.read());
        due(9, x.place());
        tell(x, "point abcdefghi");
        due(14, x.back(1));
        due(1, x.read());
        due(14, x.place());
        tell(x, "grid 7;!");
        due(7, x.back(1));
        due(0, x.read());
        due(7, x.count(1));
    }

    static void promise03BackOfAnEmptyTape() {
        CloudDepth x = new CloudDepth();
        due(0, x.back(0));
        due(NONE, x.back(1));
        due(NONE, x.back(-1));
        feed(x, BLANKS);
        x.read();
        due(NONE, x.back(1));
        due(0, x.back(0));
    }

    // ".. or n is below 0"
    static void promise03BackOfFewerThanNone() {
        CloudDepth x = withTape(40);
        due(NONE, x.back(-1));
        due(NONE, x.back(-20));
        due(NONE, x.back(LEAST));
        due(40, x.count(7));
        due(40, x.back(0));
        due(39, x.back(1));
    }

    // ---- promise 4: the tape and the words ----

    // "The tape, which is empty then, is read"
    static void promise04ReadLeavesAnEmptyTape() {
        CloudDepth x = new CloudDepth();
        tell(x, "grid 5;");
        due(0, x.read());
        due(0, x.count(7));
        tell(x, "grid 5");
        due(1, x.read());
        due(0, x.count(7));
        tell(x, "grid 55;");
        due(5, x.read());
        due(0, x.count(7));
        due(0, x.read());
    }

    // "text: {TELL}": of none, too.
    static void promise04ReadOfAnEmptyTape() {
        CloudDepth x = inGrid(3, 1, 1, 2, 2);
        due(0, x.read());
        due("grid 10 tape 0 undo 0 slots 0", stateOf(x));
        dueGood("");
        dueGood(" ");
        dueGood("\t\n\r ");
    }

    // "A TEXT has 2,000 bytes at most."
    static void promise04ReadOf2000Bytes() {
        for (int bytes = 1998; bytes <= 2000; bytes++) {
            CloudDepth x = new CloudDepth();
            tell(x, " ".repeat(bytes - 8) + "grid 13;");
            due(bytes, x.count(7));
            due(0, x.read());
            due(13, x.count(1));
        }
        String blanks = " ".repeat(1990);
        dueFault(5, 1997, blanks + "  grid 0; ");
        dueFault(1, 1999, blanks + "grid 13; !");
        dueFault(1, 2000, blanks + "grid 13   ");
    }

    // "blanks (9, 10, 13, 32)"
    static void promise04ReadKnowsFourBlanks() {
        for (char c = 0; c <= 255; c++) {
            String text = "grid" + c + "5;";
            boolean blank = c == 9 || c == 10 || c == 13 || c == 32;
            boolean digit = c >= '0' && c <= '9';
            if (blank) dueGood(text);
            else if (c >= 'a' && c <= 'z') dueFault(1, 0, text);
            else if (digit) dueFault(c <= '1' ? 0 : 5, c <= '1' ? NONE : 4, text);
            else dueFault(1, 4, text);
        }
    }

    // ".. with blanks between or not"
    static void promise04ReadNeedsNoBlanks() {
        CloudDepth x = reads("point a1-1;point b-1 1;grid7;");
        due("grid 7 (1 -1) (-1 1) tape 0 undo 0 slots 0", stateOf(x));
        x = reads("\r\n point\t\ta - 1 \r -\n1\t; grid \n 7 ;\t");
        due("grid 7 (-1 -1) tape 0 undo 0 slots 0", stateOf(x));
    }

    // "TOKENS, the longest that can be"
    static void promise04ReadTakesTheLongestTokens() {
        dueFault(1, 0, "pointa 1 1;");
        dueFault(1, 0, "grida1;");
        dueFault(1, 0, "gridgrid 1;");
        dueFault(1, 10, "point a 11;");
        dueGood("point a 1 1;");
        dueGood("point a1 1;");
        dueGood("point pointa 1 1;");
        dueGood("point grida 1 1;");
    }

    // "NAMES (letters a .. z, ..)"
    static void promise04ReadTakesNamesOfLettersAToZ() {
        dueGood("point a 1 1;");
        dueGood("point z 1 1;");
        dueFault(1, 6, "point ` 1 1;");
        dueFault(1, 6, "point { 1 1;");
        dueFault(1, 6, "point A 1 1;");
        dueFault(1, 6, "point Z 1 1;");
        dueFault(1, 6, "point \u00e9 1 1;");
        dueFault(1, 6, "point _ 1 1;");
        dueFault(1, 7, "point aA 1 1;");
        dueFault(1, 9, "point a1 b 1;");
    }

    // ".. 8 at most": "a longer one is no TOKEN"
    static void promise04ReadTakesNamesOf8LettersAtMost() {
        dueGood("point a 1 1;");
        dueGood("point abcdefg 1 1;");
        dueGood("point abcdefgh 1 1;");
        dueFault(1, 6, "point abcdefghi 1 1;");
        dueFault(1, 6, "point abcdefghij 1 1;");
        dueFault(1, 6, "point " + "z".repeat(100) + " 1 1;");
        dueFault(1, 0, "pointpoin 1 1;");
    }

    // ".. none of the words in quotes"
    static void promise04ReadTakesNoWordAsName() {
        dueFault(1, 6, "point point 1 1;");
        dueFault(1, 6, "point grid 1 1;");
        dueGood("point poin 1 1;");
        dueGood("point xoint 1 1;");
        dueGood("point poinx 1 1;");
        dueGood("point frid 1 1;");
        dueGood("point grie 1 1;");
        dueFault(1, 0, "xoint a 1 1;");
        dueFault(1, 0, "poinx a 1 1;");
        dueFault(1, 0, "frid 1;");
        dueFault(1, 0, "grie 1;");
        dueGood("point points 1 1;");
        dueGood("point gri 1 1;");
        dueGood("point grids 1 1;");
        dueGood("point tell 1 1;");
        dueGood("point j 1 1;");
        dueGood("point text 1 1;");
    }

    // "INTS (1 to 4 digits)": "a longer one is no TOKEN"
    static void promise04ReadTakesIntsOf1To4Digits() {
        dueGood("point a 1 1;");
        dueGood("point a 0001 0050;");
        dueFault(1, 8, "point a 00001 1;");
        dueFault(1, 10, "point a 1 00050;");
        dueFault(5, 8, "point a 9999 1;");
        dueFault(1, 8, "point a 10000 1;");
        dueGood("grid 0020;");
        dueFault(1, 5, "grid 00020;");
        dueFault(1, 5, "grid " + "1".repeat(50) + ";");
        dueFault(1, 8, "point a ;1;");
        dueGood("grid 9;");
        dueFault(1, 5, "grid /;");
        dueFault(1, 5, "grid :;");
    }

    // "SIGNS - ;": "all else is no TOKEN"
    static void promise04ReadTakesTwoSignsAlone() {
        for (String sign : new String[] {",", ".", ":", "<", "+", "_", "'", "\"", "\0", "\u007f", "\u00ff", "\u00ad"}) {
            dueFault(1, 6, "grid 1" + sign);
            dueFault(1, 8, "point a " + sign + "1 1;");
        }
        dueGood("grid 1;");
        dueGood("point a -1 1;");
    }

    // "TELL: 'point' NAME J J ';' | 'grid' INT ';'": what each TOKEN may be followed by.
    static void promise04ReadTakesTellsAlone() {
        dueFault(1, 0, "a");
        dueFault(1, 0, "1");
        dueFault(1, 0, "-");
        dueFault(1, 0, ";");
        dueFault(1, 6, "point 1");
        dueFault(1, 6, "point -");
        dueFault(1, 6, "point ;");
        dueFault(1, 8, "point a b");
        dueFault(1, 8, "point a point");
        dueFault(1, 8, "point a ;");
        dueFault(1, 10, "point a 1 b");
        dueFault(1, 10, "point a 1 ;");
        dueFault(1, 12, "point a 1 1 1");
        dueFault(1, 12, "point a 1 1 -");
        dueFault(1, 12, "point a 1 1 point");
        dueFault(1, 5, "grid a");
        dueFault(1, 5, "grid ;");
        dueFault(1, 7, "grid 1 1");
        dueFault(1, 7, "grid 1 grid");
        dueFault(1, 12, "point a 1 1;;");
        dueFault(1, 7, "grid 1;;");
        dueFault(1, 7, "grid 1;a");
    }

    // "J: ['-'] INT": one - or none, and none for a GRID.
    static void promise04ReadTakesOneMinusAtMost() {
        dueGood("point a 1 1;");
        dueGood("point a -1 -1;");
        dueGood("point a - 1 - 1;");
        dueGood("point a -1-1;");
        dueFault(1, 9, "point a --1 1;");
        dueFault(1, 11, "point a 1 --1;");
        dueFault(1, 10, "point a 1 ;");
        dueFault(1, 9, "point a -;");
        dueFault(1, 11, "point a 1 -;");
        dueFault(1, 9, "point a -b 1;");
        dueFault(1, 5, "grid -1;");
    }

    // ---- promise 4: POINTS and GRID ----

    // "POINTS, 12 at most": "2 ROOM: .. a 13th POINT (at the line's first word)"
    static void promise04ReadTakes12Points() {
        due(11, reads(rowLines(11)).count(0));
        due(12, reads(rowLines(12)).count(0));
        int at = rowLines(12).length();
        dueFault(2, at, rowLines(13));
        dueFault(2, at, rowLines(14));
        dueFault(2, at + 2, rowLines(12) + "  point m 12 0;");
        dueFault(2, at + 7, rowLines(12) + "grid 1;point m 12 0;");
    }

    // At the line's first word, whatever stands behind it.
    static void promise04ReadFindsA13thPointAtItsFirstWord() {
        int at = rowLines(12).length();
        dueFault(2, at, rowLines(12) + "point");
        dueFault(2, at, rowLines(12) + "point 5");
        dueFault(2, at, rowLines(12) + "point a 0 0;");
        dueFault(2, at, rowLines(12) + "point m 99 0;");
        dueFault(1, at, rowLines(12) + "points m 12 0;");
        dueGood(rowLines(12) + "grid 1;");
    }

    // ".. numbered from 0 on as they stand"
    static void promise04ReadNumbersPointsAsTheyStand() {
        CloudDepth x = reads("point z 3 1;grid 2;point a 1 2;point m 2 3;");
        due("(3 1)(1 2)(2 3)", placesOf(x));
        due(NO, x.point(3, 0));
        due(NO, x.point(-1, 0));
    }

    // "X and Y -50 .. 50": "5 WRONG: (at the INT) X, Y beyond -50 .. 50"
    static void promise04ReadTakesXFromMinus50To50() {
        dueGood("point a 49 1;");
        dueGood("point a 50 1;");
        dueFault(5, 8, "point a 51 1;");
        dueGood("point a -49 1;");
        dueGood("point a -50 1;");
        dueFault(5, 9, "point a -51 1;");
        dueFault(5, 10, "point a - 51 1;");
        dueFault(5, 9, "point a -9999 1;");
        due("(50 -50)", placesOf(reads("point a 50 -50;")));
        due("(-50 50)", placesOf(reads("point a -50 50;")));
    }

    static void promise04ReadTakesYFromMinus50To50() {
        dueGood("point a 1 49;");
        dueGood("point a 1 50;");
        dueFault(5, 10, "point a 1 51;");
        dueGood("point a 1 -49;");
        dueGood("point a 1 -50;");
        dueFault(5, 11, "point a 1 -51;");
        dueFault(5, 12, "point a 1 - 51;");
        dueFault(5, 10, "point a 1 9999;");
    }

    // "GRID 1 .. 20": "5 WRONG: .. a GRID not 1 .. 20"
    static void promise04ReadTakesAGridOf1To20() {
        dueFault(5, 5, "grid 0;");
        dueGood("grid 1;");
        dueGood("grid 2;");
        dueGood("grid 19;");
        dueGood("grid 20;");
        dueFault(5, 5, "grid 21;");
        dueFault(5, 7, "grid   9999;");
        dueFault(5, 5, "grid 0000;");
    }

    // ".. if not told 10 (the last one)"
    static void promise04ReadTakesTheLastGridOr10() {
        due(10, reads("point a 1 1;").count(1));
        due(1, reads("grid 1;").count(1));
        due(20, reads("grid 1;grid 20;").count(1));
        due(3, reads("grid 20;point a 1 1;grid 2;grid 3;").count(1));
        CloudDepth x = reads("grid 5;");
        tell(x, "point a 1 1;");
        due(0, x.read());
        due(10, x.count(1));
    }

    // "places of the GRID have X and Y from less it to it"
    static void promise04ReadMakesAGridFromLessItToIt() {
        due(9, inGrid(1).region(0, 0));
        due(25, inGrid(2).region(0, 0));
        due(1521, inGrid(19).region(0, 0));
        CloudDepth x = inGrid(20);
        due(1681, x.region(0, 0));
        due(-20, x.region(0, 1));
        due(20, x.region(0, 2));
        due(-20, x.region(0, 3));
        due(20, x.region(0, 4));
        due(-1, inGrid(1).region(0, 1));
        due(1, inGrid(1).region(0, 4));
        due(1, inGrid(20, 20, -20).deepest(0));
        due(0, inGrid(20, 21, -20).deepest(0));
        due(0, inGrid(20, 20, -21).deepest(0));
    }

    // ---- promise 4: which FAULT ----

    // "2 ROOM: a 401st TOKEN"
    static void promise04ReadTakes400Tokens() {
        dueGood(GRID_LINE.repeat(133));
        String full = "point a 1 1;point b 2 2;" + GRID_LINE.repeat(130);
        dueGood(full);
        dueFault(2, full.length(), full + "grid 1;");
        dueFault(2, full.length() + 3, full + "   point c 3 3;");
        String to399 = GRID_LINE.repeat(133);
        dueFault(2, to399.length() + 5, to399 + "grid 1;");
        String to396 = GRID_LINE.repeat(132);
        dueFault(2, to396.length() + 11, to396 + "point a 1 1;");
        dueFault(2, to396.length() + 11, to396 + "point a -1 1;");
        String to395 = "point a 1 1;" + GRID_LINE.repeat(130);
        dueGood(to395 + "point b 2 2;");
        dueFault(2, to395.length() + 12, to395 + "point b -2 2;");
    }

    // A - is a TOKEN of its own: without it a text has one less.
    static void promise04ReadCountsEachMinus() {
        String to394 = "point a 1 -1;point b -2 -3;" + GRID_LINE.repeat(127);
        dueGood(to394 + "grid 1;grid 1;");
        dueFault(2, to394.length() + 14, to394 + "grid 1;grid 1;grid 1;");
        String to400 = "point a -1 -1;point b -2 3;" + GRID_LINE.repeat(129);
        dueGood(to400);
        dueFault(2, to400.length(), to400 + "grid 1;");
    }

    // "FAULTS of a text, the first by its place"
    static void promise04ReadTellsTheFirstFault() {
        dueFault(1, 5, "grid a;grid b;");
        dueFault(5, 5, "grid 0;grid 21;");
        dueFault(3, 18, "point a 1 1;point a 99 1;");
        dueFault(5, 8, "point a 99 1;point a 1 1;");
        dueFault(5, 8, "point a 51 51;");
        dueFault(5, 8, "point a 60 1;point b 60 1;");
        dueFault(3, 18, "point a 1 1;point a 1 1;");
        dueFault(2, rowLines(12).length(), rowLines(13) + "!");
        dueFault(1, rowLines(12).length(), rowLines(12) + "!point m 12 0;");
    }

    // ".. (a byte; the text's end: its length)"
    static void promise04ReadFindsFaultsAtTheTextsEnd() {
        dueFault(1, 5, "point");
        dueFault(1, 7, "point  ");
        dueFault(1, 7, "point a");
        dueFault(1, 9, "point a -");
        dueFault(1, 9, "point a 1");
        dueFault(1, 11, "point a 1 1");
        dueFault(1, 13, "point a 1 1\r\n");
        dueFault(1, 4, "grid");
        dueFault(1, 6, "grid 1");
        dueFault(1, 13, "grid 1; point");
        dueGood("grid 1; ");
    }

    // ".. of one place the least": a 401st TOKEN that no text has there is SYNTAX.
    static void promise04ReadTellsTheLeastFaultOfOnePlace() {
        String to400 = "point a 1 1;point b 2 2;" + GRID_LINE.repeat(130);
        dueFault(1, to400.length(), to400 + ";");
        dueFault(1, to400.length(), to400 + "!");
        dueFault(1, to400.length(), to400 + "12345");
        dueFault(2, to400.length(), to400 + "grid");
        String to399 = GRID_LINE.repeat(133);
        dueFault(1, to399.length() + 5, to399 + "grid ;");
        dueFault(2, to399.length() + 5, to399 + "grid 0");
        dueFault(1, to399.length() + 4, to399 + "grid");
        dueFault(1, to399.length(), to399 + "a 1");
    }

    // "If there is none, likewise: 3 TWICE .. 5 WRONG": SYNTAX and ROOM go ahead, wherever they are.
    static void promise04ReadTellsSyntaxAndRoomAheadOfOthers() {
        dueFault(1, 12, "point a 99 1!");
        dueFault(1, 7, "grid 0;!");
        dueFault(1, 24, "point a 1 1;point a 1 1;!");
        dueFault(1, 23, "point a 1 1;point b 1 1");
        dueFault(2, 8 + rowLines(12).length(), "grid 21;" + rowLines(13));
        dueFault(2, 7 * 133 + 5, "grid 0;".repeat(134));
        dueFault(5, 5, "grid 0;".repeat(133));
        String twice = "point a 1 1;point a 2 2;";
        dueFault(3, 18, twice + GRID_LINE.repeat(130));
        dueFault(2, 24 + 7 * 130, twice + GRID_LINE.repeat(131));
    }

    // "3 TWICE: (at it) a NAME told already"
    static void promise04ReadFindsNamesToldTwice() {
        dueFault(3, 18, "point a 1 1;point a 2 2;");
        dueFault(3, 31, "point a 1 1;point b 2 2; point a 3 3;");
        dueFault(3, 25, "point abcdefgh 1 1;point abcdefgh 2 2;");
        dueGood("point abcdefgh 1 1;point abcdefgi 2 2;point bbcdefgh 3 3;point abcdefg 4 4;");
        dueGood("point a 1 1;point aa 2 2;point aaa 3 3;point b 4 4;point ba 5 5;point ab 6 6;");
        int at = rowLines(11).length();
        dueFault(3, at + 6, rowLines(11) + "point a 30 30;");
        dueFault(3, at + 6, rowLines(11) + "point k 30 30;");
    }

    // A NAME is told already in its own text alone.
    static void promise04ReadForgetsNamesOfTheTextAhead() {
        CloudDepth x = reads("point a 1 1;");
        tell(x, "point a 2 2;");
        due(0, x.read());
        due("(2 2)", placesOf(x));
        tell(x, "point b 3 3;!");
        due(1, x.read());
        tell(x, "point b 2 2;point a 1 1;");
        due(0, x.read());
        due("(2 2)(1 1)", placesOf(x));
    }

    // "(at Y's INT) a place that has a POINT already"
    static void promise04ReadFindsPlacesToldTwice() {
        dueFault(3, 22, "point a 1 1;point b 1 1;");
        dueFault(3, 26, "point a -1 -1;point b -1 -1;");
        dueFault(3, 25, "point a 1 1;point b 0001 0001;");
        dueFault(3, 24, "point a 0 0;point b -0 -0;");
        dueGood("point a 1 2;point b 2 1;point c 1 3;point d 3 2;point e -1 2;point f 1 -2;");
        int at = rowLines(11).length();
        dueFault(3, at + 10, rowLines(11) + "point l 0 0;");
        dueFault(3, at + 11, rowLines(11) + "point l 10 0;");
        dueGood(rowLines(11) + "point l 11 0;");
    }

    // ".. that was told ahead": a place of the text ahead, or of POINTS by hand, is free again.
    static void promise04ReadForgetsPlacesOfTheTextAhead() {
        CloudDepth x = reads("point a 1 1;");
        x.add(2, 2);
        tell(x, "point b 2 2;point c 1 1;");
        due(0, x.read());
        due("(2 2)(1 1)", placesOf(x));
    }

    // "A text with a FAULT changes nothing but the tape"
    static void promise04ReadOfAFaultChangesNothing() {
        String[] faults = {"point b 5 5;grid 3;!", "grid 3;" + rowLines(13), "grid 3;point b 5 5;point b 6 6;", "grid 3;point b 5 5;point c 5 5;",
            "grid 3;point b 5 5;grid 0;", "point b 5 51;"};
        int[] numbers = {1, 2, 3, 3, 5, 5};
        for (int i = 0; i < faults.length; i++) {
            CloudDepth x = inGrid(4, 1, 2);
            x.add(3, 4);
            x.hold(2);
            x.add(5, 6);
            tell(x, faults[i]);
            due(numbers[i], x.read());
            due("grid 4 (1 2) (3 4) (5 6) tape 0 undo 2 slots 1", stateOf(x));
            due(true, x.undo());
            due("(1 2)(3 4)", placesOf(x));
            due(true, x.undo());
            due("(1 2)", placesOf(x));
            due(true, x.restore(2));
            due("grid 4 (1 2) (3 4) tape 0 undo 0 slots 1", stateOf(x));
        }
    }

    // ".. else it is in place of the one ahead"
    static void promise04ReadIsInPlaceOfTheTextAhead() {
        CloudDepth x = inGrid(4, 1, 2, 3, 4);
        x.add(5, 6);
        tell(x, "point q 7 8;");
        due(0, x.read());
        due("grid 10 (7 8) tape 0 undo 0 slots 0", stateOf(x));
        tell(x, "grid 2;");
        due(0, x.read());
        due("grid 2 tape 0 undo 0 slots 0", stateOf(x));
    }

    // ".. nothing can be undone, SLOTS hold nothing"
    static void promise04ReadLeavesNothingToUndoNorHeld() {
        CloudDepth x = inGrid(4, 1, 2);
        for (int slot = 0; slot <= 2; slot++) x.hold(slot);
        for (int i = 0; i < 45; i++) x.turn(false);
        due(40, x.count(8));
        due(3, x.count(9));
        due(0, x.read());
        due(0, x.count(8));
        due(0, x.count(9));
        due(false, x.undo());
        for (int slot = 0; slot <= 2; slot++) due(false, x.restore(slot));
        due("grid 10 tape 0 undo 0 slots 0", stateOf(x));
    }

    // Each text is read from its own beginning: TOKENS, POINTS, a - or a word of the one ahead count for nothing.
    static void promise04ReadBeginsAnew() {
        CloudDepth x = new CloudDepth();
        for (int i = 0; i < 3; i++) {
            tell(x, "point a 1 1;point b 2 2;" + GRID_LINE.repeat(130));
            due(0, x.read());
        }
        for (int i = 0; i < 2; i++) {
            tell(x, rowLines(12));
            due(0, x.read());
            tell(x, rowLines(13));
            due(2, x.read());
        }
        tell(x, "point a -");
        due(1, x.read());
        tell(x, "point a 1 -1;");
        due(0, x.read());
        due("(1 -1)", placesOf(x));
        tell(x, "point");
        due(1, x.read());
        tell(x, "abcdefghi a 1 1;");
        due(1, x.read());
        due(0, x.place());
        tell(x, "grid 1");
        due(1, x.read());
        tell(x, "12345");
        due(1, x.read());
        due(0, x.place());
    }

    // Behind a text all answers are those of its POINTS and its GRID.
    static void promise04ReadAnswersAnew() {
        CloudDepth x = with(BOWL);
        dueAsNew(x);
        due(0, x.read());
        dueAsNew(x);
        tell(x, "grid 3;");
        due(0, x.read());
        due(49, x.deepest(1));
        tell(x, "grid 4;");
        due(0, x.read());
        due(81, x.deepest(1));
        tell(x, rowLines(3));
        due(0, x.read());
        dueAsNew(x);
    }

    // ---- promise 5 ----

    // "NONE without"
    static void promise05PlaceIsNoneWithoutAFault() {
        CloudDepth x = new CloudDepth();
        due(NONE, x.place());
        due(0, x.read());
        due(NONE, x.place());
        tell(x, "grid 1;");
        due(NONE, x.place());
        due(0, x.read());
        due(NONE, x.place());
    }

    // "The byte of the latest read()'s FAULT"
    static void promise05PlaceIsOfTheLatestRead() {
        CloudDepth x = new CloudDepth();
        tell(x, "grid 0;");
        x.read();
        due(5, x.place());
        tell(x, "!");
        due(5, x.place());
        x.read();
        due(0, x.place());
        tell(x, "point");
        x.read();
        due(5, x.place());
        x.read();
        due(NONE, x.place());
    }

    static void promise05PlaceGoesFrom0ToTheTextsLength() {
        dueFault(1, 0, "!");
        dueFault(1, 1999, " ".repeat(1999) + "!");
        dueFault(1, 2000, "grid 1" + " ".repeat(1994));
        dueFault(1, 1, " !");
        dueFault(1, 4, "grid");
    }

    // Other calls than read() leave it as it is.
    static void promise05PlaceStaysWithOtherCalls() {
        CloudDepth x = new CloudDepth();
        x.hold(0);
        tell(x, "grid 21;");
        x.read();
        x.add(1, 1);
        x.undo();
        x.restore(0);
        feed(x, BLANKS);
        x.back(20);
        due(5, x.place());
        due(5, x.place());
    }
}
