/** Boundary cases of promises 24 to 28: POINTS as LINES, CROSSINGS, LEVELS, FITS. */
final class BoundsOfLines extends Bench {

    // ---- promise 24 ----

    // "ORDER at x (-1000 .. 1000)": "NONE: no such ones"
    static void promise24OrderFromMinus1000To1000() {
        CloudDepth x = with(1, 0, 2, 0);
        due(1, x.order(-1000, 0));
        due(1, x.order(-999, 0));
        due(0, x.order(999, 0));
        due(0, x.order(1000, 0));
        for (int beyond : new int[] {-1001, 1001, LEAST, MOST}) {
            due(NONE, x.order(beyond, 0));
            due(NONE, x.order(beyond, 1));
        }
    }

    // "the number of the i-th POINT; NONE: no such ones"
    static void promise24OrderOfNoSuchNumber() {
        CloudDepth x = with(1, 0, 2, 0, 3, 0);
        for (int i : new int[] {-1, -2, 3, 4, LEAST, MOST}) due(NONE, x.order(5, i));
        for (int i = 0; i < 3; i++) due(i, x.order(5, i));
        due(NONE, new CloudDepth().order(0, 0));
        due(NONE, new CloudDepth().order(0, -1));
        due(0, with(1, 1).order(0, 0));
        due(NONE, with(1, 1).order(0, 1));
    }

    // "(of those that have as much that of the least X ahead: so it is just behind x, too)"
    static void promise24OrderOfThoseThatHaveAsMuch() {
        CloudDepth x = with(2, 0, 0, 0, 1, 0);
        due("0 2 1", orderAt(x, -1));
        due("1 2 0", orderAt(x, 0));
        due("1 2 0", orderAt(x, 1));
        x = with(7, 8, 5, 2);
        due("0 1", orderAt(x, 2));
        due("1 0", orderAt(x, 3));
        due("1 0", orderAt(x, 4));
    }

    private static String orderAt(CloudDepth cloud, int x) {
        StringBuilder text = new StringBuilder();
        for (int i = 0; i < cloud.count(0); i++) text.append(i == 0 ? "" : " ").append(cloud.order(x, i));
        return text.toString();
    }

    // LINES of one X never have as much: the one of the greater Y is below everywhere.
    static void promise24OrderOfOneX() {
        CloudDepth x = with(1, 3, 1, 5, 1, 4);
        for (int at : new int[] {-1000, 0, 1000}) due("1 2 0", orderAt(x, at));
    }

    static void promise24OrderOf12Points() {
        CloudDepth x = with(BOWL);
        due("11 10 9 8 7 6 5 4 3 2 1 0", orderAt(x, -1000));
        due("0 1 2 3 4 5 6 7 8 9 10 11", orderAt(x, 1000));
        due(NONE, x.order(1000, 12));
        x = with(-50, 50, 50, -50, -50, -50, 50, 50);
        due("3 1 0 2", orderAt(x, -1000));
        due("0 2 3 1", orderAt(x, 1000));
    }

    // ---- promise 25 ----

    // "how many (i NONE, whatever what is)"
    static void promise25CrossingCountWhateverWhatIs() {
        CloudDepth x = with(TRIANGLE);
        for (int what : new int[] {-1, 0, 3, 4, LEAST, MOST}) {
            due(2, x.crossing(NONE, what));
            due(0, new CloudDepth().crossing(NONE, what));
        }
        due(0, with(1, 1).crossing(NONE, 0));
        due(1, with(1, 1, 2, 1).crossing(NONE, 0));
        due(66, with(BOWL).crossing(NONE, 0));
    }

    // "-100000: no such ones": no such number.
    static void promise25CrossingOfNoSuchNumber() {
        CloudDepth x = with(BOWL);
        for (int i : new int[] {-2, 66, 67, LEAST, MOST}) {
            for (int what = 0; what <= 3; what++) due(NO, x.crossing(i, what));
        }
        due(9, x.crossing(65, 0));
        due(NO, new CloudDepth().crossing(0, 0));
        due(NO, with(1, 1).crossing(0, 0));
    }

    // "-100000: no such ones": no such what.
    static void promise25CrossingOfNoSuchWhat() {
        CloudDepth x = with(TRIANGLE);
        for (int what : new int[] {-1, 4, 5, LEAST, MOST}) {
            due(NO, x.crossing(0, what));
            due(NO, x.crossing(1, what));
        }
        due("-1/1 1,2", told(x, 0));
        due("0/1 0,1", told(x, 1));
    }

    private static String told(CloudDepth x, int i) {
        return x.crossing(i, 0) + "/" + x.crossing(i, 1) + " " + x.crossing(i, 2) + "," + x.crossing(i, 3);
    }

    // "two POINTS of unlike X"
    static void promise25CrossingOfUnlikeXAlone() {
        due(0, with(3, 1, 3, 2).crossing(NONE, 0));
        due(2, with(3, 1, 3, 2, 4, 2).crossing(NONE, 0));
        due(3, with(3, 1, 2, 2, 4, 2).crossing(NONE, 0));
        int[] column = {3, 0, 3, 1, 3, 2, 3, 3, 3, 4, 3, 5, 3, 6, 3, 7, 3, 8, 3, 9, 3, 10, 3, 11};
        CloudDepth x = with(column);
        due(0, x.crossing(NONE, 0));
        x.move(11, 4, 11);
        due(11, x.crossing(NONE, 0));
    }

    // "0 x above the line, 1 below it (above 0, in lowest terms)"
    static void promise25CrossingInLowestTerms() {
        due("0/1 0,1", told(with(0, 0, 4, 0), 0));
        due("0/1 0,1", told(with(50, 7, -50, 7), 0));
        due("1/2 0,1", told(with(0, 0, 4, 2), 0));
        due("-1/2 0,1", told(with(0, 0, 4, -2), 0));
        due("-1/2 0,1", told(with(4, -2, 0, 0), 0));
        due("1/2 0,1", told(with(4, 2, 0, 0), 0));
        due("2/1 0,1", told(with(0, 0, 3, 6), 0));
        due("2/3 0,1", told(with(0, 0, 6, 4), 0));
        due("1/1 0,1", told(with(-50, -50, 50, 50), 0));
        due("-1/1 0,1", told(with(-50, 50, 50, -50), 0));
        due("1/100 0,1", told(with(-50, 0, 50, 1), 0));
        due("-1/100 0,1", told(with(-50, 0, 50, -1), 0));
        due("100/1 0,1", told(with(0, -50, 1, 50), 0));
        due("-100/1 0,1", told(with(0, 50, 1, -50), 0));
        due("99/100 0,1", told(with(-50, -50, 50, 49), 0));
    }

    // "in order: by x": by the least that two can be apart.
    static void promise25CrossingByX() {
        CloudDepth x = with(-50, 0, 50, 1, 49, 1);
        due("0/1 1,2", told(x, 0));
        due("1/100 0,1", told(x, 1));
        due("1/99 0,2", told(x, 2));
        x = with(-50, 0, 50, -1, 49, -1);
        due("-1/99 0,2", told(x, 0));
        due("-1/100 0,1", told(x, 1));
        due("0/1 1,2", told(x, 2));
    }

    // "then by the lesser number, then by the other one"
    static void promise25CrossingOfOneXByNumbers() {
        CloudDepth x = with(2, 2, 0, 0, 1, 1);
        due("1/1 0,1", told(x, 0));
        due("1/1 0,2", told(x, 1));
        due("1/1 1,2", told(x, 2));
        x = with(BOWL);
        int i = 0;
        for (int sum = 1; sum <= 21; sum++) {
            for (int p = Math.max(0, sum - 11); 2 * p < sum; p++) due((sum - 12) + "/1 " + p + "," + (sum - p), told(x, i++));
        }
        due(66, i);
    }

    // ---- promise 26 ----

    // "NONE: no such one"
    static void promise26BendsOfNoSuchLevel() {
        due(NONE, new CloudDepth().bends(0));
        due(NONE, new CloudDepth().bends(-1));
        CloudDepth one = with(1, 1);
        due(0, one.bends(0));
        due(NONE, one.bends(1));
        due(NONE, one.bends(-1));
        CloudDepth x = with(BOWL);
        for (int i : new int[] {-1, 12, 13, LEAST, MOST}) due(NONE, x.bends(i));
        due(1, x.bends(0));
        due(11, x.bends(11));
    }

    // LINES of one X do not cross, two of unlike X do once.
    static void promise26BendsOfTwoLines() {
        CloudDepth x = with(1, 1, 1, 2);
        due(0, x.bends(0));
        due(0, x.bends(1));
        x.move(1, 2, 2);
        due(1, x.bends(0));
        due(1, x.bends(1));
    }

    // "x at which another LINE than ahead is i-th behind it"
    static void promise26BendsWhereAnotherLineIsBehind() {
        CloudDepth x = with(-1, 0, 0, 0, 1, 0);
        due(1, x.bends(0));
        due(0, x.bends(1));
        due(1, x.bends(2));
        x.move(1, 0, -1);
        due(1, x.bends(0));
        due(3, x.bends(1));
        due(2, x.bends(2));
        x.move(1, 0, 1);
        due(2, x.bends(0));
        due(3, x.bends(1));
        due(1, x.bends(2));
    }

    // "(unlike x count once)"
    static void promise26BendsOfOneXCountOnce() {
        CloudDepth x = with(row(12));
        for (int i = 0; i < 12; i++) due(1, x.bends(i));
        x = with(row(11));
        for (int i = 0; i < 11; i++) due(i == 5 ? 0 : 1, x.bends(i));
    }

    // ---- promise 27 ----

    // "(a -100 .. 100, b -10000 .. 10000); NONE: beyond that"
    static void promise27FitFromMinus100To100() {
        CloudDepth x = with(0, 7);
        for (int a : new int[] {-100, -99, 99, 100}) due(1, x.fit(a, 7));
        for (int a : new int[] {-101, 101, LEAST, MOST}) due(NONE, x.fit(a, 7));
        for (int b : new int[] {-10000, -9999, 9999, 10000}) due(0, x.fit(0, b));
        for (int b : new int[] {-10001, 10001, LEAST, MOST}) due(NONE, x.fit(0, b));
        due(1, with(50, 50).fit(100, -4950));
        due(1, with(-50, -50).fit(100, 4950));
        due(0, with(-50, -50).fit(100, 4951));
        due(NONE, new CloudDepth().fit(101, 0));
        due(0, new CloudDepth().fit(100, 10000));
    }

    // "a REST 0 or above", "a REST 0 or below": 0 counts either way.
    static void promise27FitOfRest0() {
        CloudDepth x = with(3, 5);
        due(0, x.fit(1, 1));
        due(1, x.fit(1, 2));
        due(0, x.fit(1, 3));
        x = with(ROW_OF_5);
        due(5, x.fit(1, 0));
        due(0, x.fit(1, 1));
        due(0, x.fit(1, -1));
        x.move(2, 0, 1);
        due(4, x.fit(1, 0));
    }

    // "for any v between the POINTS' X (unlike ..)": not at one.
    static void promise27FitWithVBetweenUnlikeX() {
        due(1, with(0, 1, 0, -1).fit(0, 0));
        due(2, with(0, 1, 0, -1, 0, 0).fit(0, 0));
        due(0, with(-1, 1, 1, -1).fit(0, 0));
        due(1, with(-1, 1, 1, -1, 0, 0).fit(0, 0));
        due(0, with(0, 1, 1, -1).fit(0, 0));
        due(0, with(-1, -1, 1, 1).fit(0, 0));
        due(1, with(-1, -1, 1, 1, 0, 0).fit(0, 0));
    }

    // ".. or beyond all": all on one side of the line are none there.
    static void promise27FitWithVBeyondAll() {
        CloudDepth x = with(-3, 5, 0, 5, 3, 5);
        due(0, x.fit(0, 4));
        due(3, x.fit(0, 5));
        due(0, x.fit(0, 6));
        x.add(0, -5);
        due(1, x.fit(0, 0));
        x.add(1, -5);
        due(2, x.fit(0, 0));
    }

    // The POINTS' numbers are nothing to it.
    static void promise27FitInAnyOrder() {
        for (int[] order : ordersOf(4)) due(1, with(inOrder(order, -3, 2, -1, -1, 1, 3, 3, -2)).fit(0, 0));
        for (int[] order : ordersOf(4)) due(1, with(inOrder(order, -3, 2, -1, -1, 1, 0, 3, -2)).fit(0, 0));
    }

    static void promise27FitOf12Points() {
        due(12, with(row(12)).fit(0, 0));
        due(0, with(row(12)).fit(0, 1));
        due(1, with(BOWL).fit(0, 0));
        due(3, with(BOWL).fit(0, 1));
        CloudDepth column = with(3, 0, 3, 1, 3, 2, 3, 3, 3, 4, 3, 5, 3, 6, 3, 7, 3, 8, 3, 9, 3, 10, 3, 11);
        due(1, column.fit(0, 0));
        due(6, column.fit(0, 5));
        due(6, column.fit(0, 6));
        due(1, column.fit(0, 11));
        due(0, column.fit(0, 12));
        dueBest(with(row(12)), 12, 0, 0, 1);
    }

    // ---- promise 28 ----

    // "-100000 for others"
    static void promise28BestOfNoSuchWhat() {
        CloudDepth x = with(ROW_OF_5);
        for (int what : new int[] {-1, 4, 5, LEAST, MOST}) {
            due(NO, x.best(what));
            due(NO, new CloudDepth().best(what));
        }
        dueBest(x, 5, 1, 0, 1);
    }

    private static void dueBest(CloudDepth x, int... answers) {
        for (int what = 0; what < answers.length; what++) due(answers[what], x.best(what));
    }

    // Without POINTS all lines are as good.
    static void promise28BestWithoutPoints() {
        dueBest(new CloudDepth(), 0, -10, -50, 2121);
    }

    // "of all whole a -10 .. 10"
    static void promise28BestOfAFromMinus10To10() {
        dueBest(with(0, -50, 10, 50), 2, 10, -50, 1);
        dueBest(with(0, 50, 10, -50), 2, -10, 50, 1);
        dueBest(with(0, -45, 10, 45), 2, 9, -45, 1);
        dueBest(with(0, -50, 9, 49), 1, -10, -50, 32);
        dueBest(with(0, 50, 9, -49), 1, -10, 41, 32);
    }

    // ".. b -50 .. 50"
    static void promise28BestOfBFromMinus50To50() {
        dueBest(with(0, 50), 1, -10, 50, 21);
        dueBest(with(0, -50), 1, -10, -50, 21);
        dueBest(with(50, 50), 1, 0, 50, 3);
        dueBest(with(50, -50), 1, -2, 50, 3);
        dueBest(with(1, 49, 2, 48), 2, -1, 50, 1);
        dueBest(with(1, 50, 2, 49), 1);
        dueBest(with(1, -49, 2, -48), 2, 1, -50, 1);
        dueBest(with(1, -50, 2, -49), 1);
    }

    // "the first by a, then b"
    static void promise28BestFirstByAThenB() {
        dueBest(with(0, 3, 0, 1), 1, -10, 1, 63);
        dueBest(with(1, 0), 1, -10, 10, 21);
        dueBest(with(-1, 0), 1, -10, -10, 21);
    }
}
