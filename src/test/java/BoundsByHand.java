/** Boundary cases of promises 6 to 10, 34 and 35: what is done by hand, undone, held and gone on from. */
final class BoundsByHand extends Bench {

    // ---- promise 6 ----

    // "A POINT comes: its number"
    static void promise06AddTellsTheNumber() {
        CloudDepth x = new CloudDepth();
        for (int i = 0; i < 12; i++) due(i, x.add(i, -i));
        x.goes(0);
        due(11, x.add(0, 0));
        x.undo();
        x.goes(10);
        due(10, x.add(5, 5));
        due("(1 -1)(2 -2)(3 -3)(4 -4)(5 -5)(6 -6)(7 -7)(8 -8)(9 -9)(10 -10)(5 5)", placesOf(x));
    }

    // "NONE, and nothing happens: there are 12"
    static void promise06AddOfA13thPoint() {
        CloudDepth x = with(row(11));
        due(11, x.add(11, 0));
        String before = stateOf(x);
        due(NONE, x.add(12, 0));
        due(NONE, x.add(0, 0));
        due(NONE, x.add(99, 99));
        due(before, stateOf(x));
        x.goes(11);
        due(11, x.add(12, 0));
        due(NONE, x.add(13, 0));
        CloudDepth told = reads(rowLines(12));
        due(NONE, told.add(12, 0));
        due(0, told.count(8));
    }

    // "X or Y beyond -50 .. 50"
    static void promise06AddTakesXFromMinus50To50() {
        CloudDepth x = new CloudDepth();
        due(NONE, x.add(51, 0));
        due(NONE, x.add(-51, 0));
        due(NONE, x.add(LEAST, 0));
        due(NONE, x.add(MOST, 0));
        due("grid 10 tape 0 undo 0 slots 0", stateOf(x));
        due(0, x.add(50, 0));
        due(1, x.add(-50, 0));
        due(2, x.add(49, 0));
        due(3, x.add(-49, 0));
        due("(50 0)(-50 0)(49 0)(-49 0)", placesOf(x));
    }

    static void promise06AddTakesYFromMinus50To50() {
        CloudDepth x = new CloudDepth();
        due(NONE, x.add(0, 51));
        due(NONE, x.add(0, -51));
        due(NONE, x.add(0, LEAST));
        due(NONE, x.add(0, MOST));
        due("grid 10 tape 0 undo 0 slots 0", stateOf(x));
        due(0, x.add(0, 50));
        due(1, x.add(0, -50));
        due(2, x.add(0, 49));
        due(3, x.add(0, -49));
        due("(0 50)(0 -50)(0 49)(0 -49)", placesOf(x));
    }

    // "a POINT is there"
    static void promise06AddWhereAPointIs() {
        CloudDepth x = inGrid(4, 1, 2, 3, 4);
        x.add(5, 6);
        due(NONE, x.add(1, 2));
        due(NONE, x.add(3, 4));
        due(NONE, x.add(5, 6));
        due("grid 4 (1 2) (3 4) (5 6) tape 0 undo 1 slots 0", stateOf(x));
        due(3, x.add(2, 1));
        due(4, x.add(1, 3));
        due(5, x.add(1, 1));
        x.goes(0);
        due(5, x.add(1, 2));
    }

    // What is refused is nothing done: undo() undoes the thing ahead.
    static void promise06AddThatIsRefusedIsNotUndone() {
        CloudDepth x = with(1, 1, 2, 2);
        x.add(2, 2);
        x.add(51, 0);
        due(2, x.count(8));
        due(true, x.undo());
        due("(1 1)", placesOf(x));
    }

    // Behind it all answers are those of the POINTS that there are.
    static void promise06AddAnswersAnew() {
        CloudDepth x = new CloudDepth();
        dueAsNew(x);
        x.add(1, 1);
        dueAsNew(x);
        x.add(-4, 2);
        x.add(3, -5);
        dueAsNew(x);
    }

    // ---- promise 7 ----

    // "false: no such one"
    static void promise07GoesOfNoSuchPoint() {
        CloudDepth x = new CloudDepth();
        due(false, x.goes(0));
        due(false, x.goes(-1));
        x = with(1, 1, 2, 2, 3, 3);
        due(false, x.goes(-1));
        due(false, x.goes(3));
        due(false, x.goes(LEAST));
        due(false, x.goes(MOST));
        due("grid 10 (1 1) (2 2) (3 3) tape 0 undo 3 slots 0", stateOf(x));
        due(true, x.goes(2));
        due(false, x.goes(2));
        due(true, x.goes(0));
        due(true, x.goes(0));
        due(false, x.goes(0));
        due(0, x.count(0));
        x = with(row(12));
        due(false, x.goes(12));
        due(true, x.goes(11));
    }

    // "those behind it get numbers less by 1"
    static void promise07GoesAndThoseBehindGetNumbersLess() {
        due("(2 0)(3 0)(4 0)", placesOf(without(0)));
        due("(1 0)(3 0)(4 0)", placesOf(without(1)));
        due("(1 0)(2 0)(3 0)", placesOf(without(3)));
        CloudDepth x = with(row(12));
        due(true, x.goes(0));
        due(11, x.point(10, 0));
        due(NO, x.point(11, 0));
    }

    static void promise07GoesAnswersAnew() {
        CloudDepth x = with(join(SQUARE, 1, 0));
        answersOf(x);
        x.goes(1);
        dueAsNew(x);
        x.add(7, 7);
        x.goes(0);
        dueAsNew(x);
    }

    private static CloudDepth without(int p) {
        CloudDepth x = with(1, 0, 2, 0, 3, 0, 4, 0);
        due(true, x.goes(p));
        due(3, x.count(0));
        return x;
    }

    // ---- promise 8 ----

    // "false, and nothing happens: no such one"
    static void promise08MoveOfNoSuchPoint() {
        due(false, new CloudDepth().move(0, 1, 1));
        CloudDepth x = with(1, 1, 2, 2);
        due(false, x.move(-1, 5, 5));
        due(false, x.move(2, 5, 5));
        due(false, x.move(LEAST, 5, 5));
        due(false, x.move(MOST, 5, 5));
        due("grid 10 (1 1) (2 2) tape 0 undo 2 slots 0", stateOf(x));
        due(true, x.move(0, 5, 5));
        due(true, x.move(1, 6, 6));
        due("grid 10 (5 5) (6 6) tape 0 undo 4 slots 0", stateOf(x));
        x = with(row(12));
        due(true, x.move(11, 5, 5));
        due(false, x.move(12, 6, 6));
        due(5, x.point(11, 1));
    }

    // "X or Y beyond -50 .. 50"
    static void promise08MoveTakesXAndYFromMinus50To50() {
        CloudDepth x = with(1, 1);
        for (int beyond : new int[] {51, -51, LEAST, MOST}) {
            due(false, x.move(0, beyond, 0));
            due(false, x.move(0, 0, beyond));
        }
        due("grid 10 (1 1) tape 0 undo 1 slots 0", stateOf(x));
        for (int within : new int[] {50, -50, 49, -49}) {
            due(true, x.move(0, within, 0));
            due(within, x.point(0, 0));
            due(true, x.move(0, 0, within));
            due(within, x.point(0, 1));
        }
        due(9, x.count(8));
    }

    // "a POINT is there": another one, or the moved one itself.
    static void promise08MoveWhereAPointIs() {
        CloudDepth x = with(1, 1, 2, 2, 3, 3);
        due(false, x.move(0, 2, 2));
        due(false, x.move(0, 3, 3));
        due(false, x.move(2, 1, 1));
        due(false, x.move(1, 2, 2));
        due("grid 10 (1 1) (2 2) (3 3) tape 0 undo 3 slots 0", stateOf(x));
        due(true, x.move(0, 2, 1));
        due(true, x.move(1, 1, 1));
        due(true, x.move(2, 2, 2));
        due("(2 1)(1 1)(2 2)", placesOf(x));
    }

    static void promise08MoveAnswersAnew() {
        CloudDepth x = with(join(SQUARE, 1, 0));
        answersOf(x);
        x.move(4, 0, 0);
        dueAsNew(x);
        x.add(7, 7);
        x.move(1, 9, -9);
        dueAsNew(x);
    }

    static void promise08MoveThatIsRefusedIsNotUndone() {
        CloudDepth x = with(1, 1, 2, 2);
        x.move(0, 5, 5);
        x.move(0, 2, 2);
        x.move(0, 51, 2);
        x.move(2, 7, 7);
        due(3, x.count(8));
        due(true, x.undo());
        due("(1 1)(2 2)", placesOf(x));
    }

    // ---- promise 9 ----

    // "false: there are no POINTS"
    static void promise09TurnWithoutPoints() {
        CloudDepth x = new CloudDepth();
        due(false, x.turn(false));
        due(false, x.turn(true));
        due(0, x.count(8));
        x.add(1, 2);
        due(true, x.turn(false));
        due(true, x.turn(true));
        due(3, x.count(8));
        x.goes(0);
        due(false, x.turn(false));
        due(4, x.count(8));
    }

    // "X becomes less Y, Y X": the ends of -50 .. 50 stay within.
    static void promise09TurnByAQuarter() {
        CloudDepth x = with(50, -50, 50, 50, -50, 50, -50, -50, 0, 50, 50, 0, 0, 0, 3, 7);
        due(true, x.turn(false));
        due("(50 50)(-50 50)(-50 -50)(50 -50)(-50 0)(0 50)(0 0)(-7 3)", placesOf(x));
        for (int i = 0; i < 3; i++) due(true, x.turn(false));
        due("(50 -50)(50 50)(-50 50)(-50 -50)(0 50)(50 0)(0 0)(3 7)", placesOf(x));
    }

    // "X becomes less X"
    static void promise09TurnMirrored() {
        CloudDepth x = with(50, -50, -50, 50, 0, 5, 3, 7);
        due(true, x.turn(true));
        due("(-50 -50)(50 50)(0 5)(-3 7)", placesOf(x));
        due(true, x.turn(true));
        due("(50 -50)(-50 50)(0 5)(3 7)", placesOf(x));
    }

    static void promise09TurnOf12Points() {
        CloudDepth x = with(BOWL);
        due(true, x.turn(false));
        for (int p = 0; p < 12; p++) {
            due(-BOWL[2 * p + 1], x.point(p, 0));
            due(BOWL[2 * p], x.point(p, 1));
        }
        due(true, x.turn(true));
        for (int p = 0; p < 12; p++) {
            due(BOWL[2 * p + 1], x.point(p, 0));
            due(BOWL[2 * p], x.point(p, 1));
        }
        due(12, x.count(0));
        due(14, x.count(8));
    }

    // A turn that leaves all places as they were is a thing done, too.
    static void promise09TurnOfAPointInTheMiddle() {
        CloudDepth x = with(0, 0);
        due(true, x.turn(false));
        due(true, x.turn(true));
        due(3, x.count(8));
        due(true, x.undo());
        due("(0 0)", placesOf(x));
        due(2, x.count(8));
    }

    static void promise09TurnAnswersAnew() {
        CloudDepth x = with(0, 0, 5, 1, 2, 7, 1, 1);
        answersOf(x);
        x.turn(false);
        dueAsNew(x);
        x.turn(true);
        dueAsNew(x);
    }

    static void promise09TurnLeavesTheGridAndSlots() {
        CloudDepth x = inGrid(3, 1, 2);
        x.hold(0);
        x.turn(false);
        due("grid 3 (-2 1) tape 0 undo 1 slots 1", stateOf(x));
        x.restore(0);
        due("(1 2)", placesOf(x));
    }

    // ---- promise 10 ----

    // "false: there is none"
    static void promise10UndoOfNothing() {
        CloudDepth x = new CloudDepth();
        due(false, x.undo());
        x.add(1, 1);
        due(true, x.undo());
        due(false, x.undo());
        due(0, x.count(0));
        x = reads(rowLines(3));
        due(false, x.undo());
        due(3, x.count(0));
    }

    // "The last thing done by hand is undone": each of the four.
    static void promise10UndoOfEachThingByHand() {
        CloudDepth x = inGrid(3, 1, 2, 3, 4, 5, 6);
        String before = stateOf(x);
        x.add(7, 8);
        due(true, x.undo());
        due(before, stateOf(x));
        x.goes(1);
        due(true, x.undo());
        due(before, stateOf(x));
        x.move(0, 9, 9);
        due(true, x.undo());
        due(before, stateOf(x));
        x.turn(false);
        due(true, x.undo());
        due(before, stateOf(x));
        x.turn(true);
        due(true, x.undo());
        due(before, stateOf(x));
        due(false, x.undo());
    }

    // A POINT that went comes back with its number, the first and the last of 12, too.
    static void promise10UndoOfGoesGivesTheNumberBack() {
        CloudDepth x = reads(rowLines(12));
        String before = placesOf(x);
        for (int p : new int[] {0, 5, 11}) {
            x.goes(p);
            due(true, x.undo());
            due(before, placesOf(x));
        }
        for (int i = 0; i < 12; i++) x.goes(0);
        for (int i = 1; i <= 12; i++) {
            due(true, x.undo());
            due(i, x.count(0));
        }
        due(before, placesOf(x));
        due(false, x.undo());
    }

    static void promise10UndoAnswersAnew() {
        CloudDepth x = with(1, 1);
        answersOf(x);
        x.undo();
        dueAsNew(x);
        x = with(join(SQUARE, 1, 0));
        answersOf(x);
        x.undo();
        dueAsNew(x);
        x.goes(0);
        answersOf(x);
        x.undo();
        dueAsNew(x);
    }

    // "(the last 40 can be)"
    static void promise10UndoOfTheLast40() {
        for (int things : new int[] {39, 40, 41, 42, 79, 80, 81, 121}) {
            CloudDepth x = reads("point a 0 -50;");
            for (int i = 1; i <= things; i++) due(true, x.move(0, i % 2, i % 50));
            int many = Math.min(40, things);
            due(many, x.count(8));
            for (int i = 1; i <= many; i++) {
                due(true, x.undo());
                int at = things - i;
                due(at == 0 ? -50 : at % 50, x.point(0, 1));
                due(many - i, x.count(8));
            }
            due(false, x.undo());
            due(0, x.count(8));
        }
    }

    // What was undone makes room for others: 40 still can be.
    static void promise10UndoAndThenMoreThings() {
        CloudDepth x = reads("point a 0 0;");
        for (int i = 1; i <= 45; i++) x.move(0, 0, i);
        for (int i = 0; i < 30; i++) due(true, x.undo());
        due(15, x.point(0, 1));
        due(10, x.count(8));
        for (int i = 1; i <= 31; i++) due(true, x.move(0, i, 0));
        due(40, x.count(8));
        for (int i = 0; i < 31; i++) due(true, x.undo());
        due(15, x.point(0, 1));
        for (int i = 0; i < 9; i++) due(true, x.undo());
        due(6, x.point(0, 1));
        due(false, x.undo());
    }

    // Undoing is nothing done by hand, nor is holding.
    static void promise10UndoIsNotUndone() {
        CloudDepth x = with(1, 1, 2, 2);
        due(true, x.undo());
        due(1, x.count(8));
        x.hold(0);
        due(1, x.count(8));
        due(true, x.undo());
        due(0, x.count(0));
        due(false, x.undo());
        due(1, x.count(9));
    }

    // Calls that only ask, or feed, leave what can be undone.
    static void promise10UndoIsLeftByOtherCalls() {
        CloudDepth x = with(1, 1, 2, 2);
        x.fresh(3, 3, 0);
        x.fresh(3, 3, 1);
        x.keeping(0);
        x.feed(0, 0, 0, 0, 0);
        x.back(3);
        x.splits();
        due(2, x.count(8));
        due(true, x.undo());
        due("(1 1)", placesOf(x));
        due(17, x.count(7));
    }

    // ---- promise 34 ----

    // "a SLOT (0 .. 2)": "false: no such one"
    static void promise34HoldInSlots0To2() {
        CloudDepth x = with(1, 1);
        for (int slot : new int[] {-1, 3, LEAST, MOST}) due(false, x.hold(slot));
        due(0, x.count(9));
        due(true, x.hold(0));
        due(1, x.count(9));
        due(true, x.hold(1));
        due(2, x.count(9));
        due(true, x.hold(2));
        due(3, x.count(9));
        due(false, x.hold(3));
        due(3, x.count(9));
    }

    // "All is held": of no POINTS, of 12, and the GRID.
    static void promise34HoldOfNoneAndOf12() {
        CloudDepth x = reads("grid 20;");
        due(true, x.hold(0));
        for (int i = 0; i < 12; i++) x.add(i, 50 - i);
        String twelve = placesOf(x);
        due(true, x.hold(2));
        x.goes(4);
        due(true, x.restore(0));
        due("grid 20 tape 0 undo 0 slots 2", stateOf(x));
        due(true, x.restore(2));
        due(twelve, placesOf(x));
        due(20, x.count(1));
        due(NONE, x.add(40, 40));
    }

    // A SLOT that holds something already holds the new.
    static void promise34HoldOnceMore() {
        CloudDepth x = with(1, 1);
        x.hold(1);
        x.add(2, 2);
        due(true, x.hold(1));
        due(1, x.count(9));
        x.goes(0);
        due(true, x.restore(1));
        due("(1 1)(2 2)", placesOf(x));
        x.goes(0);
        x.goes(0);
        due(true, x.hold(1));
        x.add(9, 9);
        due(true, x.restore(1));
        due(0, x.count(0));
    }

    // What is done behind it leaves what is held.
    static void promise34HoldIsLeftByThingsByHand() {
        CloudDepth x = with(1, 2, 3, 4);
        x.hold(0);
        x.turn(false);
        x.move(0, 30, 30);
        x.goes(1);
        x.undo();
        due(1, x.count(9));
        due(true, x.restore(0));
        due("(1 2)(3 4)", placesOf(x));
    }

    // ---- promise 35 ----

    // "false, and nothing happens: no such one"
    static void promise35RestoreOfNoSuchSlot() {
        CloudDepth x = with(1, 1);
        for (int slot = 0; slot <= 2; slot++) x.hold(slot);
        x.add(2, 2);
        for (int slot : new int[] {-1, 3, LEAST, MOST}) due(false, x.restore(slot));
        due("grid 10 (1 1) (2 2) tape 0 undo 2 slots 3", stateOf(x));
        due(true, x.undo());
        due("(1 1)", placesOf(x));
    }

    // "it holds nothing"
    static void promise35RestoreOfASlotThatHoldsNothing() {
        CloudDepth x = with(1, 1);
        for (int slot = 0; slot <= 2; slot++) due(false, x.restore(slot));
        x.hold(1);
        x.add(2, 2);
        due(false, x.restore(0));
        due(false, x.restore(2));
        due("grid 10 (1 1) (2 2) tape 0 undo 2 slots 1", stateOf(x));
        due(true, x.restore(1));
        due("grid 10 (1 1) tape 0 undo 0 slots 1", stateOf(x));
    }

    // "it stays there"
    static void promise35RestoreLeavesTheSlot() {
        CloudDepth x = with(1, 1);
        x.hold(0);
        for (int i = 0; i < 3; i++) {
            x.move(0, 10 + i, 10);
            x.add(5, 5);
            due(true, x.restore(0));
            due("(1 1)", placesOf(x));
            due(1, x.count(9));
        }
    }

    // "nothing can be undone then"
    static void promise35RestoreLeavesNothingToUndo() {
        CloudDepth x = with(1, 1);
        for (int i = 0; i < 41; i++) x.turn(false);
        x.hold(0);
        due(40, x.count(8));
        due(true, x.restore(0));
        due(0, x.count(8));
        due(false, x.undo());
        x.add(3, 3);
        due(1, x.count(8));
        due(true, x.undo());
        due(false, x.undo());
        due("(-1 1)", placesOf(x));
    }

    // The three SLOTS are apart.
    static void promise35RestoreOfEachSlot() {
        CloudDepth x = new CloudDepth();
        for (int slot = 0; slot <= 2; slot++) {
            x.add(slot, 7);
            x.hold(slot);
        }
        due(true, x.restore(0));
        due("(0 7)", placesOf(x));
        due(true, x.restore(2));
        due("(0 7)(1 7)(2 7)", placesOf(x));
        due(true, x.restore(1));
        due("(0 7)(1 7)", placesOf(x));
        due(3, x.count(9));
    }

    // A text without a FAULT empties the SLOTS, one with a FAULT does not.
    static void promise35RestoreBehindARead() {
        CloudDepth x = with(1, 1);
        x.hold(0);
        tell(x, "!");
        due(1, x.read());
        due(true, x.restore(0));
        tell(x, "point a 2 2;");
        due(0, x.read());
        due(false, x.restore(0));
        due("(2 2)", placesOf(x));
    }

    // The GRID is held, too; the answers behind it are those of what is held.
    static void promise35RestoreAnswersAnew() {
        CloudDepth x = inGrid(2, -2, -2, 2, -2, 2, 2, -2, 2);
        due(2, x.deepest(0));
        due(4, x.cutOff(1));
        int fit = x.best(0);
        x.hold(0);
        x.goes(3);
        x.goes(2);
        due(1, x.deepest(0));
        due(2, x.cutOff(1));
        x.best(0);
        due(true, x.restore(0));
        due(2, x.deepest(0));
        due(4, x.cutOff(1));
        due(fit, x.best(0));
        due(25, x.region(0, 0));
    }
}
