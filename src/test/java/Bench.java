import java.lang.reflect.InvocationTargetException;
import java.lang.reflect.Method;
import java.lang.reflect.Modifier;
import java.util.ArrayList;
import java.util.Arrays;
import java.util.Comparator;
import java.util.List;

/** What the tests of boundary cases share: clouds made, texts put on the tape, answers compared. */
class Bench {
    static final int NONE = CloudDepth.NONE;
    static final int NO = -100000;
    static final int LEAST = Integer.MIN_VALUE;
    static final int MOST = Integer.MAX_VALUE;

    /** Twelve POINTS (i, i times i), i -6 .. 5, by i: all CORNERS, no three on one line, X all unlike. */
    static final int[] BOWL = {-6, 36, -5, 25, -4, 16, -3, 9, -2, 4, -1, 1, 0, 0, 1, 1, 2, 4, 3, 9, 4, 16, 5, 25};
    static final int[] SQUARE = {-2, -2, 2, -2, 2, 2, -2, 2};
    static final int[] TRIANGLE = {0, 0, 4, 0, 0, 4};
    static final int[] ROW_OF_5 = {-4, -4, -2, -2, 0, 0, 2, 2, 4, 4};

    private static String test = "";
    private static int wrong;

    static int wrong() { return wrong; }

    /** Runs all tests of a class, by their names, and tells the names. */
    static List<String> runAll(Class<?> tests) throws Exception {
        Method[] methods = tests.getDeclaredMethods();
        Arrays.sort(methods, Comparator.comparing(Method::getName));
        List<String> names = new ArrayList<>();
        for (Method method : methods) {
            if (!method.getName().startsWith("promise")) continue;
            if (!Modifier.isStatic(method.getModifiers())) throw new IllegalStateException(method + " is not static");
            test = method.getName();
            names.add(test);
            try {
                method.invoke(null);
            } catch (InvocationTargetException e) {
                tellWrong("threw " + e.getCause());
            }
        }
        return names;
    }

    static void due(long want, long got) {
        if (got != want) tellWrong(got + ", due is " + want);
    }

    static void due(boolean want, boolean got) {
        if (got != want) tellWrong(got + ", due is " + want);
    }

    static void due(String want, String got) {
        if (!got.equals(want)) tellWrong(got + ", due is " + want);
    }

    private static void tellWrong(String what) {
        wrong++;
        StringBuilder lines = new StringBuilder();
        for (StackTraceElement at : new Throwable().getStackTrace()) {
            if (!at.getClassName().startsWith("Bench") && at.getClassName().startsWith("Bounds")) {
                lines.append(lines.length() == 0 ? "" : " < ").append(at.getLineNumber());
            }
        }
        System.out.println(test + ", line " + lines + ": " + what);
    }

    // ---- clouds ----

    /** A new object with POINTS that came by hand. */
    static CloudDepth with(int... xy) {
        CloudDepth x = new CloudDepth();
        for (int i = 0; i < xy.length; i += 2) due(i / 2, x.add(xy[i], xy[i + 1]));
        return x;
    }

    /** A new object with a GRID and POINTS that came by a text. */
    static CloudDepth inGrid(int grid, int... xy) {
        return reads("grid " + grid + ";" + lines(xy));
    }

    static CloudDepth reads(String text) {
        CloudDepth x = new CloudDepth();
        tell(x, text);
        due(0, x.read());
        return x;
    }

    /** Lines of a text for POINTS a, b, c .. */
    static String lines(int... xy) {
        StringBuilder text = new StringBuilder();
        for (int i = 0; i < xy.length; i += 2) {
            text.append("point ").append((char) ('a' + i / 2)).append(' ').append(xy[i]).append(' ').append(xy[i + 1]).append(';');
        }
        return text.toString();
    }

    /** Lines of so many POINTS in a row. */
    static String rowLines(int many) {
        return lines(row(many));
    }

    static int[] row(int many) {
        int[] xy = new int[2 * many];
        for (int i = 0; i < many; i++) xy[2 * i] = i;
        return xy;
    }

    static int[] join(int[] xy, int... more) {
        int[] all = Arrays.copyOf(xy, xy.length + more.length);
        System.arraycopy(more, 0, all, xy.length, more.length);
        return all;
    }

    // ---- the tape ----

    /** Puts a text behind the tape; the blanks that fill the last feed go again. */
    static void tell(CloudDepth x, String text) {
        String padded = text + " ".repeat((20 - text.length() % 20) % 20);
        for (int at = 0; at < padded.length(); at += 20) feed(x, padded.substring(at, at + 20));
        x.back(padded.length() - text.length());
    }

    static int feed(CloudDepth x, String twenty) {
        int[] words = new int[5];
        for (int i = 0; i < 20; i++) words[i / 4] = words[i / 4] << 8 | twenty.charAt(i) & 255;
        return x.feed(words[0], words[1], words[2], words[3], words[4]);
    }

    static void dueFault(int number, int place, String text) {
        CloudDepth x = new CloudDepth();
        tell(x, text);
        due(number + " at " + place, x.read() + " at " + x.place());
    }

    static void dueGood(String text) {
        dueFault(0, NONE, text);
    }

    /** All that an object holds, as far as calls tell it that change nothing. */
    static String stateOf(CloudDepth x) {
        StringBuilder state = new StringBuilder("grid ").append(x.count(1));
        for (int p = 0; p < x.count(0); p++) state.append(" (").append(x.point(p, 0)).append(' ').append(x.point(p, 1)).append(')');
        return state.append(" tape ").append(x.count(7)).append(" undo ").append(x.count(8)).append(" slots ").append(x.count(9)).toString();
    }

    /** Answers about all POINTS at once, so that one that is left from an earlier cloud shows. */
    static String answersOf(CloudDepth x) {
        StringBuilder text = new StringBuilder();
        for (int what = 2; what <= 6; what++) text.append(x.count(what)).append(' ');
        for (int what = 10; what <= 14; what++) text.append(x.count(what)).append(' ');
        for (int i = -1; i <= 12; i++) text.append(x.corner(i)).append(',').append(x.layer(i)).append(',').append(x.cutOff(i)).append(' ');
        for (int what = 0; what <= 3; what++) text.append(x.deepest(what)).append(',').append(x.best(what)).append(' ');
        for (int what = 0; what <= 4; what++) text.append(x.region(1, what)).append(',').append(x.region(2, what)).append(' ');
        for (int i = 0; i < 12; i++) text.append(x.bends(i)).append(',').append(x.crossing(i, 0)).append(',').append(x.halving(i)).append(' ');
        return text.append(x.splits()).append(' ').append(x.fit(1, 0)).append(' ').append(x.keeping(0)).toString();
    }

    /** Whether an object answers as a new one with its POINTS does. */
    static void dueAsNew(CloudDepth x) {
        int[] xy = new int[2 * x.count(0)];
        for (int i = 0; i < xy.length; i++) xy[i] = x.point(i / 2, i % 2);
        due(answersOf(inGrid(x.count(1), xy)), answersOf(x));
    }

    /** All orders of some numbers. */
    static List<int[]> ordersOf(int many) {
        List<int[]> orders = new ArrayList<>();
        extend(new int[many], 0, orders);
        return orders;
    }

    private static void extend(int[] order, int at, List<int[]> orders) {
        if (at == order.length) {
            orders.add(order.clone());
            return;
        }
        for (int next = 0; next < order.length; next++) {
            boolean taken = false;
            for (int i = 0; i < at; i++) taken |= order[i] == next;
            if (taken) continue;
            order[at] = next;
            extend(order, at + 1, orders);
        }
    }

    /** The same POINTS in another order. */
    static int[] inOrder(int[] order, int... xy) {
        int[] mixed = new int[xy.length];
        for (int i = 0; i < order.length; i++) {
            mixed[2 * i] = xy[2 * order[i]];
            mixed[2 * i + 1] = xy[2 * order[i] + 1];
        }
        return mixed;
    }

    static String placesOf(CloudDepth x) {
        StringBuilder places = new StringBuilder();
        for (int p = 0; p < x.count(0); p++) places.append('(').append(x.point(p, 0)).append(' ').append(x.point(p, 1)).append(')');
        return places.toString();
    }
}
