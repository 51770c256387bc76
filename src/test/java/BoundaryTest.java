import java.util.ArrayList;
import java.util.List;

/**
 * The boundary cases that the document names, promise by promise: one test of its own for each sentence, named after
 * the promise. Every promise has to have some.
 */
public final class BoundaryTest {
    private static final String[] PROMISES = {
        "CloudDepth", "Feed", "Back", "Read", "Place", "Add", "Goes", "Move", "Turn", "Undo", "Point", "Turned", "Sides", "Corner",
        "Layer", "Edges", "Halving", "CutOff", "IsCutOff", "Depth", "Deepest", "Region", "Triangles", "Order", "Crossing", "Bends",
        "Fit", "Best", "HalvingBoth", "Four", "Keeping", "Splits", "Fresh", "Hold", "Restore", "Count"};

    public static void main(String[] args) throws Exception {
        List<String> names = new ArrayList<>();
        for (Class<?> tests : List.of(BoundsOfTexts.class, BoundsByHand.class, BoundsOfHulls.class, BoundsOfCuts.class,
                BoundsOfDepth.class, BoundsOfLines.class, BoundsOfParts.class, BoundsOfCounts.class)) {
            names.addAll(Bench.runAll(tests));
        }
        int missing = 0;
        for (int i = 1; i <= PROMISES.length; i++) {
            String start = String.format("promise%02d%s", i, PROMISES[i - 1]);
            if (names.stream().noneMatch(name -> name.startsWith(start))) {
                missing++;
                System.out.println("no test of " + start);
            }
        }
        if (Bench.wrong() == 0 && missing == 0) {
            System.out.println("all boundary cases hold: " + names.size() + " tests");
            return;
        }
        System.out.println(Bench.wrong() + " answers are not as due, " + missing + " promises have no test");
        System.exit(1);
    }
}
