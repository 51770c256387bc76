import java.lang.reflect.Method;
import java.lang.reflect.Modifier;
import java.util.ArrayList;
import java.util.HashMap;
import java.util.List;
import java.util.Map;

/** A CloudDepth and an Oracle that get the same calls; the first answer that differs is told with all calls ahead. */
final class Twins {
    private static final Map<String, Method> OURS = publicMethods(CloudDepth.class);
    private static final Map<String, Method> ITS = publicMethods(Oracle.class);

    private static int wrong;
    final CloudDepth ours = new CloudDepth();
    private final Oracle its = new Oracle();
    private final List<String> log = new ArrayList<>();
    private boolean failed;

    private static Map<String, Method> publicMethods(Class<?> type) {
        Map<String, Method> methods = new HashMap<>();
        for (Method m : type.getDeclaredMethods()) if (Modifier.isPublic(m.getModifiers())) methods.put(m.getName(), m);
        return methods;
    }

    /** How many pairs of twins have differed. */
    static int wrong() { return wrong; }

    static void end() {
        System.out.println(wrong == 0 ? "all answers agree" : wrong + " runs differ");
        if (wrong != 0) System.exit(1);
    }

    int calls() { return log.size(); }

    boolean failed() { return failed; }

    /** What the program answers; a boolean counts 1 or 0. */
    int call(String name, Object... args) throws Exception {
        StringBuilder text = new StringBuilder(name).append('(');
        for (int i = 0; i < args.length; i++) text.append(i > 0 ? ", " : "").append(args[i]);
        Object got = OURS.get(name).invoke(ours, args);
        Object due = ITS.get(name).invoke(its, args);
        log.add(text.append(") = ").append(got).toString());
        if (!got.equals(due) && !failed) {
            failed = true;
            wrong++;
            System.out.println("due is " + due + " at the last of:");
            for (String line : log) System.out.println("  " + line);
        }
        return got instanceof Boolean b ? b ? 1 : 0 : (Integer) got;
    }

    /** Puts a text behind the tape; the blanks that fill the last feed go again. */
    void tell(String text) throws Exception {
        String padded = text + " ".repeat((20 - text.length() % 20) % 20);
        for (int at = 0; at < padded.length(); at += 20) {
            Object[] words = new Object[5];
            for (int w = 0; w < 5; w++) {
                int word = 0;
                for (int k = 0; k < 4; k++) word = word << 8 | padded.charAt(at + 4 * w + k) & 255;
                words[w] = word;
            }
            call("feed", words);
        }
        call("back", padded.length() - text.length());
    }
}
