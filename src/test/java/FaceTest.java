import java.lang.reflect.Constructor;
import java.lang.reflect.Field;
import java.lang.reflect.Method;
import java.lang.reflect.Modifier;
import java.nio.file.Files;
import java.nio.file.Path;
import java.util.ArrayList;
import java.util.Arrays;
import java.util.List;
import java.util.Set;
import java.util.TreeSet;
import java.util.regex.Matcher;
import java.util.regex.Pattern;
import java.util.stream.Collectors;

/** The public face as the document has it, and those rules of LANGUAGE.md that a look at the class can tell. */
public final class FaceTest {
    private static final String FACE = """
        public static final int NONE = -1;
        public CloudDepth();
        public int feed(int a, int b, int c, int d, int e);
        public int back(int n);
        public int read();
        public int place();
        public int add(int x, int y);
        public boolean goes(int point);
        public boolean move(int point, int x, int y);
        public boolean turn(boolean mirrored);
        public boolean undo();
        public int point(int point, int what);
        public int turned(int p, int q, int r, int what);
        public int sides(int p, int q, int what);
        public int corner(int i);
        public int layer(int i);
        public int edges(int k);
        public int halving(int i);
        public int cutOff(int k);
        public int isCutOff(int set);
        public int depth(int x, int y);
        public int deepest(int what);
        public int region(int k, int what);
        public int triangles(int x, int y);
        public int order(int x, int i);
        public int crossing(int i, int what);
        public int bends(int i);
        public int fit(int a, int b);
        public int best(int what);
        public int halvingBoth(int set, int i);
        public int four(int p, int q, int r, int s);
        public int keeping(int point);
        public int splits();
        public int fresh(int x, int y, int what);
        public boolean hold(int slot);
        public boolean restore(int slot);
        public int count(int what);
        """;
    private static int wrong;

    public static void main(String[] args) throws Exception {
        theFace();
        theClassesInside();
        if (args.length > 0) theSource(Files.readString(Path.of(args[0], "src/main/java/CloudDepth.java")));
        System.out.println(wrong == 0 ? "the face is as due" : wrong + " faults of the face");
        if (wrong != 0) System.exit(1);
    }

    private static void check(boolean good, String what) {
        if (!good) {
            wrong++;
            System.out.println("not as due: " + what);
        }
    }

    private static void theFace() {
        Set<String> due = new TreeSet<>();
        for (String line : FACE.strip().split("\n")) due.add(line.strip().replaceAll("(int|boolean) [a-z]+(?=[,)])", "$1"));
        Set<String> found = new TreeSet<>();
        for (Field f : CloudDepth.class.getDeclaredFields()) {
            if (!Modifier.isPrivate(f.getModifiers())) found.add(Modifier.toString(f.getModifiers()) + " int " + f.getName() + " = " + CloudDepth.NONE + ";");
            else check(!Modifier.isStatic(f.getModifiers()) || Modifier.isFinal(f.getModifiers()), "static field " + f.getName());
        }
        for (Constructor<?> c : CloudDepth.class.getDeclaredConstructors()) found.add(Modifier.toString(c.getModifiers()) + " " + c.getName() + "();");
        Set<String> publicNames = new TreeSet<>();
        for (Method m : CloudDepth.class.getDeclaredMethods()) {
            if (Modifier.isPrivate(m.getModifiers())) continue;
            publicNames.add(m.getName());
            found.add(Modifier.toString(m.getModifiers()) + " " + m.getReturnType() + " " + m.getName()
                + Arrays.stream(m.getParameterTypes()).map(Class::getName).collect(Collectors.joining(", ", "(", ");")));
        }
        Set<String> both = new TreeSet<>(due);
        both.removeAll(found);
        check(both.isEmpty(), "missing " + both);
        found.removeAll(due);
        check(found.isEmpty(), "too much " + found);
        check(Modifier.isFinal(CloudDepth.class.getModifiers()), "the class is final");
        List<Class<?>> all = new ArrayList<>(List.of(CloudDepth.class.getDeclaredClasses()));
        all.add(CloudDepth.class);
        for (Class<?> c : all) {
            for (Method m : c.getDeclaredMethods()) {
                boolean ownFace = c == CloudDepth.class && Modifier.isPublic(m.getModifiers());
                check(ownFace || !publicNames.contains(m.getName()), "name of a public method: " + c.getName() + "." + m.getName());
                check(m.getParameterCount() <= 7, "seven parameters at most: " + m);
            }
        }
    }

    private static void theClassesInside() {
        Class<?>[] inside = CloudDepth.class.getDeclaredClasses();
        check(inside.length <= 11, "twelve classes at most");
        for (Class<?> c : inside) {
            check(Modifier.isStatic(c.getModifiers()) && !Modifier.isPublic(c.getModifiers()), "static, not public: " + c);
            long fields = Arrays.stream(c.getDeclaredFields()).filter(f -> !Modifier.isStatic(f.getModifiers())).count();
            check(fields <= 20, "twenty fields at most: " + c);
            for (Field f : c.getDeclaredFields()) check(!Modifier.isStatic(f.getModifiers()) || Modifier.isFinal(f.getModifiers()), "static field " + f);
        }
    }

    private static void theSource(String source) {
        String code = source.replaceAll("(?s)/\\*.*?\\*/", "").replaceAll("//[^\n]*", "").replaceAll("\"[^\"\n]*\"", "\"\"");
        Matcher ban = Pattern.compile("\\b(throw|throws|try|catch|synchronized|assert|package|native|volatile|hashCode|equals|toString|System\\.\\w+|Exact)\\b|->|::|@").matcher(code);
        while (ban.find()) check(ban.group().equals("System.arraycopy"), "LANGUAGE.md leaves out " + ban.group());
        Matcher imports = Pattern.compile("import ([^;]+);").matcher(code);
        while (imports.find()) check(imports.group(1).equals("java.util.Arrays"), "import " + imports.group(1));
        for (char c : source.toCharArray()) check(c < 127, "sign " + (int) c);
        Matcher method = Pattern.compile("(?m)^( {4}| {8})(?:[a-z]+ )*[\\w\\[\\]]+(?: \\w+)?\\([^)]*\\) \\{\n((?s:.*?))^\\1\\}").matcher(code);
        int methods = 0;
        while (method.find()) {
            methods++;
            long lines = method.group(2).lines().count();
            check(lines <= 60, "sixty lines at most: " + method.group().lines().findFirst().get());
        }
        check(methods > 100, "methods found: " + methods);
    }
}
