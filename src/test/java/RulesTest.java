import java.lang.reflect.Constructor;
import java.lang.reflect.Field;
import java.lang.reflect.Method;
import java.lang.reflect.Modifier;
import java.nio.file.Files;
import java.nio.file.Path;
import java.util.Set;
import java.util.TreeSet;
import java.util.regex.Matcher;
import java.util.regex.Pattern;

/** The public face, and of the language's rules those that a look at the class can tell. */
final class RulesTest {
    private static final Check CHECK = new Check("RulesTest");
    private static final Set<String> FACE = Set.of(
            "int clerks(int)", "int work(int,int)", "int send(int,int)", "int get(int,int)", "int writes(int,int)",
            "int loses(int)", "int draw(int,int)", "int of(int,int)", "int page(int,int,int,int)",
            "int dead(int,int,int)", "int end(int,int)", "int letter(int,int,int)", "int sweeps()", "int says(int)",
            "int release()", "int saying(int,int)", "int released(int)", "int cuts(int)", "int would(int,int)",
            "int worst(int)", "int type(int)", "int clear()", "int does()", "int told(int)", "long digest()");

    public static void main(String[] args) throws Exception {
        face();
        nested();
        words();
        neverThrows();
        CHECK.close();
    }

    private static void face() {
        Class<?> type = OrphanLogs.class;
        CHECK.holds("public and final", Modifier.isPublic(type.getModifiers()) && Modifier.isFinal(type.getModifiers()));
        Set<String> seen = new TreeSet<>();
        for (Method m : type.getDeclaredMethods()) {
            if (Modifier.isPrivate(m.getModifiers()) || m.isSynthetic()) continue;
            CHECK.holds(m + " is public", Modifier.isPublic(m.getModifiers()) && !Modifier.isStatic(m.getModifiers()));
            StringBuilder told = new StringBuilder(m.getReturnType() + " " + m.getName() + "(");
            for (Class<?> p : m.getParameterTypes()) told.append(told.toString().endsWith("(") ? "" : ",").append(p);
            seen.add(told.append(")").toString());
        }
        CHECK.holds("the methods are the document's: " + seen, seen.equals(new TreeSet<>(FACE)));
        Set<String> constants = new TreeSet<>();
        for (Field f : type.getDeclaredFields()) if (!Modifier.isPrivate(f.getModifiers())) constants.add(f.getName());
        CHECK.holds("the constants are the document's", constants.equals(Set.of("NONE", "BAD", "NO", "FULL")));
        Constructor<?>[] made = type.getDeclaredConstructors();
        CHECK.holds("one public constructor", made.length == 1 && Modifier.isPublic(made[0].getModifiers()));
    }

    private static void nested() {
        Set<String> names = new TreeSet<>();
        for (Method m : OrphanLogs.class.getDeclaredMethods()) if (Modifier.isPublic(m.getModifiers())) names.add(m.getName());
        Class<?>[] inside = OrphanLogs.class.getDeclaredClasses();
        CHECK.holds("at most twelve classes", inside.length + 1 <= 12);
        for (Class<?> type : inside) {
            CHECK.holds(type + " is static", Modifier.isStatic(type.getModifiers()));
            CHECK.holds(type + " has at most twenty fields", type.getDeclaredFields().length <= 20);
            for (Method m : type.getDeclaredMethods()) {
                CHECK.holds(m + " bears no public name", !names.contains(m.getName()));
                CHECK.holds(m + " has at most seven parameters", m.getParameterCount() <= 7);
            }
        }
        for (Method m : OrphanLogs.class.getDeclaredMethods()) {
            if (Modifier.isPrivate(m.getModifiers())) CHECK.holds(m + " bears no public name", !names.contains(m.getName()));
        }
    }

    private static void words() throws Exception {
        Path root = Path.of(System.getProperty("project.root", "."));
        String source = Files.readString(root.resolve("src/main/java/OrphanLogs.java"));
        String code = source.replaceAll("(?s)/\\*.*?\\*/", " ").replaceAll("//[^\\n]*", " ");
        Pattern barred = Pattern.compile("\\b(package|import|throw|throws|try|catch|synchronized|assert|hashCode|toString"
                + "|\\w+Exact|System|Thread|Random|Object)\\b|->|::");
        Matcher m = barred.matcher(code);
        CHECK.holds("no barred word" + (m.find() ? ": " + m.group() : ""), !barred.matcher(code).find());
        Matcher index = Pattern.compile("\\w+\\[[^\\]]+\\]").matcher(code);
        Set<String> indexed = new TreeSet<>();
        while (index.find()) if (!index.group().matches("(int|Clerk)\\[.*")) indexed.add(index.group());
        CHECK.holds("rows are used only behind a test of the index: " + indexed, indexed.equals(Set.of(
                "row[i]", "clerks[c]", "clerks[c >= 0 && c < clerks.length ? c : 0]")));
    }

    /** Every call with the oddest numbers, in an early and in a late state. */
    private static void neverThrows() {
        int[] odd = {Integer.MIN_VALUE, -1, 0, 1, 4, 5, 23, 24, 99, 100, Integer.MAX_VALUE};
        for (int n = 2; n <= 5; n++) {
            OrphanLogs o = new OrphanLogs();
            o.clerks(n);
            for (int a : odd) {
                o.type(a);
                o.told(a);
                for (int b : odd) callWithTwo(o, a, b);
                o.loses(a);
                o.cuts(a);
                o.worst(a);
                o.released(a);
                o.says(a);
                o.release();
                o.sweeps();
                o.does();
            }
            CHECK.due("n", o.told(4), n);
        }
    }

    private static void callWithTwo(OrphanLogs o, int a, int b) {
        o.work(a, b);
        o.send(a, b);
        o.get(a, b);
        o.writes(a, b);
        o.of(a, b);
        o.end(a, b);
        o.saying(a, b);
        o.would(a, b);
        for (int c : new int[] {Integer.MIN_VALUE, -1, 0, 2, 99, Integer.MAX_VALUE}) {
            o.dead(a, b, c);
            o.letter(a, b, c);
            o.page(a, b, c, 3);
            o.page(a, b, 0, c);
        }
    }
}
