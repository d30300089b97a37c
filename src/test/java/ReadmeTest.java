import java.lang.reflect.Method;
import java.lang.reflect.Modifier;
import java.nio.file.Files;
import java.nio.file.Path;
import java.util.ArrayList;
import java.util.Arrays;
import java.util.List;
import java.util.regex.Matcher;
import java.util.regex.Pattern;
import java.util.stream.Stream;

/** What README.md says is so: the answers of its examples, every call of the face, every test. */
final class ReadmeTest {
    private static final Check CHECK = new Check("ReadmeTest");
    private static final Path ROOT = Path.of(System.getProperty("project.root", "."));

    public static void main(String[] args) throws Exception {
        String page = Files.readString(ROOT.resolve("README.md"));
        example(page);
        texts(page);
        namesEveryCall(page);
        namesEveryTest(page);
        CHECK.close();
    }

    private static void example(String page) throws Exception {
        OrphanLogs logs = new OrphanLogs();
        Matcher line = Pattern.compile("logs\\.(\\w+)\\(([^)]*)\\); +// (-?\\d+)").matcher(page);
        int found = 0;
        while (line.find()) {
            List<Integer> numbers = new ArrayList<>();
            for (String s : line.group(2).split(", *")) if (!s.isEmpty()) numbers.add(Integer.valueOf(s));
            CHECK.due(line.group(), call(logs, line.group(1), numbers), Long.parseLong(line.group(3)));
            found++;
        }
        CHECK.due("lines of the example that were called", found, page.split("logs\\.", -1).length - 1);
        CHECK.holds("there is an example", found > 0);
    }

    private static long call(OrphanLogs logs, String name, List<Integer> numbers) throws Exception {
        Class<?>[] types = new Class<?>[numbers.size()];
        Arrays.fill(types, int.class);
        return ((Number) OrphanLogs.class.getMethod(name, types).invoke(logs, numbers.toArray())).longValue();
    }

    private static void texts(String page) {
        Matcher text = Pattern.compile("`([^`\\n]+;)`\\s+(does|answers)\\s+(-?\\d+)").matcher(page);
        int found = 0;
        while (text.find()) {
            OrphanLogs logs = new OrphanLogs();
            for (char c : text.group(1).toCharArray()) logs.type(c);
            CHECK.due(text.group(), logs.does(), Long.parseLong(text.group(3)));
            found++;
        }
        CHECK.due("texts", found, 2);
    }

    private static void namesEveryCall(String page) {
        for (Method m : OrphanLogs.class.getDeclaredMethods()) {
            if (!Modifier.isPublic(m.getModifiers())) continue;
            CHECK.holds("it tells of " + m.getName(), Pattern.compile("(?m)^\\| .*`" + m.getName() + "`.* \\|").matcher(page).find());
        }
    }

    private static void namesEveryTest(String page) throws Exception {
        try (Stream<Path> files = Files.list(ROOT.resolve("src/test/java"))) {
            for (Path file : files.toList()) {
                String name = file.getFileName().toString().replace(".java", "");
                if (name.endsWith("Test")) CHECK.holds("it tells of " + name, page.contains("`" + name + "`"));
            }
        }
    }
}
