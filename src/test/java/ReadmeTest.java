import java.io.File;
import java.nio.file.Files;
import java.nio.file.Path;
import java.lang.reflect.Method;
import java.util.Arrays;
import java.util.TreeSet;
import java.util.regex.Matcher;
import java.util.regex.Pattern;

/** What README.md says holds: its example's answers, its lists. Takes the paths of the class, the document, README.md. */
public final class ReadmeTest {
    private static final Pattern EXAMPLE = Pattern.compile("(?s)```java\n(.*?)```");
    private static final Pattern TEXT = Pattern.compile("String text = \"([^\"]*)\";");
    private static final Pattern LINE = Pattern.compile("(?m)^towns\\.(\\w+)\\(([^)]*)\\);\\s*// (\\S+):");
    private static final Pattern LISTED = Pattern.compile("(?m)^- (?:the road|what is|draws)[^:]*:([^\n]*)$");
    private static final int LINES_OF_CALLS = 18;

    public static void main(String[] args) throws Exception {
        if (args.length < 3) {
            System.out.println("the path of README.md is not told");
            System.exit(1);
        }
        String page = Files.readString(Path.of(args[2]));
        example(page);
        calls(page);
        classesAndTests(page, Path.of(args[0]));
        Check.finish();
    }

    private static String found(Pattern pattern, String in) {
        Matcher m = pattern.matcher(in);
        boolean there = m.find();
        Check.due(pattern + " is there", there ? 1 : 0, 1);
        return there ? m.group(1) : "";
    }

    private static void example(String page) throws Exception {
        String code = found(EXAMPLE, page);
        StuckTowns towns = new StuckTowns();
        Check.feed(towns, found(TEXT, code));
        int lines = 0;
        Matcher m = LINE.matcher(code);
        while (m.find()) {
            lines++;
            Check.due(m.group(), call(towns, m.group(1), m.group(2)), number(m.group(3)));
        }
        Check.due("calls with an answer", lines, LINES_OF_CALLS);
    }

    private static int call(StuckTowns towns, String name, String told) throws Exception {
        Object[] numbers = told.isEmpty() ? new Object[0] : Arrays.stream(told.split(", ")).map(Integer::valueOf).toArray();
        Class<?>[] types = new Class<?>[numbers.length];
        Arrays.fill(types, int.class);
        return (Integer) StuckTowns.class.getMethod(name, types).invoke(towns, numbers);
    }

    private static int number(String told) throws Exception {
        return told.matches("-?\\d+") ? Integer.parseInt(told) : StuckTowns.class.getField(told).getInt(null);
    }

    private static void calls(String page) {
        TreeSet<String> listed = new TreeSet<>();
        Matcher m = LISTED.matcher(page);
        while (m.find()) {
            Matcher name = Pattern.compile("`(\\w+)`").matcher(m.group(1));
            while (name.find()) {
                Check.due(name.group(1) + " is listed once", listed.add(name.group(1)) ? 1 : 0, 1);
            }
        }
        TreeSet<String> face = new TreeSet<>();
        for (Method call : StuckTowns.class.getDeclaredMethods()) {
            if (java.lang.reflect.Modifier.isPublic(call.getModifiers())) {
                face.add(call.getName());
            }
        }
        Check.same("the calls that are listed", listed.toString(), face.toString());
    }

    private static void classesAndTests(String page, Path source) {
        for (Class<?> inside : StuckTowns.class.getDeclaredClasses()) {
            named(page, inside.getSimpleName());
        }
        File[] tests = source.resolveSibling("../../test/java").toFile().listFiles((at, name) -> name.endsWith("Test.java"));
        Check.due("tests are found", tests != null && tests.length > 0 ? 1 : 0, 1);
        for (File test : tests == null ? new File[0] : tests) {
            named(page, test.getName().replace(".java", ""));
        }
    }

    private static void named(String page, String name) {
        Check.due(name + " is named", page.contains("`" + name + "`") ? 1 : 0, 1);
    }
}
