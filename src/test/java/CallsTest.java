import java.io.OutputStream;
import java.io.PrintStream;
import java.net.URL;
import java.net.URLClassLoader;
import java.nio.file.Files;
import java.nio.file.Path;
import java.util.ArrayList;
import java.util.List;
import java.util.regex.Matcher;
import java.util.regex.Pattern;
import java.util.stream.Stream;
import javax.tools.ToolProvider;

/**
 * "An object is used for at most 512 calls": what a test asks behind them is free, so none may go further.
 * The tests are run once more, with a copy of the class that counts. Takes the paths that it hands on to them.
 */
public final class CallsTest {
    private static final int MOST_CALLS = 512;
    private static final int CALLS_OF_THE_FACE = 34;
    private static final Path OUT = Path.of("build", "counted");
    private static final Pattern CALL = Pattern.compile("(?m)^    public int \\w+\\(.*\\) \\{$");
    private static final String MADE = "    public StuckTowns() {";
    /** The face with a counter is not the document's, and this test would run itself. */
    private static final List<String> NOT_THESE = List.of("LanguageTest", "CallsTest");

    public static void main(String[] args) throws Exception {
        if (args.length == 0) {
            System.out.println("the path of the class is not told");
            System.exit(1);
        }
        Path source = Path.of(args[0]);
        List<Path> tests = testsBeside(source);
        compile(counting(Files.readString(source)), tests);
        for (Path test : tests) {
            String name = test.getFileName().toString().replace(".java", "");
            if (name.endsWith("Test") && !NOT_THESE.contains(name)) {
                int most = mostCalls(name, args);
                Check.due(name + " calls one object " + most + " times, which is within bounds", most >= 1 && most <= MOST_CALLS ? 1 : 0, 1);
            }
        }
        Check.finish();
    }

    private static List<Path> testsBeside(Path source) throws Exception {
        try (Stream<Path> files = Files.list(source.resolveSibling("../../test/java"))) {
            return files.filter(file -> file.toString().endsWith(".java")).sorted().toList();
        }
    }

    private static String counting(String source) {
        Matcher calls = CALL.matcher(source);
        Check.due("calls found", calls.results().count(), CALLS_OF_THE_FACE);
        Check.due("the constructor found", source.contains(MADE) ? 1 : 0, 1);
        return calls.reset().replaceAll("$0 tally++; most = Math.max(most, tally);")
            .replace(MADE, "    private int tally;\n    public static int most;\n" + MADE);
    }

    private static void compile(String counting, List<Path> tests) throws Exception {
        Path copy = OUT.resolve("StuckTowns.java");
        Files.createDirectories(OUT);
        Files.writeString(copy, counting);
        List<String> told = new ArrayList<>(List.of("-d", OUT.toString(), copy.toString()));
        tests.forEach(test -> told.add(test.toString()));
        Check.due("it compiles", ToolProvider.getSystemJavaCompiler().run(null, null, null, told.toArray(new String[0])), 0);
    }

    private static int mostCalls(String test, String[] args) throws Exception {
        PrintStream shown = System.out;
        URL[] places = {OUT.toUri().toURL()};
        try (URLClassLoader loader = new URLClassLoader(places, ClassLoader.getPlatformClassLoader())) {
            System.setOut(new PrintStream(OutputStream.nullOutputStream()));
            loader.loadClass(test).getMethod("main", String[].class).invoke(null, (Object) args);
            return loader.loadClass("StuckTowns").getField("most").getInt(null);
        } finally {
            System.setOut(shown);
        }
    }
}
