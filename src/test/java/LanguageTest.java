import java.lang.management.ManagementFactory;
import java.lang.reflect.Constructor;
import java.lang.reflect.Field;
import java.lang.reflect.Method;
import java.lang.reflect.Modifier;
import java.nio.file.Files;
import java.nio.file.Path;
import java.util.Arrays;
import java.util.List;
import java.util.TreeSet;
import java.util.regex.Matcher;
import java.util.regex.Pattern;

/** The public face, and those rules of ../shared/LANGUAGE.md that can be looked up. Takes the source's path. */
public final class LanguageTest {
    private static final String FACE = "feed(int) road() fault() told(int) cell(int,int) cart(int,int) sink(int,int) drive(int)"
        + " pull(int) day(int) lay(int,int) load(int,int) storm(int) raze(int) drift(int) undo() stops(int,int) soonest(int,int)"
        + " loads(int,int,int) gravelTo(int,int) gravelForAll(int) order(int,int) place(int) said(int) dry(int,int) hear(int,int)"
        + " rains(int) send() write(int,int) tear() judge() seed(int) keep(int) goBack(int)";
    private static final List<String> CONSTANTS = List.of("NONE", "UNKNOWN", "OUTSIDE", "NOT", "FULL");

    public static void main(String[] args) throws Exception {
        face();
        classesInside();
        if (args.length > 0) {
            String source = Files.readString(Path.of(args[0]));
            words(withoutTexts(source));
            lengths(source);
        }
        room();
        Check.finish();
    }

    private static void holds(String rule, boolean so) {
        Check.due(rule, so ? 1 : 0, 1);
    }

    private static void face() {
        Class<?> towns = StuckTowns.class;
        holds("public and final", Modifier.isPublic(towns.getModifiers()) && Modifier.isFinal(towns.getModifiers()));
        TreeSet<String> found = new TreeSet<>();
        TreeSet<String> publicNames = new TreeSet<>();
        for (Method m : towns.getDeclaredMethods()) {
            if (!Modifier.isPrivate(m.getModifiers()) && !m.isSynthetic()) {
                String types = String.join(",", Arrays.stream(m.getParameterTypes()).map(Class::getName).toList());
                found.add(m.getName() + "(" + types + ")");
                publicNames.add(m.getName());
                holds(m.getName() + " is public, not static, answers int",
                    (m.getModifiers() & ~Modifier.PUBLIC) == 0 && m.getReturnType() == int.class);
            }
        }
        Check.same("the face", found.toString(), new TreeSet<>(List.of(FACE.split(" "))).toString());
        for (Method m : towns.getDeclaredMethods()) {
            if (Modifier.isPrivate(m.getModifiers())) {
                holds("no private method is named " + m.getName(), !publicNames.contains(m.getName()));
            }
        }
        for (Field f : towns.getDeclaredFields()) {
            boolean constant = CONSTANTS.contains(f.getName());
            holds(f.getName() + " is private or of the face", Modifier.isPrivate(f.getModifiers()) != constant);
            holds(f.getName() + " is final if static", !Modifier.isStatic(f.getModifiers()) || Modifier.isFinal(f.getModifiers()));
        }
        Constructor<?>[] made = towns.getDeclaredConstructors();
        holds("one public constructor", made.length == 1 && Modifier.isPublic(made[0].getModifiers()) && made[0].getParameterCount() == 0);
    }

    private static void classesInside() {
        Class<?>[] inside = StuckTowns.class.getDeclaredClasses();
        holds("at most twelve classes", inside.length + 1 <= 12);
        for (Class<?> c : inside) {
            holds(c.getName() + " is static, private", Modifier.isStatic(c.getModifiers()) && Modifier.isPrivate(c.getModifiers()));
            long fields = Arrays.stream(c.getDeclaredFields()).filter(f -> !Modifier.isStatic(f.getModifiers())).count();
            holds(c.getName() + " has at most twenty fields", fields <= 20);
            for (Method m : c.getDeclaredMethods()) {
                holds(m + " takes at most seven", m.getParameterCount() <= 7);
            }
        }
    }

    private static String withoutTexts(String source) {
        return source.replaceAll("(?s)/\\*.*?\\*/", " ").replaceAll("//[^\n]*", " ").replaceAll("'[^'\n]'", "0");
    }

    private static void words(String code) {
        for (String word : List.of("throw", "throws", "try", "catch", "synchronized", "assert", "package", "native", "volatile",
            "Object", "Exception", "Random", "Thread", "var", "instanceof", "protected")) {
            holds("no word " + word, !Pattern.compile("\\b" + word + "\\b").matcher(code).find());
        }
        holds("no lambda, no method reference", !code.contains("->") && !code.contains("::"));
        Matcher imports = Pattern.compile("import ([^;]*);").matcher(code);
        while (imports.find()) {
            Check.same("import", imports.group(1), "java.util.Arrays");
        }
        Matcher calls = Pattern.compile("\\b(System|Arrays|Math|Integer|Long|String)\\.(\\w+)").matcher(code);
        while (calls.find()) {
            String call = calls.group(1) + "." + calls.group(2);
            holds(call + " is allowed", List.of("System.arraycopy", "Arrays.fill", "Math.max", "Math.min", "Math.abs",
                "Integer.bitCount").contains(call));
        }
        holds("signs 1 to 127", code.chars().allMatch(sign -> sign > 0 && sign < 128));
    }

    /** A method's last line is a brace as deep as its first. */
    private static void lengths(String source) {
        String[] lines = source.split("\n");
        Pattern head = Pattern.compile("^( {4}| {8})[a-zA-Z][\\w \\[\\]]*\\(.*\\) \\{$");
        int methods = 0;
        for (int k = 0; k < lines.length; k++) {
            Matcher m = head.matcher(lines[k]);
            if (m.matches() && !lines[k].trim().matches("(if|for|while|switch|else)\\b.*")) {
                int end = k;
                while (!lines[end].equals(m.group(1) + "}")) {
                    end++;
                }
                methods++;
                holds("line " + (k + 1) + " begins a method of at most sixty lines", end - k + 1 <= 60);
            }
        }
        holds("methods were found", methods > 60);
    }

    /** All rows are made by the constructor: a run of calls makes nothing more. */
    private static void room() {
        com.sun.management.ThreadMXBean beans = (com.sun.management.ThreadMXBean) ManagementFactory.getThreadMXBean();
        StuckTowns t = Check.on("r10,30,20,45,5;w5,20,0;c0 25 3;c1 40 1;c2 20 3;c3 14 7;c0 5 2;");
        allCalls(t);
        beans.getCurrentThreadAllocatedBytes();
        long before = beans.getCurrentThreadAllocatedBytes();
        long sum = 0;
        for (int k = 0; k < 8; k++) {
            sum += allCalls(t);
        }
        long made = beans.getCurrentThreadAllocatedBytes() - before;
        holds("calls make no objects (" + made + " bytes, sum " + sum + ")", made < 200);
    }

    private static long allCalls(StuckTowns t) {
        long sum = 0;
        for (int what = 0; what <= 15; what++) {
            sum += t.told(what);
        }
        sum += t.cell(1, 4) + t.cart(1, 5) + t.sink(0, 0) + t.drive(0) + t.pull(0) + t.day(1) + t.lay(0, 1) + t.load(0, 20);
        sum += t.storm(9) + t.raze(1) + t.drift(20) + t.undo() + t.stops(0, 9) + t.soonest(0, 4) + t.loads(0, 1, 0);
        sum += t.gravelTo(0, 4) + t.gravelForAll(31) + t.order(7, 1) + t.place(1) + t.said(3) + t.dry(60, 99);
        sum += t.hear(0, 1) + t.rains(0) + t.send() + t.write(0, 1) + t.judge() + t.tear() + t.seed(3) + t.keep(0) + t.goBack(0);
        return sum;
    }
}
