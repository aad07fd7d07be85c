import java.io.ByteArrayOutputStream;
import java.io.IOException;
import java.io.PrintStream;
import java.net.URL;
import java.net.URLClassLoader;
import java.nio.file.Files;
import java.nio.file.Path;
import java.util.ArrayList;
import java.util.Arrays;
import java.util.List;
import java.util.Set;
import java.util.TreeSet;
import java.util.regex.Matcher;
import java.util.regex.Pattern;
import java.util.stream.Stream;
import javax.tools.ToolProvider;

/** README.md is true: its example prints what it says, its tables and lists name what there is. */
public final class ReadmeTest {
    private static final Path README = Path.of("README.md");
    private static final Path SOURCE = Path.of("src/main/java/BurstPeeler.java");
    private static final Path TESTS = Path.of("src/test/java");
    private static final Path FOLDER = Path.of("build/readme");

    private ReadmeTest() {
    }

    private static void holds(String what, boolean good) {
        Check.due("README.md: " + what, good, true);
    }

    private static List<String> allOf(String pattern, String text) {
        List<String> found = new ArrayList<>();
        Matcher m = Pattern.compile(pattern, Pattern.MULTILINE | Pattern.DOTALL).matcher(text);
        while (m.find()) {
            found.add(m.group(1));
        }
        return found;
    }

    /** The part of README.md below that headline. */
    private static String section(String readme, String name) {
        List<String> found = allOf("^## " + name + "\n(.*?)(?=^## |\\z)", readme);
        holds("a section '" + name + "'", found.size() == 1);
        return found.isEmpty() ? "" : found.get(0);
    }

    // ---- the example

    private static String printedBy(String program) throws IOException, ReflectiveOperationException {
        Files.createDirectories(FOLDER);
        Path file = FOLDER.resolve("Example.java");
        Files.writeString(file, program);
        int compiled = ToolProvider.getSystemJavaCompiler()
            .run(null, null, null, "-d", FOLDER.toString(), SOURCE.toString(), file.toString());
        holds("the example compiles beside the class alone", compiled == 0);
        if (compiled != 0) {
            return "";
        }
        PrintStream usual = System.out;
        ByteArrayOutputStream printed = new ByteArrayOutputStream();
        // Without a parent that knows this project: the example sees what was compiled just now.
        URL[] folder = {FOLDER.toUri().toURL()};
        try (URLClassLoader loader = new URLClassLoader(folder, ClassLoader.getPlatformClassLoader())) {
            System.setOut(new PrintStream(printed, true));
            loader.loadClass("Example").getMethod("main", String[].class).invoke(null, (Object) new String[0]);
        } finally {
            System.setOut(usual);
        }
        return printed.toString();
    }

    private static void checkExample(String use) throws IOException, ReflectiveOperationException {
        List<String> programs = allOf("^```java\n(.*?)^```$", use);
        Check.due("README.md: programs", programs.size(), 1);
        String program = programs.isEmpty() ? "" : programs.get(0);
        List<String> told = allOf("show\\([^\n]*\\); +// (-?\\d+): [^\n]*$", program);
        Check.due("README.md: each line that shows tells what", told.size(), allOf("(show\\(x|show\\(\\d)", program).size());
        holds("enough is shown", told.size() >= 20);
        List<String> printed = Arrays.asList(printedBy(program).split("\\R"));
        Check.due("README.md: lines printed", printed.size(), told.size());
        for (int i = 0; i < Math.min(printed.size(), told.size()); i++) {
            Check.due("README.md: line " + i + " of the example", Long.parseLong(printed.get(i)), Long.parseLong(told.get(i)));
        }
    }

    // ---- tables and lists

    private static Set<String> named(String pattern, String text) {
        return new TreeSet<>(allOf(pattern, text));
    }

    private static void same(String what, Set<String> told, Set<String> there) {
        holds(what + ": told " + told + ", there are " + there, told.equals(there));
    }

    private static Set<String> faceNames() {
        Set<String> names = new TreeSet<>();
        for (java.lang.reflect.Method m : BurstPeeler.class.getMethods()) {
            if (m.getDeclaringClass() == BurstPeeler.class) {
                names.add(m.getName());
            }
        }
        return names;
    }

    private static Set<String> classesInside() {
        Set<String> names = new TreeSet<>();
        for (Class<?> c : BurstPeeler.class.getDeclaredClasses()) {
            names.add(c.getSimpleName());
        }
        return names;
    }

    private static Set<String> filesOfTests(String end) throws IOException {
        try (Stream<Path> files = Files.list(TESTS)) {
            Set<String> names = new TreeSet<>();
            files.map(f -> f.getFileName().toString()).filter(f -> f.endsWith(end))
                .forEach(f -> names.add(f.replace(".java", "")));
            return names;
        }
    }

    private static void checkCalls(String use) {
        String table = use.substring(Math.max(use.indexOf("\nThe calls:"), 0));
        List<String> calls = allOf("`([a-zA-Z]+)`", table);
        same("calls", new TreeSet<>(calls), faceNames());
        Check.due("README.md: each call once", calls.size(), faceNames().size());
    }

    /** The letters of a FIELD that the table tells are those that the class takes, with the bounds told. */
    private static void checkTexts(String use) {
        Matcher m = Pattern.compile("`([a-z])` [^`;(]*\\((\\d+) \\.\\. (\\d+); (\\d+)\\)").matcher(use);
        StringBuilder letters = new StringBuilder();
        while (m.find()) {
            String letter = m.group(1);
            letters.append(letter);
            String clause = "nfcz".contains(letter) ? "s" : "pgtab".contains(letter) ? "u" : "d";
            String rest = clause.equals("u") ? ";sn12f4" : ";u";
            long low = Long.parseLong(m.group(2));
            long high = Long.parseLong(m.group(3));
            holds(letter + " from " + low, isField(clause + letter + low + rest));
            holds(letter + " to " + high, isField(clause + letter + high + rest));
            holds(letter + " not above", !isField(clause + letter + (high + 1) + rest));
            holds(letter + " not below", low == 0 || !isField(clause + letter + (low - 1) + rest));
            Check.due("README.md: " + letter + " without", valueOf(letter, "u;s;d"), Long.parseLong(m.group(4)));
        }
        holds("all letters are told: " + letters, letters.toString().equals("nfczpgtabkq"));
        for (String step : allOf("`([prtfxc]1?0?)`", use.substring(Math.max(use.indexOf("| SCRIPT |"), 0)))) {
            BurstPeeler x = new BurstPeeler();
            Check.tape(x, step);
            Check.due("README.md: " + step + " is a SCRIPT", x.fault(1), BurstPeeler.NONE);
        }
    }

    /** What a FIELD whose DEGREES are one alone has for a letter. */
    private static long valueOf(String letter, String text) {
        BurstPeeler x = Check.withField(text);
        switch (letter) {
            case "n": return x.rule(0);
            case "f": return x.rule(1);
            case "c": return x.rule(2);
            case "z": return x.rule(3);
            case "p": return x.user(0, 0);
            case "g": return x.user(0, 1);
            case "t": return x.user(0, 2);
            case "k": return x.sample(1);
            case "q": return x.weight(x.sample(1));
            default: return x.copies(0);
        }
    }

    private static boolean isField(String text) {
        BurstPeeler x = new BurstPeeler();
        Check.tape(x, text);
        return x.fault(0) == BurstPeeler.NONE;
    }

    private static void checkTests(String tests) throws IOException {
        Set<String> told = named("`([A-Z][a-zA-Z]+)`", tests);
        told.removeIf(name -> !Files.exists(TESTS.resolve(name + ".java")));
        Set<String> there = filesOfTests("Test.java");
        same("tests", named("^- `([a-zA-Z]+)`", tests), there);
        Set<String> helpers = filesOfTests(".java");
        helpers.removeAll(Set.of("Check", "Lots"));
        same("what the tests are made of", told, helpers);
        holds("the script is told", tests.contains("\n.ci/run\n"));
        holds("the script can be run", Files.isExecutable(Path.of(".ci/run")));
    }

    public static void main(String[] args) throws IOException, ReflectiveOperationException {
        String readme = Files.readString(README);
        String use = section(readme, "Use");
        checkExample(use);
        checkCalls(use);
        checkTexts(use);
        same("classes inside", named("`([A-Z][a-zA-Z]+)`", section(readme, "How it is built")), classesInside());
        checkTests(section(readme, "Tests"));
        Check.finish();
    }
}
