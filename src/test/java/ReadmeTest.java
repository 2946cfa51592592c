import java.io.ByteArrayOutputStream;
import java.io.PrintStream;
import java.lang.reflect.Method;
import java.lang.reflect.Modifier;
import java.net.URL;
import java.net.URLClassLoader;
import java.nio.charset.StandardCharsets;
import java.nio.file.Files;
import java.nio.file.Path;
import java.util.Arrays;
import java.util.List;
import java.util.Set;
import java.util.TreeSet;
import java.util.regex.Matcher;
import java.util.regex.Pattern;
import java.util.stream.Collectors;
import java.util.stream.Stream;
import javax.tools.ToolProvider;

/** README.md is true: its program prints what it says, its rows answer what it says, and it leaves out no call. */
public final class ReadmeTest {
    /** Each call as the document writes it, and what it refuses, in the document's order. */
    private static final List<String> CALLS = List.of(
        "int letters(long w) OUTSIDE FULL", "int blank()", "int fault(int sort) OUTSIDE", "int bell() STATE",
        "int rule() STATE", "int tenths(int hour, int thing) UNKNOWN",
        "int sleeper(int kind, int cost) OUTSIDE STATE FULL",
        "int skill(int sleeper, int thing, int v) UNKNOWN OUTSIDE", "int harm(int thing, int v) UNKNOWN OUTSIDE",
        "int about(int sleeper, int what) UNKNOWN OUTSIDE", "int as(int sleeper, int kind) UNKNOWN OUTSIDE",
        "int come(int thing, int set) UNKNOWN OUTSIDE STATE", "int evening()", "long best(int part) OUTSIDE",
        "int whom(int thing) UNKNOWN STATE", "int worst()", "int known(int code) OUTSIDE",
        "long byRule(int part) OUTSIDE STATE", "long worth(int sleeper, int part) UNKNOWN OUTSIDE",
        "int roster(int cost) OUTSIDE", "int seen(int set) OUTSIDE STATE",
        "int sure(int set, int hour) OUTSIDE UNKNOWN STATE", "int night(int seed, int what) OUTSIDE", "int image()",
        "int restore() STATE", "int count(int what) OUTSIDE", "long digest()");

    private final String text;

    private ReadmeTest(String text) {
        this.text = text;
    }

    public static void main(String[] args) throws Exception {
        ReadmeTest test = new ReadmeTest(Files.readString(Path.of("README.md"), StandardCharsets.UTF_8));
        test.firstNight();
        test.runOfAllCalls();
        test.eachCall();
        test.eachConstant();
        test.eachTest();
        Check.end("ReadmeTest");
    }

    private String block(String sort) {
        Matcher found = Pattern.compile("(?s)```" + sort + "\n(.*?)```").matcher(text);
        Check.holds("there is a block " + sort, found.find());
        return found.group(1);
    }

    private void firstNight() throws Exception {
        Path out = Files.createTempDirectory("readme");
        Path source = out.resolve("OneNight.java");
        Files.writeString(source, block("java"));
        int compiled = ToolProvider.getSystemJavaCompiler().run(null, null, null,
            "-cp", System.getProperty("java.class.path"), "-d", out.toString(), source.toString());
        Check.due("the first night is compiled", compiled, 0);
        Check.holds("it prints what the page says, printed:\n" + printed(out), printed(out).equals(block("text")));
        try (Stream<Path> made = Files.list(out)) {
            for (Path file : made.toList()) {
                Files.delete(file);
            }
        }
        Files.delete(out);
    }

    private static String printed(Path classes) throws Exception {
        PrintStream before = System.out;
        ByteArrayOutputStream printed = new ByteArrayOutputStream();
        try (URLClassLoader loader = new URLClassLoader(new URL[] {classes.toUri().toURL()})) {
            System.setOut(new PrintStream(printed, true, StandardCharsets.UTF_8));
            loader.loadClass("OneNight").getMethod("main", String[].class).invoke(null, (Object) new String[0]);
        } finally {
            System.setOut(before);
        }
        return printed.toString(StandardCharsets.UTF_8).replace("\r\n", "\n");
    }

    private void runOfAllCalls() throws Exception {
        WokenOnce x = new WokenOnce();
        Set<String> names = new TreeSet<>();
        Pattern row = Pattern.compile("((\\w+)\\((.*)\\)) +(-?\\d+)( .*)?");
        for (String line : block("run").split("\n")) {
            Matcher told = row.matcher(line);
            Check.holds("a row of the run: " + line, told.matches());
            names.add(told.group(2));
            long answer = ((Number) call(x, told.group(2), told.group(3))).longValue();
            Check.due("README: " + told.group(1), answer, Long.parseLong(told.group(4)));
        }
        Check.due("calls that the run makes", names.size(), CALLS.size());
    }

    private static Object call(WokenOnce x, String name, String args) throws Exception {
        Method method = Arrays.stream(WokenOnce.class.getMethods()).filter(m -> m.getName().equals(name)).findFirst()
            .orElseThrow();
        Object[] given = args.isEmpty() ? new Object[0] : Arrays.stream(args.split(", "))
            .map(arg -> arg.startsWith("\"") ? (Object) Check.packed(arg.replace("\"", "")) : Integer.valueOf(arg))
            .toArray();
        return method.invoke(x, given);
    }

    /** A row for each call, with its refusals in the document's order. */
    private void eachCall() {
        for (String call : CALLS) {
            String signature = call.substring(0, call.indexOf(')') + 1);
            String row = text.lines().filter(line -> line.startsWith("| `" + signature + "` |")).findFirst().orElse("");
            String[] cells = row.split(" \\| ");
            Check.due("cells of the row of " + signature, cells.length, 3);
            String refusals = Pattern.compile("`(UNKNOWN|OUTSIDE|STATE|FULL)`").matcher(cells[cells.length - 1])
                .results().map(found -> found.group(1)).collect(Collectors.joining(" "));
            String due = call.substring(signature.length()).trim();
            Check.holds(signature + " refuses " + due + ", README says " + refusals, refusals.equals(due));
        }
        long face = Arrays.stream(WokenOnce.class.getDeclaredMethods())
            .filter(method -> Modifier.isPublic(method.getModifiers())).count();
        Check.due("calls of the face", face, CALLS.size());
    }

    private void eachConstant() throws Exception {
        for (String name : new String[] {"NONE", "UNKNOWN", "OUTSIDE", "STATE", "FULL"}) {
            int value = WokenOnce.class.getField(name).getInt(null);
            Check.holds("README names " + name, text.contains("| `" + name + "` | " + value + " |"));
        }
    }

    /** A row for each test that there is, and none for another. */
    private void eachTest() throws Exception {
        Set<String> named = Pattern.compile("(?m)^\\| `(\\w+Test)` \\|").matcher(text).results()
            .map(found -> found.group(1)).collect(Collectors.toCollection(TreeSet::new));
        Set<String> there = new TreeSet<>();
        try (Stream<Path> files = Files.list(Path.of("src/test/java"))) {
            files.map(file -> file.getFileName().toString()).filter(file -> file.endsWith("Test.java"))
                .forEach(file -> there.add(file.replace(".java", "")));
        }
        Check.holds("README names " + named + ", there are " + there, named.equals(there));
    }
}
