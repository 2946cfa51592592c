import java.lang.management.ManagementFactory;
import java.lang.reflect.Field;
import java.lang.reflect.Method;
import java.lang.reflect.Modifier;
import java.nio.charset.StandardCharsets;
import java.nio.file.Files;
import java.nio.file.Path;
import java.util.ArrayList;
import java.util.Arrays;
import java.util.Comparator;
import java.util.HashMap;
import java.util.List;
import java.util.Map;
import java.util.Set;
import java.util.TreeSet;
import java.util.regex.Matcher;
import java.util.regex.Pattern;

/** LANGUAGE.md rule by rule, as far as the text of the class, its face at run time and the calls themselves show it. */
public final class LanguageTest {
    private static final Set<String> TYPES = Set.of("void", "int", "long", "short", "byte", "char", "boolean", "double",
        "float", "String", "StringBuilder", "Integer", "ArrayList", "List", "Iterator", "Iterable", "Comparable");
    private static final Set<String> LIBRARY = Set.of("String", "StringBuilder", "ArrayList", "List", "Integer", "Long",
        "Math", "Iterator", "Iterable", "Comparable", "Override", "System.arraycopy", "Arrays.copyOf",
        "Arrays.copyOfRange", "Arrays.fill");
    private static final int[] WILD = {Integer.MIN_VALUE, Integer.MIN_VALUE + 1, -104, -103, -102, -101, -2, -1, 0, 1, 2,
        3, 4, 5, 6, 7, 8, 9, 10, 13, 14, 31, 32, 63, 64, 99, 100, 126, 127, 128, 255, 624, 999, 1000, 15624, 15625,
        1 << 30, Integer.MAX_VALUE};
    /** 7.3 million fields and elements, if each has but four bytes. */
    private static final long ROOM = 4 * 7_300_000L;

    /** The class without its comments. */
    private final String code;
    private final String[] lines;
    /** What each method calls, by the names alone: methods of the same name count as one. */
    private final Map<String, Set<String>> calls = new HashMap<>();

    private LanguageTest(String text) {
        code = text.replaceAll("(?s)/\\*.*?\\*/", "").replaceAll("//[^\n]*", "");
        lines = code.split("\n");
    }

    public static void main(String[] args) throws Exception {
        Path file = Path.of("src/main/java/WokenOnce.java");
        LanguageTest test = new LanguageTest(Files.readString(file, StandardCharsets.UTF_8));
        test.rule1NamesOfTheFace();
        test.rule2ClassesInside();
        test.rule3Types();
        test.rule4Library();
        test.rule5StaticFields();
        test.rule6RuledOut();
        rule7NoCallThrows();
        test.gatherCalls();
        test.rule8And11Depth();
        test.rule9LoopsEnd();
        test.rule10NoJoinedTexts();
        test.rule11Sizes();
        rule12Room();
        rule13SameAnswers();
        Check.end("LanguageTest");
    }

    private void none(String rule, String sign) {
        Matcher found = Pattern.compile(sign).matcher(code);
        Check.holds(rule + ": there is no " + sign, !found.find());
    }

    private static List<Class<?>> classes() {
        List<Class<?>> classes = new ArrayList<>(List.of(WokenOnce.class));
        classes.addAll(Arrays.asList(WokenOnce.class.getDeclaredClasses()));
        return classes;
    }

    private static List<Method> face() {
        return Arrays.stream(WokenOnce.class.getDeclaredMethods())
            .filter(method -> Modifier.isPublic(method.getModifiers()))
            .sorted(Comparator.comparing(Method::getName)).toList();
    }

    /** "without a package line"; "No private method bears the name of a public one." */
    private void rule1NamesOfTheFace() {
        List<String> names = face().stream().map(Method::getName).distinct().toList();
        Check.due("public methods, each name once", names.size(), 27);
        for (Class<?> own : classes()) {
            for (Method method : own.getDeclaredMethods()) {
                boolean hidden = Modifier.isPrivate(method.getModifiers());
                Check.holds(method + " does not bear a public name", !hidden || !names.contains(method.getName()));
            }
        }
        none("rule 1", "\\bprotected\\b");
        none("rule 1", "\\bpackage\\b");
    }

    /** "static nested classes ... No inner class that isn't static, no local or anonymous class, no lambda" */
    private void rule2ClassesInside() {
        for (Class<?> own : WokenOnce.class.getDeclaredClasses()) {
            Check.holds(own + " is static", Modifier.isStatic(own.getModifiers()));
            Check.holds(own + " is private or package-visible",
                !Modifier.isPublic(own.getModifiers()) && !Modifier.isProtected(own.getModifiers()));
        }
        long told = Arrays.stream(lines).filter(line -> line.matches(".*\\b(class|enum|record|interface) \\w.*")).count();
        Check.due("classes by the text are those at run time", told, classes().size());
        for (String line : lines) {
            Check.holds("no lambda: " + line, !line.contains("->") || line.matches(" +(case .*|default) -> .*"));
        }
        none("rule 2", "::");
        none("rule 2", "new \\w+\\([^)]*\\) *\\{");
    }

    private static boolean isAllowed(Class<?> type) {
        Class<?> base = type;
        int dimensions = 0;
        while (base.isArray()) {
            base = base.getComponentType();
            dimensions++;
        }
        boolean known = TYPES.contains(base.getSimpleName()) || classes().contains(base);
        return known && (dimensions < 2 || (dimensions == 2 && base.isPrimitive()));
    }

    private void rule3Types() {
        for (Class<?> own : classes()) {
            for (Field field : own.getDeclaredFields()) {
                Check.holds("the type of " + field, isAllowed(field.getType()));
            }
            for (Method method : own.getDeclaredMethods()) {
                Check.holds("the answer of " + method, isAllowed(method.getReturnType()));
                for (Class<?> type : method.getParameterTypes()) {
                    Check.holds("a type in " + method, isAllowed(type));
                }
            }
        }
    }

    /** "The library: only what stands here." */
    private void rule4Library() {
        Set<String> own = new TreeSet<>();
        classes().forEach(c -> own.add(c.getSimpleName()));
        String plain = code.replaceAll("(?m)^import .*$", "").replaceAll("\"[^\"]*\"", "");
        Matcher found = Pattern.compile("\\b([A-Z][a-z]\\w*)(\\.\\w+)?").matcher(plain);
        while (found.find()) {
            Check.holds(found.group() + " is the class's own or of the list", own.contains(found.group(1))
                || LIBRARY.contains(found.group(1)) || LIBRARY.contains(found.group()));
        }
        none("rule 4", "import (?!java\\.util\\.(ArrayList|List|Arrays|Iterator);)");
        none("rule 4", "Exact\\(");
    }

    /** "Static fields are final ... No other static state, no static initialiser block." */
    private void rule5StaticFields() {
        for (Class<?> own : classes()) {
            for (Field field : own.getDeclaredFields()) {
                boolean isStatic = Modifier.isStatic(field.getModifiers());
                Check.holds("what is static is final: " + field, !isStatic || Modifier.isFinal(field.getModifiers()));
            }
        }
        none("rule 5", "\\bstatic *\\{");
    }

    private void rule6RuledOut() {
        for (String word : new String[] {"throw", "throws", "try", "catch", "finally", "synchronized", "assert", "native",
            "volatile", "hashCode"}) {
            none("rule 6", "\\b" + word + "\\b");
        }
    }

    /** "No call may ever throw or fail to end, for any arguments in any state": each call with wild ones in each scene. */
    private static void rule7NoCallThrows() throws Exception {
        for (Scene scene : Scene.values()) {
            for (Method method : face()) {
                wildly(scene, method);
            }
        }
    }

    private static void wildly(Scene scene, Method method) throws Exception {
        int many = method.getParameterCount();
        int rounds = (int) Math.pow(WILD.length, Math.min(many, 2));
        WokenOnce x = null;
        for (int round = 0; round < rounds; round++) {
            x = round % 300 == 0 ? scene.make() : x;
            Object[] args = new Object[many];
            for (int i = 0; i < many; i++) {
                int wild = WILD[(i == 1 ? round / WILD.length : round + 7 * i) % WILD.length];
                args[i] = method.getParameterTypes()[i] == long.class ? (Object) (wild * 0x100010001L) : wild;
            }
            Object answer = method.invoke(x, args);
            Check.holds(method.getName() + Arrays.toString(args) + " answers", answer instanceof Number);
        }
    }

    private void gatherCalls() {
        Pattern begun = Pattern.compile("(    |        )(?!return|else)[a-z][\\w \\[\\]<>]* (\\w+)\\(.*\\) \\{");
        Pattern called = Pattern.compile("(\\w+)\\(");
        String name = null;
        for (String line : lines) {
            Matcher method = begun.matcher(line);
            if (method.matches()) {
                name = method.group(2);
                calls.computeIfAbsent(name, key -> new TreeSet<>());
            } else if (name != null) {
                Matcher call = called.matcher(line);
                while (call.find()) {
                    calls.get(name).add(call.group(1));
                }
            }
        }
        for (Method method : face()) {
            Check.holds(method.getName() + " is found in the text", calls.containsKey(method.getName()));
        }
    }

    /** How many calls stand open at once at most, this one among them, not counting who comes back to himself. */
    private int depth(String name, Set<String> open) {
        int deepest = 0;
        open.add(name);
        for (String called : calls.get(name)) {
            if (calls.containsKey(called) && !open.contains(called)) {
                deepest = Math.max(deepest, depth(called, open));
            }
        }
        open.remove(name);
        return deepest + 1;
    }

    /** "calls that are no recursion go at most eight deep" */
    private void rule8And11Depth() {
        for (Method method : face()) {
            int depth = depth(method.getName(), new TreeSet<>());
            Check.holds(method.getName() + " goes eight deep at most: " + depth, depth <= 8);
        }
    }

    /** "Every loop has an end that can be seen from its own lines" */
    private void rule9LoopsEnd() {
        none("rule 9", "while \\(true\\)");
        none("rule 9", "for \\([^;)]*; *;");
    }

    /** "joining texts by StringBuilder (not by +)" */
    private void rule10NoJoinedTexts() {
        none("rule 10", "\" *\\+|\\+ *\"");
    }

    /** "at most seven parameters ... some sixty lines ... some twelve classes ... some twenty fields" */
    private void rule11Sizes() {
        Check.holds("some twelve classes", classes().size() <= 14);
        for (Class<?> own : classes()) {
            long fields = Arrays.stream(own.getDeclaredFields())
                .filter(field -> !Modifier.isStatic(field.getModifiers())).count();
            Check.holds(own + " has some twenty fields", fields <= 22);
            for (Method method : own.getDeclaredMethods()) {
                Check.holds("seven parameters at most: " + method, method.getParameterCount() <= 7);
            }
        }
        int begun = -1;
        for (int i = 0; i < lines.length; i++) {
            boolean method = lines[i].matches("    (    )?[a-z].*\\) \\{") && !lines[i].contains(" class ");
            begun = method ? i : begun;
            if (lines[i].matches("    (    )?}") && begun >= 0) {
                Check.holds("some sixty lines at most from '" + lines[begun] + "'", i - begun <= 65);
                begun = -1;
            }
        }
    }

    /** The room of all calls of one run, by the dearest house that there is. */
    private static void rule12Room() {
        com.sun.management.ThreadMXBean threads =
            (com.sun.management.ThreadMXBean) ManagementFactory.getThreadMXBean();
        long id = Thread.currentThread().getId();
        allCalls(Scene.CROWDED.make());
        long before = threads.getThreadAllocatedBytes(id);
        WokenOnce x = Scene.CROWDED.make();
        for (int i = 0; i < 14; i++) {
            allCalls(x);
        }
        long made = threads.getThreadAllocatedBytes(id) - before;
        Check.holds("a run has room, it made " + made + " bytes", made < ROOM);
    }

    private static long allCalls(WokenOnce x) {
        long sum = x.evening() + x.letters(97) + x.fault(0) + x.fault(1) + x.bell() + x.rule() + x.blank();
        sum += x.tenths(0, 0) + x.sleeper(0, 0) + x.skill(0, 0, 3) + x.harm(0, 40) + x.about(0, 3) + x.as(4, 2);
        sum += x.come(0, 3) + x.best(0) + x.whom(1) + x.worst() + x.known(3124) + x.byRule(1) + x.worth(2, 0);
        sum += x.roster(12) + x.seen(5) + x.sure(5, 2) + x.night(7, 0) + x.night(7, 1) + x.night(7, 2);
        return sum + x.image() + x.restore() + x.count(3) + x.digest();
    }

    /** "the same calls always give the same answers" */
    private static void rule13SameAnswers() throws Exception {
        for (Scene scene : Scene.values()) {
            WokenOnce x = scene.make();
            WokenOnce y = scene.make();
            for (Method method : face()) {
                Object[] args = new Object[method.getParameterCount()];
                for (int i = 0; i < args.length; i++) {
                    args[i] = method.getParameterTypes()[i] == long.class ? (Object) 97L : 1;
                }
                Object answer = method.invoke(x, args);
                Check.holds(method.getName() + " in " + scene, answer.equals(method.invoke(y, args)));
            }
            Check.holds("both tell alike", Told.by(x).equals(Told.by(y)));
        }
    }
}
