import java.lang.management.ManagementFactory;
import java.lang.reflect.Field;
import java.lang.reflect.Method;
import java.lang.reflect.Modifier;
import java.nio.charset.StandardCharsets;
import java.nio.file.Files;
import java.nio.file.Path;
import java.util.ArrayList;
import java.util.Arrays;
import java.util.Comparator;
import java.util.HashMap;
import java.util.List;
import java.util.Map;
import java.util.Set;
import java.util.TreeSet;
import java.util.regex.Matcher;
import java.util.regex.Pattern;

/** LANGUAGE.md rule by rule, as far as the text of the class, its face at run time and the calls themselves show it. */
public final class LanguageTest {
    private static final List<String> WORDS = List.of("if", "for", "switch", "return", "while", "new");
    private static final int[] WILD = {Integer.MIN_VALUE, Integer.MIN_VALUE + 1, -104, -103, -102, -101, -2, -1, 0, 1, 2,
        3, 4, 5, 6, 7, 8, 9, 10, 13, 14, 31, 32, 63, 64, 99, 100, 126, 127, 128, 255, 624, 999, 1000, 15624, 15625,
        1 << 30, Integer.MAX_VALUE};

    /** The class without its comments. */
    private final String code;
    private final String[] lines;
    /** What each method calls, by the names alone: methods of the same name count as one. */
    private final Map<String, Set<String>> calls = new HashMap<>();

    private LanguageTest(String text) {
        Check.holds("plain signs alone", text.chars().allMatch(c -> c == '\n' || (c >= 32 && c < 127)));
        code = text.replaceAll("(?s)/\\*.*?\\*/", "").replaceAll("//[^\n]*", "");
        lines = code.split("\n");
    }

    public static void main(String[] args) throws Exception {
        Path file = Path.of("src/main/java/WokenOnce.java");
        LanguageTest test = new LanguageTest(Files.readString(file, StandardCharsets.UTF_8));
        test.rule1NamesOfTheFace();
        test.rule2ClassesInside();
        test.rule3Types();
        test.rule4Library();
        test.rule5StaticFields();
        test.rule6RuledOut();
        rule7NoCallThrows();
        test.gatherCalls();
        test.rule8NoRecursion();
        test.rule9LoopsEnd();
        test.rule10NoTexts();
        test.rule11Sizes();
        test.rule12ObjectsOfFieldsAlone();
        rule12Room();
        rule13SameAnswers();
        Check.end("LanguageTest");
    }

    private void none(String rule, String sign) {
        Matcher found = Pattern.compile(sign).matcher(code);
        Check.holds(rule + ": there is no " + sign, !found.find());
    }

    private static List<Class<?>> classes() {
        List<Class<?>> classes = new ArrayList<>(List.of(WokenOnce.class));
        classes.addAll(Arrays.asList(WokenOnce.class.getDeclaredClasses()));
        return classes;
    }

    private static List<String> publicNames() {
        return Arrays.stream(WokenOnce.class.getDeclaredMethods())
            .filter(method -> Modifier.isPublic(method.getModifiers())).map(Method::getName).toList();
    }

    /** "No private method bears the name of a public one." */
    private void rule1NamesOfTheFace() {
        List<String> names = publicNames();
        Check.due("public methods, each name once", names.stream().distinct().count(), 27);
        for (Class<?> own : classes()) {
            for (Method method : own.getDeclaredMethods()) {
                boolean told = own == WokenOnce.class && Modifier.isPublic(method.getModifiers());
                Check.holds(method + " does not bear a public name", told || !names.contains(method.getName()));
            }
        }
        none("rule 1", "\\bprotected\\b");
        none("rule 1", "\\bpackage\\b");
    }

    /** "static nested classes ... No inner class that isn't static, no local or anonymous class, no lambda" */
    private void rule2ClassesInside() {
        for (Class<?> own : WokenOnce.class.getDeclaredClasses()) {
            Check.holds(own + " is static", Modifier.isStatic(own.getModifiers()));
            Check.holds(own + " is not public", !Modifier.isPublic(own.getModifiers()));
            Check.due(own + " has no class inside", own.getDeclaredClasses().length, 0);
        }
        long told = Arrays.stream(lines).filter(line -> line.matches(".*\\b(class|enum|record|interface) .*")).count();
        Check.due("classes by the text are those at run time", told, classes().size());
        none("rule 2", "->");
        none("rule 2", "::");
        none("rule 2", "new \\w+\\([^)]*\\) *\\{");
    }

    /** "int, long, ..., boolean; arrays of these of one dimension; your own classes" */
    private void rule3Types() {
        Set<String> own = new TreeSet<>(List.of("int", "long", "boolean", "int[]", "long[]"));
        classes().forEach(c -> own.add(c.getSimpleName()));
        for (Class<?> c : classes()) {
            for (Field field : c.getDeclaredFields()) {
                Check.holds("the type of " + field, own.contains(field.getType().getSimpleName()));
            }
            for (Method method : c.getDeclaredMethods()) {
                for (Class<?> type : method.getParameterTypes()) {
                    Check.holds("a type in " + method, own.contains(type.getSimpleName()));
                }
            }
        }
        none("rule 3", "\\b(double|float|Object|var)\\b");
    }

    /** "The library: only what stands here." */
    private void rule4Library() {
        Set<String> allowed = new TreeSet<>(List.of("Integer.bitCount", "Math.min", "System.arraycopy"));
        classes().forEach(c -> allowed.add(c.getSimpleName()));
        Matcher found = Pattern.compile("\\b([A-Z][a-z]\\w*)(\\.\\w+)?").matcher(code);
        while (found.find()) {
            Check.holds(found.group() + " is the class's own or of the list",
                allowed.contains(found.group()) || allowed.contains(found.group(1)));
        }
        none("rule 4", "\\bimport\\b");
        none("rule 4", "Exact\\(");
    }

    /** "Static fields are final ... No other static state, no static initialiser block." */
    private void rule5StaticFields() {
        for (Class<?> own : classes()) {
            for (Field field : own.getDeclaredFields()) {
                boolean isStatic = Modifier.isStatic(field.getModifiers());
                Check.holds("what is static is final: " + field, !isStatic || Modifier.isFinal(field.getModifiers()));
            }
        }
        none("rule 5", "\\bstatic *\\{");
        none("rule 5", "POWERS_OF_\\w+\\[[^\\]]*\\] *=[^=]");
    }

    private void rule6RuledOut() {
        for (String word : new String[] {"throw", "throws", "try", "catch", "finally", "synchronized", "assert", "native",
            "volatile", "transient", "instanceof", "equals", "hashCode", "toString"}) {
            none("rule 6", "\\b" + word + "\\b");
        }
        none("rule 6", "@");
    }

    /** "No call may ever throw or fail to end, for any arguments in any state": each call with wild ones in each scene. */
    private static void rule7NoCallThrows() throws Exception {
        for (Scene scene : Scene.values()) {
            for (Method method : WokenOnce.class.getDeclaredMethods()) {
                if (Modifier.isPublic(method.getModifiers())) {
                    wildly(scene, method);
                }
            }
        }
    }

    private static void wildly(Scene scene, Method method) throws Exception {
        int many = method.getParameterCount();
        int rounds = (int) Math.pow(WILD.length, Math.min(many, 2));
        WokenOnce x = null;
        for (int round = 0; round < rounds; round++) {
            x = round % 300 == 0 ? scene.make() : x;
            Object[] args = new Object[many];
            for (int i = 0; i < many; i++) {
                int wild = WILD[(i == 1 ? round / WILD.length : round + 7 * i) % WILD.length];
                args[i] = method.getParameterTypes()[i] == long.class ? (Object) (wild * 0x100010001L) : wild;
            }
            Object answer = method.invoke(x, args);
            Check.holds(method.getName() + Arrays.toString(args) + " answers", answer instanceof Number);
        }
    }

    private void gatherCalls() {
        Pattern begun = Pattern.compile("(    |        )(?!return|else)[a-z][\\w \\[\\]<>]* (\\w+)\\(.*\\) \\{");
        Pattern called = Pattern.compile("(\\w+)\\(");
        String name = null;
        for (String line : lines) {
            Matcher method = begun.matcher(line);
            if (method.matches()) {
                name = method.group(2);
                calls.computeIfAbsent(name, key -> new TreeSet<>());
            } else if (name != null) {
                Matcher call = called.matcher(line);
                while (call.find()) {
                    calls.get(name).add(call.group(1));
                }
            }
        }
        Set<String> found = new TreeSet<>(Set.of("WokenOnce"));
        for (Class<?> own : classes()) {
            for (Method method : own.getDeclaredMethods()) {
                if (!method.isSynthetic()) {
                    found.add(method.getName());
                }
            }
        }
        Check.holds("by the text " + calls.keySet() + ", at run time " + found, found.equals(calls.keySet()));
    }

    /** How many calls stand open at once at most, this one among them; more than a hundred if there is no end. */
    private int depth(String name, int open) {
        int deepest = 0;
        for (String called : calls.get(name)) {
            if (open < 100 && calls.containsKey(called)) {
                deepest = Math.max(deepest, depth(called, open + 1));
            }
        }
        return deepest + 1;
    }

    private void rule8NoRecursion() {
        for (String name : calls.keySet()) {
            Check.holds(name + " does not come back to itself", depth(name, 0) < 100);
        }
    }

    /** "Every loop has an end that can be seen from its own lines (a counter against a bound ..)" */
    private void rule9LoopsEnd() {
        int loops = 0;
        for (String line : lines) {
            if (line.contains("for (")) {
                loops++;
                Check.holds("a counter: " + line,
                    line.matches(" +for \\(int (\\w+) = [^;]+; \\1 (<|<=|>=) [^;]+; \\1(\\+\\+|--)\\) \\{")
                    || line.matches(" +for \\(int (\\w+) = [^;]+; [^;]*\\b\\1 (<|<=|>=) [^;]+; \\1(\\+\\+|--)\\) \\{"));
            }
        }
        Check.holds("there are loops", loops > 20);
        none("rule 9", "\\bwhile\\b");
        none("rule 9", "\\bdo\\b");
    }

    private void rule10NoTexts() {
        none("rule 10", "\"");
        none("rule 10", "\\bgoto\\b");
    }

    /** "at most seven parameters ... some sixty lines ... at most eight deep ... some twelve classes ... twenty fields" */
    private void rule11Sizes() {
        Check.holds("some twelve classes", classes().size() <= 12);
        for (Class<?> own : classes()) {
            long fields = Arrays.stream(own.getDeclaredFields())
                .filter(field -> !Modifier.isStatic(field.getModifiers())).count();
            Check.holds(own + " has some twenty fields", fields <= 20);
            for (Method method : own.getDeclaredMethods()) {
                Check.holds("seven parameters at most: " + method, method.getParameterCount() <= 7);
            }
        }
        for (String name : calls.keySet()) {
            Check.holds(name + " goes eight deep at most: " + depth(name, 0), depth(name, 0) <= 8);
        }
        int begun = -1;
        for (int i = 0; i < lines.length; i++) {
            boolean method = lines[i].matches("    (    )?[a-z].*\\) \\{") && !lines[i].contains(" class ");
            begun = method ? i : begun;
            if (lines[i].matches("    (    )?}") && begun >= 0) {
                Check.holds("some sixty lines at most from '" + lines[begun] + "'", i - begun <= 60);
                begun = -1;
            }
        }
    }

    /** "make rows in constructors and use them again": an object is made where a field is, and nowhere else. */
    private void rule12ObjectsOfFieldsAlone() {
        for (String line : lines) {
            if (line.matches(".*\\bnew\\b.*")) {
                Check.holds("only fields make objects: " + line, line.matches(" +(private )?final .* = new .*;"));
            }
        }
    }

    /** No call makes an object, so any number of calls lives in the room of the constructor's. */
    private static void rule12Room() {
        com.sun.management.ThreadMXBean threads =
            (com.sun.management.ThreadMXBean) ManagementFactory.getThreadMXBean();
        WokenOnce x = Scene.CROWDED.make();
        allCalls(x);
        long id = Thread.currentThread().getId();
        long before = threads.getThreadAllocatedBytes(id);
        before = threads.getThreadAllocatedBytes(id);
        long sum = 0;
        for (int i = 0; i < 12; i++) {
            sum += allCalls(x);
        }
        long made = threads.getThreadAllocatedBytes(id) - before;
        Check.holds("calls make no objects, made " + made + " bytes " + (sum == 0 ? "" : "."), made < 10000);
    }

    private static long allCalls(WokenOnce x) {
        long sum = x.evening() + x.letters(97) + x.fault(0) + x.fault(1) + x.bell() + x.rule() + x.blank();
        sum += x.tenths(0, 0) + x.sleeper(0, 0) + x.skill(0, 0, 3) + x.harm(0, 40) + x.about(0, 3) + x.as(4, 2);
        sum += x.come(0, 3) + x.best(0) + x.whom(1) + x.worst() + x.known(3124) + x.byRule(1) + x.worth(2, 0);
        sum += x.roster(12) + x.seen(5) + x.sure(5, 2) + x.night(7, 0) + x.night(7, 1) + x.night(7, 2);
        return sum + x.image() + x.restore() + x.count(3) + x.digest();
    }

    /** "the same calls always give the same answers" */
    private static void rule13SameAnswers() throws Exception {
        Method[] methods = WokenOnce.class.getDeclaredMethods();
        Arrays.sort(methods, Comparator.comparing(Method::getName));
        for (Scene scene : Scene.values()) {
            WokenOnce x = scene.make();
            WokenOnce y = scene.make();
            for (Method method : methods) {
                if (Modifier.isPublic(method.getModifiers())) {
                    Object[] args = new Object[method.getParameterCount()];
                    for (int i = 0; i < args.length; i++) {
                        args[i] = method.getParameterTypes()[i] == long.class ? (Object) 97L : 1;
                    }
                    Object answer = method.invoke(x, args);
                    Check.holds(method.getName() + " in " + scene, answer.equals(method.invoke(y, args)));
                }
            }
            Check.holds("both tell alike", Told.by(x).equals(Told.by(y)));
        }
    }
}
