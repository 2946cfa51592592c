import java.lang.management.ManagementFactory;
import java.lang.reflect.Constructor;
import java.lang.reflect.Field;
import java.lang.reflect.Method;
import java.lang.reflect.Modifier;
import java.nio.charset.StandardCharsets;
import java.nio.file.Files;
import java.nio.file.Path;
import java.util.Arrays;
import java.util.List;
import java.util.Set;
import java.util.TreeSet;
import java.util.regex.Pattern;

/** The public face, the form that LANGUAGE.md asks for as far as a text shows it, and the room that calls take. */
public final class FaceTest {
    private static final Set<String> FACE = new TreeSet<>(List.of(
        "int letters(long)", "int blank()", "int fault(int)", "int bell()", "int rule()", "int tenths(int,int)",
        "int sleeper(int,int)", "int skill(int,int,int)", "int harm(int,int)", "int about(int,int)",
        "int as(int,int)", "int come(int,int)", "int evening()", "long best(int)", "int whom(int)", "int worst()",
        "int known(int)", "long byRule(int)", "long worth(int,int)", "int roster(int)", "int seen(int)",
        "int sure(int,int)", "int night(int,int)", "int image()", "int restore()", "int count(int)",
        "long digest()"));
    private static final List<String> CONSTANTS = List.of("NONE", "UNKNOWN", "OUTSIDE", "STATE", "FULL");
    private static final String[] RULED_OUT = {"\\bthrow\\b", "\\bthrows\\b", "\\btry\\b", "\\bcatch\\b",
        "\\bsynchronized\\b", "\\bassert\\b", "\\bimport\\b", "\\bpackage\\b", "\\bprotected\\b", "->", "::", "@",
        "\\bgoto\\b", "\\bnative\\b", "\\bvolatile\\b", "Exact\\(", "\\bObject\\b", "\\bThread\\b", "\\bRandom\\b",
        "\\bwhile\\b", "System\\.(?!arraycopy)", "\\bdouble\\b", "\\bfloat\\b"};

    public static void main(String[] args) throws Exception {
        face();
        constants();
        source(Files.readString(Path.of("src/main/java/WokenOnce.java"), StandardCharsets.UTF_8));
        room();
        Check.end("FaceTest");
    }

    private static void face() {
        Set<String> found = new TreeSet<>();
        for (Method method : WokenOnce.class.getDeclaredMethods()) {
            boolean told = Modifier.isPublic(method.getModifiers());
            Check.holds(method + " is public or private", told || Modifier.isPrivate(method.getModifiers()));
            if (told) {
                String types = Arrays.toString(method.getParameterTypes()).replaceAll("[\\[\\] ]", "");
                found.add(method.getReturnType() + " " + method.getName() + "(" + types + ")");
                Check.holds(method + " is no static one", !Modifier.isStatic(method.getModifiers()));
            }
        }
        Check.holds("the methods are " + FACE + ", found " + found, FACE.equals(found));
        Constructor<?>[] made = WokenOnce.class.getDeclaredConstructors();
        Check.holds("one public constructor without parameters", made.length == 1
            && Modifier.isPublic(made[0].getModifiers()) && made[0].getParameterCount() == 0);
        Check.holds("public and final", Modifier.isPublic(WokenOnce.class.getModifiers())
            && Modifier.isFinal(WokenOnce.class.getModifiers()));
        Class<?>[] inside = WokenOnce.class.getDeclaredClasses();
        Check.holds("some twelve classes", inside.length < 12);
        for (Class<?> own : inside) {
            Check.holds(own + " is static", Modifier.isStatic(own.getModifiers()));
            Check.holds(own + " is not public", !Modifier.isPublic(own.getModifiers()));
            Check.holds(own + " has some twenty fields", own.getDeclaredFields().length <= 20);
        }
        for (Method method : WokenOnce.class.getDeclaredMethods()) {
            boolean told = Modifier.isPublic(method.getModifiers());
            Check.holds(method + " does not bear a public name",
                told || FACE.stream().noneMatch(name -> name.contains(" " + method.getName() + "(")));
        }
    }

    private static void constants() throws Exception {
        for (Field field : WokenOnce.class.getDeclaredFields()) {
            boolean told = CONSTANTS.contains(field.getName());
            Check.holds(field + " is public or private as told", Modifier.isPublic(field.getModifiers()) == told
                && Modifier.isPrivate(field.getModifiers()) == !told);
            Check.holds("what is static is final: " + field,
                !Modifier.isStatic(field.getModifiers()) || Modifier.isFinal(field.getModifiers()));
        }
        int[] values = {-1, -101, -102, -103, -104};
        for (int i = 0; i < values.length; i++) {
            Check.due(CONSTANTS.get(i), WokenOnce.class.getField(CONSTANTS.get(i)).getInt(null), values[i]);
        }
    }

    private static void source(String text) {
        Check.holds("plain signs alone", text.chars().allMatch(c -> c == '\n' || (c >= 32 && c < 127)));
        String code = text.replaceAll("(?s)/\\*.*?\\*/", "").replaceAll("//[^\n]*", "");
        for (String sign : RULED_OUT) {
            Check.holds("the class has no " + sign, !Pattern.compile(sign).matcher(code).find());
        }
        int begun = -1;
        String[] lines = text.split("\n");
        for (int i = 0; i < lines.length; i++) {
            String line = lines[i];
            boolean method = line.matches("    (    )?[a-z].*\\) \\{") && !line.contains(" class ");
            begun = method ? i : begun;
            if (line.matches("    (    )?}") && begun >= 0) {
                Check.holds("some sixty lines at most from line " + (begun + 1), i - begun <= 60);
                begun = -1;
            }
            if (method) {
                Check.holds("seven parameters at most: " + line, line.split(",").length <= 7);
            }
            if (line.matches(".*\\bnew\\b.*") && !line.contains("*")) {
                Check.holds("only fields make objects: " + line, line.matches(" +(private )?final .* = new .*;"));
            }
        }
    }

    /** No call makes an object, so any number of calls lives in the room of the constructor's. */
    private static void room() {
        com.sun.management.ThreadMXBean threads =
            (com.sun.management.ThreadMXBean) ManagementFactory.getThreadMXBean();
        WokenOnce x = new WokenOnce();
        for (int s = 0; s < 7; s++) {
            Check.bed(x, s % 5, s, 10 * s, 9 * s, 8 * s, 7 * s);
        }
        Check.ring(x, "a1b2c3d4/a1b2c3d4/a1b2c3d4/a1b2c3d4/a1b2c3d4/a1b2c3d4");
        Check.hang(x, "6543210+1");
        allCalls(x);
        long id = Thread.currentThread().getId();
        long before = threads.getThreadAllocatedBytes(id);
        before = threads.getThreadAllocatedBytes(id);
        long sum = 0;
        for (int i = 0; i < 12; i++) {
            sum += allCalls(x);
        }
        long made = threads.getThreadAllocatedBytes(id) - before;
        Check.holds("calls make no objects, made " + made + " bytes " + (sum == 0 ? "" : "."), made < 10000);
    }

    private static long allCalls(WokenOnce x) {
        long sum = x.evening() + x.letters(97) + x.fault(0) + x.fault(1) + x.bell() + x.rule() + x.blank();
        sum += x.tenths(0, 0) + x.sleeper(0, 0) + x.skill(0, 0, 3) + x.harm(0, 40) + x.about(0, 3) + x.as(4, 2);
        sum += x.come(0, 3) + x.best(0) + x.whom(1) + x.worst() + x.known(3124) + x.byRule(1) + x.worth(2, 0);
        sum += x.roster(12) + x.seen(5) + x.sure(5, 2) + x.night(7, 0) + x.night(7, 1) + x.night(7, 2);
        return sum + x.image() + x.restore() + x.count(3) + x.digest();
    }
}
