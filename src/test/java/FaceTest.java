import java.lang.reflect.Constructor;
import java.lang.reflect.Field;
import java.lang.reflect.Method;
import java.lang.reflect.Modifier;
import java.nio.charset.StandardCharsets;
import java.nio.file.Files;
import java.nio.file.Path;
import java.util.Arrays;
import java.util.LinkedHashMap;
import java.util.List;
import java.util.Map;
import java.util.Set;
import java.util.TreeSet;
import java.util.regex.Matcher;
import java.util.regex.Pattern;

/** The public face: its constants, constructor and methods, and no other; and their order under their headings. */
public final class FaceTest {
    private static final Set<String> FACE = new TreeSet<>(List.of(
        "int letters(long)", "int blank()", "int fault(int)", "int bell()", "int rule()", "int tenths(int,int)",
        "int sleeper(int,int)", "int skill(int,int,int)", "int harm(int,int)", "int about(int,int)",
        "int as(int,int)", "int come(int,int)", "int evening()", "long best(int)", "int whom(int)", "int worst()",
        "int known(int)", "long byRule(int)", "long worth(int,int)", "int roster(int)", "int seen(int)",
        "int sure(int,int)", "int night(int,int)", "int image()", "int restore()", "int count(int)",
        "long digest()"));
    private static final List<String> CONSTANTS = List.of("NONE", "UNKNOWN", "OUTSIDE", "STATE", "FULL");
    private static final Map<String, String> HEADINGS = Map.of(
        "texts", "letters blank fault bell rule tenths", "sleepers", "sleeper skill harm about as",
        "the night", "come evening", "what is best", "best whom worst known byRule worth roster",
        "in the morning", "seen sure night", "what is told of all", "image restore count digest");

    public static void main(String[] args) throws Exception {
        face();
        constants();
        headings(Files.readString(Path.of("src/main/java/WokenOnce.java"), StandardCharsets.UTF_8));
        Check.end("FaceTest");
    }

    private static void face() {
        Set<String> found = new TreeSet<>();
        for (Method method : WokenOnce.class.getDeclaredMethods()) {
            boolean told = Modifier.isPublic(method.getModifiers());
            Check.holds(method + " is public or private", told || Modifier.isPrivate(method.getModifiers()));
            if (told) {
                String types = Arrays.toString(method.getParameterTypes()).replaceAll("[\\[\\] ]", "");
                found.add(method.getReturnType() + " " + method.getName() + "(" + types + ")");
                Check.holds(method + " is no static one", !Modifier.isStatic(method.getModifiers()));
            }
        }
        Check.holds("the methods are " + FACE + ", found " + found, FACE.equals(found));
        Constructor<?>[] made = WokenOnce.class.getDeclaredConstructors();
        Check.holds("one public constructor without parameters", made.length == 1
            && Modifier.isPublic(made[0].getModifiers()) && made[0].getParameterCount() == 0);
        Check.holds("public and final", Modifier.isPublic(WokenOnce.class.getModifiers())
            && Modifier.isFinal(WokenOnce.class.getModifiers()));
    }

    private static void constants() throws Exception {
        for (Field field : WokenOnce.class.getDeclaredFields()) {
            boolean told = CONSTANTS.contains(field.getName());
            Check.holds(field + " is public or private as told", Modifier.isPublic(field.getModifiers()) == told
                && Modifier.isPrivate(field.getModifiers()) == !told);
            Check.holds("what is static is final: " + field,
                !Modifier.isStatic(field.getModifiers()) || Modifier.isFinal(field.getModifiers()));
        }
        int[] values = {-1, -101, -102, -103, -104};
        for (int i = 0; i < values.length; i++) {
            Check.due(CONSTANTS.get(i), WokenOnce.class.getField(CONSTANTS.get(i)).getInt(null), values[i]);
        }
    }

    /** "Ahead of the calls `letters`, .. the interface says: ---- texts": behind each heading just its calls. */
    private static void headings(String text) {
        Map<String, String> found = new LinkedHashMap<>();
        String heading = "";
        for (String line : text.split("\n")) {
            if (line.matches(" +// ---- .*")) {
                heading = line.replaceAll(" +// ---- ", "");
            }
            Matcher call = Pattern.compile("    public (?:int|long) (\\w+)\\(.*").matcher(line);
            if (call.matches()) {
                found.merge(heading, call.group(1), (all, more) -> all + " " + more);
            }
        }
        boolean none = found.keySet().equals(Set.of(""));
        Check.holds("the headings, if any, and their calls, found " + found, none || found.equals(HEADINGS));
    }
}
