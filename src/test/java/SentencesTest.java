import java.io.IOException;
import java.lang.reflect.Method;
import java.nio.charset.StandardCharsets;
import java.nio.file.Files;
import java.nio.file.Path;
import java.util.ArrayList;
import java.util.Arrays;
import java.util.List;

/** No sentence of the document without a test: the list in src/test/sentences.txt against the document and the tests. */
public final class SentencesTest {
    private static final String NOTHING_TO_HOLD = "(nothing to hold)";

    private final List<String> sentences = new ArrayList<>();
    private final List<List<String>> tests = new ArrayList<>();

    public static void main(String[] args) throws Exception {
        SentencesTest test = new SentencesTest();
        test.read(Path.of("src/test/sentences.txt"));
        test.eachSentenceOfTheDocument(Path.of("../shared/DOC.md"));
        test.eachTestIsThere();
        Check.end("SentencesTest");
    }

    private void read(Path list) throws IOException {
        for (String line : Files.readAllLines(list, StandardCharsets.UTF_8)) {
            if (line.startsWith("    ")) {
                tests.add(Arrays.asList(line.trim().split(", ")));
            } else if (!line.isEmpty() && !line.startsWith("#")) {
                sentences.add(line);
            }
        }
        Check.due("each sentence has its tests", tests.size(), sentences.size());
    }

    /** The document as running words, without headings, without the code of the face (that is FaceTest's). */
    private static String words(String document) {
        String told = document.substring(document.indexOf("## What it is"), document.indexOf("## Not promised"));
        return told.replaceAll("(?s)```java.*?```", "").replaceAll("(?m)^(#|```).*$", "")
            .replaceAll("={8} \\d", "").replaceAll("\\s+", " ").trim();
    }

    private void eachSentenceOfTheDocument(Path document) throws IOException {
        if (!Files.exists(document)) {
            System.out.println("SentencesTest: there is no " + document + ", so the sentences are not held against it");
            return;
        }
        String words = words(Files.readString(document, StandardCharsets.UTF_8));
        for (String sentence : sentences) {
            boolean next = words.startsWith(sentence);
            Check.holds("next in the document is: " + sentence, next);
            words = next ? words.substring(sentence.length()).trim() : words;
        }
        Check.holds("no sentence is left over, found: " + words, words.isEmpty());
    }

    private void eachTestIsThere() throws Exception {
        for (int i = 0; i < tests.size(); i++) {
            for (String test : tests.get(i)) {
                if (!test.equals(NOTHING_TO_HOLD)) {
                    String[] names = test.split("\\.");
                    Check.holds(test + " is there", names.length == 2 && isThere(names[0], names[1]));
                    Check.holds(test + " is called", names.length == 2 && isCalled(names[0], names[1]));
                }
            }
        }
    }

    private static boolean isThere(String test, String method) throws Exception {
        return Arrays.stream(Class.forName(test).getDeclaredMethods()).map(Method::getName).anyMatch(method::equals);
    }

    /** It stands once where it is made, and once more where it is called. */
    private static boolean isCalled(String test, String method) throws IOException {
        String text = Files.readString(Path.of("src/test/java/" + test + ".java"), StandardCharsets.UTF_8);
        return text.split("\\b" + method + "\\(", -1).length > 2;
    }
}
