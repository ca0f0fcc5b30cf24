import java.io.IOException;
import java.nio.file.Files;
import java.nio.file.Path;
import java.util.ArrayList;
import java.util.List;
import java.util.regex.Matcher;
import java.util.regex.Pattern;
import java.util.stream.Stream;

/**
 * The document against the tests named after its promises: what a test says it looks at stands there, and
 * each number and each refusal of a promise, or of the terms, is looked at by the promise's test, or by one.
 */
public final class SentencesTest {
    private static final Due due = new Due("sentences");
    private static final int PROMISES = 31;
    private static final Pattern SAYS = Pattern.compile("\\.says\\(\"(.*?)\"\\);");
    private static final Pattern EDGE = Pattern.compile("\\d+|NONE|BAD|STATE|FULL");

    private final String text;
    private final boolean[] looked;

    private SentencesTest(String text) {
        this.text = text;
        looked = new boolean[text.length()];
    }

    public static void main(String[] args) throws IOException {
        String document = Files.readString(Path.of("../shared/DOC.md"));
        // the code of the face and the lists of calls name no boundary
        String plain = document.replaceAll("(?s)## The public face.*?## Terms", "## Terms")
            .replaceAll("Ahead of the calls [^\\n]*", "").replaceAll("======== \\d ", "").replace("```text", "").replace("```", "").replaceAll("\\s+", " ");
        int firstPromise = plain.indexOf("## Promise 1:");
        SentencesTest terms = new SentencesTest(plain.substring(0, firstPromise));
        for (int n = 1; n <= PROMISES; n++) {
            SentencesTest promise = new SentencesTest(section(plain, n));
            promise.look(n, terms, plain);
            promise.edges("promise " + n);
        }
        terms.edges("the terms");
        due.end();
    }

    /** A promise behind its heading and its call. */
    private static String section(String plain, int n) {
        int start = plain.indexOf("## Promise " + n + ":");
        int end = plain.indexOf(" ## ", start);
        due.is("promise " + n + " is in the document", start >= 0 && end > start ? 1 : 0, 1);
        return plain.substring(plain.indexOf("`: ", start) + 3, end);
    }

    private void look(int n, SentencesTest terms, String plain) throws IOException {
        List<Path> files = filesOf(n);
        due.is("tests of promise " + n, files.size(), 1);
        for (Path file : files) {
            Matcher says = SAYS.matcher(Files.readString(file));
            int quotes = 0;
            while (says.find()) {
                String words = says.group(1);
                mark(words);
                terms.mark(words);
                due.is(file.getFileName() + ": \"" + words + "\" is in the document", plain.contains(words) ? 1 : 0, 1);
                quotes++;
            }
            due.is(file.getFileName() + " says what it looks at", quotes > 0 ? 1 : 0, 1);
        }
    }

    private static List<Path> filesOf(int n) throws IOException {
        List<Path> files = new ArrayList<>();
        String start = n < 10 ? "Promise0" + n : "Promise" + n;
        try (Stream<Path> all = Files.list(Path.of("src/test/java"))) {
            all.filter(f -> f.getFileName().toString().startsWith(start)).forEach(files::add);
        }
        return files;
    }

    private void mark(String words) {
        int at = text.indexOf(words);
        for (int i = at; at >= 0 && i < at + words.length(); i++) {
            looked[i] = true;
        }
    }

    private void edges(String name) {
        Matcher edge = EDGE.matcher(text);
        while (edge.find()) {
            String around = text.substring(Math.max(0, edge.start() - 40), Math.min(text.length(), edge.end() + 40));
            due.is(name + ": looked at " + edge.group() + " in \"" + around + "\"", looked[edge.start()] ? 1 : 0, 1);
        }
    }
}
