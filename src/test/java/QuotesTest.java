import java.io.IOException;
import java.nio.charset.StandardCharsets;
import java.nio.file.Files;
import java.nio.file.Path;
import java.util.List;
import java.util.regex.Matcher;
import java.util.regex.Pattern;
import java.util.stream.Collectors;
import java.util.stream.Stream;

/**
 * Every word of the document's 'Terms' and promises is quoted by a test (Script.says) under its promise's
 * number, so that a sentence that is new, or that was passed over, is seen.
 */
public final class QuotesTest {
    private static final int PROMISES = 41;
    private static final String TEXT = "\"((?:[^\"\\\\]|\\\\.)*)\"";
    private static final Pattern SAYS = Pattern.compile("says\\(\\s*(\\d+),\\s*(" + TEXT + "(?:\\s*\\+\\s*" + TEXT + ")*)");
    /** Headings, fences, faces of calls; what the interface says ahead of calls is looked at by FaceTest. */
    private static final Pattern FRAME = Pattern.compile("## Promise \\d+: .*?`[^`]*`:|## Terms|```(?:text)?|==== \\d\\."
            + "|The constants:|Ahead of the calls .*? the interface says: ---- [a-z, ]*\\.");

    private final String document;
    private final boolean[] quoted;
    private int quotes = 0;

    private QuotesTest(String document) {
        this.document = document;
        this.quoted = new boolean[document.length()];
    }

    public static void main(String[] args) throws IOException {
        QuotesTest test = new QuotesTest(read(Path.of("../shared/DOC.md")).replaceAll("\\s+", " "));
        test.passOver();
        for (Path file : sources()) {
            test.take(read(file));
        }
        int missed = test.tellMissed();
        System.out.println(missed == 0 ? "all is quoted, by " + test.quotes + " quotes" : missed + " stretches are not quoted");
        if (missed != 0) {
            System.exit(1);
        }
    }

    private static String read(Path file) throws IOException {
        return Files.readString(file, StandardCharsets.UTF_8);
    }

    private static List<Path> sources() throws IOException {
        try (Stream<Path> files = Files.list(Path.of("src/test/java"))) {
            return files.filter(file -> file.toString().endsWith(".java")).sorted().collect(Collectors.toList());
        }
    }

    private int beginOf(int promise) {
        return document.indexOf(promise == 0 ? "## Terms" : promise > PROMISES ? "## Not promised"
                : "## Promise " + promise + ":");
    }

    private void passOver() {
        Matcher m = FRAME.matcher(document);
        while (m.find()) {
            mark(m.start(), m.end());
        }
    }

    private void take(String source) {
        Matcher m = SAYS.matcher(source);
        while (m.find()) {
            int promise = Integer.parseInt(m.group(1));
            StringBuilder words = new StringBuilder();
            Matcher text = Pattern.compile(TEXT).matcher(m.group(2));
            while (text.find()) {
                words.append(text.group(1).replace("\\\"", "\""));
            }
            quotes++;
            markAll(words.toString().replaceAll("\\s+", " "), beginOf(promise), beginOf(promise + 1));
        }
    }

    private void markAll(String words, int begin, int end) {
        int at = document.indexOf(words, begin);
        while (at >= 0 && at + words.length() <= end) {
            mark(at, at + words.length());
            at = document.indexOf(words, at + 1);
        }
    }

    private void mark(int begin, int end) {
        for (int i = begin; i < end; i++) {
            quoted[i] = true;
        }
    }

    private int tellMissed() {
        int missed = 0;
        StringBuilder stretch = new StringBuilder();
        for (int i = beginOf(0); i <= beginOf(PROMISES + 1); i++) {
            if (!quoted[i] && i < beginOf(PROMISES + 1)) {
                stretch.append(document.charAt(i));
                continue;
            }
            if (stretch.toString().matches(".*[A-Za-z0-9].*")) {
                missed++;
                System.out.println("not quoted: " + stretch);
            }
            stretch.setLength(0);
        }
        return missed;
    }
}
