import java.io.IOException;
import java.lang.reflect.Method;
import java.lang.reflect.Modifier;
import java.nio.charset.StandardCharsets;
import java.nio.file.Files;
import java.nio.file.Path;
import java.util.ArrayList;
import java.util.HashMap;
import java.util.List;
import java.util.Map;

/**
 * Calls told as texts, such as "tie(2, 9)", each with the answer that is due. Since a script keeps what it
 * has called, a refused call can be looked at beside a twin that never made it.
 */
final class Script {
    private static final String DOCUMENT = readDocument();
    private static final Map<String, Method> FACE = readFace();
    private static final int MOST_CALLS = 512;

    private static String sentence = "";
    private static int promise;
    private static int sentences;
    private static int answers;
    private static int wrong;

    private final TinCans cans = new TinCans();
    /** Calls that may have changed something; twins make these anew, and none of those that only looked. */
    private final List<String> log = new ArrayList<>();
    private int calls;

    /** What is tested from here on; promise 0 is for the document's 'Terms'. */
    static void says(int ofPromise, String words) {
        promise = ofPromise;
        sentence = words;
        sentences++;
        if (!DOCUMENT.contains(oneLine(words))) {
            wrong++;
            System.out.println("promise " + promise + ": the document does not say: " + words);
        }
    }

    static void end() {
        System.out.println(wrong == 0
                ? "all " + answers + " answers for " + sentences + " sentences are as due"
                : wrong + " answers are not as due");
        if (wrong != 0) {
            System.exit(1);
        }
    }

    /** A new object with a court that is told without a fault. */
    static Script of(String text) {
        Script x = new Script();
        long lines = x.tell(text);
        if (lines < 0) {
            compare("court of " + text, lines, 0);
        }
        return x;
    }

    /** Puts a text on the tape; behind its end come signs that would be a fault, were they read. */
    Script feed(String text) {
        for (String call : feeds(text)) {
            run(call);
        }
        return this;
    }

    Script told(String text, long lines) {
        compare("court of " + text, tell(text), lines);
        return this;
    }

    private long tell(String text) {
        feed(text);
        return run("court(" + text.length() + ")");
    }

    Script due(String call, long want) {
        compare(call, run(call), want);
        return this;
    }

    /** A call whose answer is of no matter here. */
    Script did(String call) {
        run(call);
        return this;
    }

    Script row(int row, int sort, long... numbers) {
        run("numbers(" + row + ", " + sort + ", " + numbers.length + ")");
        for (int i = 0; i < numbers.length; i++) {
            run("write(" + row + ", " + i + ", " + numbers[i] + ")");
        }
        return this;
    }

    /** The code that is due, and that all later calls answer as if the call had never been. */
    Script refused(String call, long code) {
        TinCans x = again();
        TinCans twin = again();
        compare(call, answer(x, call), code);
        compareLater(call, x, twin, true);
        compare(call, ask(call), code);
        return this;
    }

    /** The fault of a text that is told now, and that all stays with it but the fault itself. */
    Script faulty(String text, int kind, int place) {
        TinCans x = again();
        TinCans twin = again();
        for (String call : feeds(text)) {
            answer(x, call);
        }
        compare("court of " + text, answer(x, "court(" + text.length() + ")"), -30 - kind);
        compare("count(8) behind court of " + text, x.count(8), 0);
        compare("fault(0) of " + text, x.fault(0), kind);
        compare("fault(1) of " + text, x.fault(1), place);
        compareLater("court of " + text, x, twin, false);
        return this;
    }

    /** A call that only looks: asked again it answers the same, and all later calls answer as without it. */
    Script looks(String call, long want) {
        TinCans x = again();
        TinCans twin = again();
        compare(call, answer(x, call), want);
        compare(call + " once more", answer(x, call), want);
        compareLater(call, x, twin, true);
        compare(call, ask(call), want);
        return this;
    }

    // ---- the twins

    private TinCans again() {
        TinCans x = new TinCans();
        for (String call : log) {
            answer(x, call);
        }
        return x;
    }

    private void compareLater(String call, TinCans x, TinCans twin, boolean withFault) {
        List<String> later = later(twin.count(0), withFault);
        if (log.size() + later.size() + 30 > MOST_CALLS) {
            compare("calls on one object, at " + call, log.size() + later.size() + 30, MOST_CALLS);
        }
        for (String next : later) {
            compare(next + " behind " + call, answer(x, next), answer(twin, next));
        }
    }

    /** Looks at all there is, then goes on: strings, hours, rows, the tape, images. */
    private static List<String> later(int windows, boolean withFault) {
        List<String> calls = new ArrayList<>();
        if (withFault) {
            calls.add("fault(0)");
            calls.add("fault(1)");
        }
        addCounts(calls);
        for (int a = 0; a < windows; a++) {
            calls.add("window(" + a + ", 0)");
            calls.add("window(" + a + ", 3)");
            for (int b = a + 1; b < windows; b++) {
                calls.add("pair(" + (20 * a + b) + ", 1)");
            }
        }
        calls.add("hears(0)");
        calls.add("more()");
        for (int row = 0; row < 4; row++) {
            addRow(calls, row);
        }
        for (int b = 1; b < windows; b++) {
            calls.add("openHours(" + b + ")");
        }
        calls.add("gust(4711, 25)");
        calls.add("pass(1)");
        addCounts(calls);
        calls.add("court(" + 20 + ")");
        calls.add("count(8)");
        calls.add("feed(0, 0, 0, 0, 0)");
        for (int image = 0; image < 2; image++) {
            calls.add("restore(" + image + ")");
            addCounts(calls);
        }
        return calls;
    }

    private static void addCounts(List<String> calls) {
        for (int what = 0; what < 10; what++) {
            calls.add("count(" + what + ")");
        }
    }

    private static void addRow(List<String> calls, int row) {
        calls.add("together(" + row + ", 1)");
        calls.add("together(" + row + ", 2)");
        calls.add("shut(" + row + ", 0)");
        calls.add("shut(" + row + ", 39)");
        calls.add("calls(" + row + ", 1)");
        calls.add("explained(0, " + row + ", 0)");
        calls.add("explained(0, " + row + ", 1)");
        calls.add("tieAll(" + row + ")");
        calls.add("write(" + row + ", 0, 4886718345)");
    }

    // ---- calls from texts

    private long run(String call) {
        log.add(call);
        return ask(call);
    }

    private long ask(String call) {
        calls++;
        if (calls > MOST_CALLS) {
            compare("calls on one object", calls, MOST_CALLS);
        }
        return answer(cans, call);
    }

    private static void compare(String call, long got, long want) {
        answers++;
        if (got != want) {
            wrong++;
            System.out.println("promise " + promise + ", '" + sentence + "': " + call + " answered " + got
                    + ", due is " + want);
        }
    }

    private static List<String> feeds(String text) {
        StringBuilder padded = new StringBuilder(text);
        while (padded.length() % 20 != 0) {
            padded.append('?');
        }
        List<String> calls = new ArrayList<>();
        for (int i = 0; i < padded.length(); i += 20) {
            StringBuilder call = new StringBuilder("feed(");
            for (int k = 0; k < 20; k += 4) {
                int word = 0;
                for (int j = 0; j < 4; j++) {
                    word = word << 8 | padded.charAt(i + k + j) & 255;
                }
                call.append(k == 0 ? "" : ", ").append(word);
            }
            calls.add(call.append(")").toString());
        }
        return calls;
    }

    static long answer(TinCans x, String call) {
        int open = call.indexOf('(');
        String inside = call.substring(open + 1, call.length() - 1).trim();
        String[] told = inside.isEmpty() ? new String[0] : inside.split(", ");
        Method m = FACE.get(call.substring(0, open));
        if (m == null || m.getParameterCount() != told.length) {
            throw new IllegalArgumentException("there is no call " + call);
        }
        return invoke(x, m, told);
    }

    private static Map<String, Method> readFace() {
        Map<String, Method> face = new HashMap<>();
        for (Method m : TinCans.class.getDeclaredMethods()) {
            if (Modifier.isPublic(m.getModifiers())) {
                face.put(m.getName(), m);
            }
        }
        return face;
    }

    private static long invoke(TinCans x, Method m, String[] told) {
        Object[] arguments = new Object[told.length];
        for (int i = 0; i < told.length; i++) {
            long number = valueOf(told[i]);
            arguments[i] = m.getParameterTypes()[i] == long.class ? (Object) number : (Object) (int) number;
        }
        try {
            return ((Number) m.invoke(x, arguments)).longValue();
        } catch (ReflectiveOperationException e) {
            throw new IllegalStateException(m.getName() + " threw", e);
        }
    }

    private static long valueOf(String told) {
        switch (told) {
            case "MIN":
                return Integer.MIN_VALUE;
            case "MAX":
                return Integer.MAX_VALUE;
            default:
                return Long.parseLong(told);
        }
    }

    // ---- the document

    private static String readDocument() {
        try {
            return oneLine(Files.readString(Path.of("../shared/DOC.md"), StandardCharsets.UTF_8));
        } catch (IOException e) {
            throw new IllegalStateException("../shared/DOC.md can't be read", e);
        }
    }

    private static String oneLine(String text) {
        return text.replaceAll("\\s+", " ");
    }
}
