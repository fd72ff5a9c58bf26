import java.io.IOException;
import java.lang.reflect.Method;
import java.lang.reflect.Modifier;
import java.net.URL;
import java.net.URLClassLoader;
import java.nio.charset.StandardCharsets;
import java.nio.file.Files;
import java.nio.file.Path;
import java.util.Comparator;
import java.util.List;
import java.util.regex.Matcher;
import java.util.regex.Pattern;
import java.util.stream.Collectors;
import java.util.stream.Stream;

/** Compiles the lines of Java in README.md and runs them: each call answers what the page says behind it. */
public final class ReadmeTest {
    private static final Pattern BLOCK = Pattern.compile("(?s)```java\n(.*?)```");
    private static final Pattern CALL = Pattern.compile("((?:x\\.\\w+|tell)\\(.*\\)); +// (-?\\d+): .+");

    private static int calls = 0;
    private static int wrong = 0;

    private ReadmeTest() {
    }

    public static void main(String[] args)
            throws IOException, InterruptedException, ReflectiveOperationException {
        String page = Files.readString(Path.of("README.md"), StandardCharsets.UTF_8);
        namesAllCalls(page);
        run(program(page));
        System.out.println(wrong == 0
                ? "the page's " + calls + " answers are as due"
                : wrong + " things are not as due");
        if (wrong != 0 || calls == 0) {
            System.exit(1);
        }
    }

    /** Called by the program that is made of the page. */
    public static void due(String call, long got, long want) {
        calls++;
        if (got != want) {
            fail(call + " answered " + got + ", the page says " + want);
        }
    }

    private static void fail(String what) {
        wrong++;
        System.out.println(what);
    }

    private static void namesAllCalls(String page) {
        for (Method m : TinCans.class.getDeclaredMethods()) {
            if (Modifier.isPublic(m.getModifiers()) && !page.contains("`" + m.getName() + "`")) {
                fail("the page does not name " + m.getName());
            }
        }
    }

    private static String program(String page) {
        StringBuilder methods = new StringBuilder();
        StringBuilder lines = new StringBuilder();
        Matcher block = BLOCK.matcher(page);
        while (block.find()) {
            String code = block.group(1);
            if (code.startsWith("static ")) {
                methods.append(code);
                continue;
            }
            for (String line : code.split("\n")) {
                lines.append(line.startsWith("TinCans x = ") ? line : compared(line)).append('\n');
            }
        }
        return "public final class Page {\n" + methods + "public static void run() {\n" + lines + "}\n}\n";
    }

    private static String compared(String line) {
        Matcher m = CALL.matcher(line);
        if (!m.matches()) {
            fail("this line of the page is no call with its answer: " + line);
            return "";
        }
        String told = m.group(1).replace("\"", "\\\"");
        return "ReadmeTest.due(\"" + told + "\", " + m.group(1) + ", " + m.group(2) + "L);";
    }

    private static void run(String program)
            throws IOException, InterruptedException, ReflectiveOperationException {
        Path folder = Files.createTempDirectory("page");
        try {
            Path file = folder.resolve("Page.java");
            Files.writeString(file, program, StandardCharsets.UTF_8);
            Process javac = new ProcessBuilder("javac", "-cp", System.getProperty("java.class.path"),
                    "-d", folder.toString(), file.toString()).inheritIO().start();
            if (javac.waitFor() != 0) {
                fail("the page's lines don't compile");
                return;
            }
            try (URLClassLoader loader = new URLClassLoader(new URL[] {folder.toUri().toURL()})) {
                loader.loadClass("Page").getMethod("run").invoke(null);
            }
        } finally {
            remove(folder);
        }
    }

    private static void remove(Path folder) throws IOException {
        List<Path> all;
        try (Stream<Path> found = Files.walk(folder)) {
            all = found.sorted(Comparator.reverseOrder()).collect(Collectors.toList());
        }
        for (Path path : all) {
            Files.delete(path);
        }
    }
}
