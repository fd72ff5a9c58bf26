import java.io.IOException;
import java.lang.reflect.Field;
import java.lang.reflect.Method;
import java.lang.reflect.Modifier;
import java.nio.charset.StandardCharsets;
import java.nio.file.Files;
import java.nio.file.Path;
import java.util.ArrayList;
import java.util.List;
import java.util.Set;
import java.util.TreeSet;
import java.util.regex.Matcher;
import java.util.regex.Pattern;

/** The public face, name by name, and the rules of LANGUAGE.md that a program can look for. */
public final class FaceTest {
    private static final String[] FACE = {
        "int feed(int, int, int, int, int)", "int court(int)", "int fault(int)", "int window(int, int)",
        "int cross(int, int)", "int pair(int, int)", "int may(int)", "int tie(int, int)", "int cut(int)",
        "int knot(int)", "int tieAll(int)", "int pass(int)", "int damp(int)", "int gust(int, int)",
        "int best(int, int, int, int)", "int hears(int)", "int overhears(int, int)", "int needs(int, int)",
        "int openHours(int)", "int part(int)", "int parts()", "int stay(int)", "int brace()",
        "int both(int, int)", "int renewed(int, int)", "int exchange(int)", "int missing(int, int, int)",
        "int together(int, int)", "int shut(int, int)", "int web(int)", "int more()", "int calls(int, int)",
        "int echo(int, int)", "int explained(int, int, int)", "int numbers(int, int, int)",
        "long write(int, int, long)", "int copy(int)", "int image(int)", "int restore(int)", "int count(int)",
    };

    private static final Set<String> LIBRARY = Set.of("Arrays.fill", "Integer.bitCount", "Math.abs", "Math.max",
            "Math.min", "System.arraycopy");

    private static int wrong = 0;

    private FaceTest() {
    }

    public static void main(String[] args) throws IOException {
        face();
        String source = Files.readString(Path.of("src/main/java/TinCans.java"), StandardCharsets.ISO_8859_1);
        String document = Files.readString(Path.of("../shared/DOC.md"), StandardCharsets.UTF_8);
        faceAsTold(document);
        groupsAsTold(document, source);
        words(source);
        sizes();
        library(source);
        methods(source);
        System.out.println(wrong == 0 ? "the face is as due" : wrong + " things are not as due");
        if (wrong != 0) {
            System.exit(1);
        }
    }

    private static void want(boolean fine, String what) {
        if (!fine) {
            wrong++;
            System.out.println(what);
        }
    }

    private static void face() {
        TreeSet<String> due = new TreeSet<>();
        TreeSet<String> names = new TreeSet<>();
        for (String row : FACE) {
            due.add(row);
            names.add(row.substring(row.indexOf(' ') + 1, row.indexOf('(')));
        }
        TreeSet<String> shown = new TreeSet<>();
        for (Method m : TinCans.class.getDeclaredMethods()) {
            if (Modifier.isPublic(m.getModifiers())) {
                StringBuilder row = new StringBuilder(m.getReturnType() + " " + m.getName() + "(");
                for (Class<?> type : m.getParameterTypes()) {
                    row.append(row.charAt(row.length() - 1) == '(' ? "" : ", ").append(type);
                }
                shown.add(row.append(")").toString());
            } else {
                want(Modifier.isPrivate(m.getModifiers()), m + " can be seen");
                want(!names.contains(m.getName()), m + " bears the name of a public one");
            }
        }
        want(shown.equals(due), "the methods are " + shown + ", due are " + due);
        want(Modifier.isFinal(TinCans.class.getModifiers()), "the class is not final");
        want(TinCans.class.getConstructors().length == 1, "the constructors");
        for (Field f : TinCans.class.getDeclaredFields()) {
            boolean none = f.getName().equals("NONE") && Modifier.isPublic(f.getModifiers());
            want(none || Modifier.isPrivate(f.getModifiers()), f + " can be seen");
        }
        for (Class<?> inside : TinCans.class.getDeclaredClasses()) {
            want(Modifier.isStatic(inside.getModifiers()), inside + " is not static");
            for (Field f : inside.getDeclaredFields()) {
                boolean fine = !Modifier.isStatic(f.getModifiers()) || Modifier.isFinal(f.getModifiers());
                want(fine, f + " is static and not final");
            }
            for (Method m : inside.getDeclaredMethods()) {
                want(!names.contains(m.getName()), m + " bears the name of a public one");
            }
        }
    }

    /** The rows above are the document's own, less the names of parameters. */
    private static void faceAsTold(String document) {
        List<String> told = new ArrayList<>();
        Matcher m = Pattern.compile("(?m)^    public (int|long) (\\w+\\(.*\\));$").matcher(document);
        while (m.find()) {
            told.add(m.group(1) + " " + m.group(2).replaceAll("(int|long) \\w+", "$1"));
        }
        want(told.equals(List.of(FACE)), "the document's face is " + told);
        want(document.contains("public static final int NONE = -1;") && TinCans.NONE == -1, "NONE");
        want(document.contains("    public TinCans();"), "the document's constructor");
    }

    /** Ahead of calls stands what the document says the interface says there, and they come in its order. */
    private static void groupsAsTold(String document, String source) {
        Matcher m = Pattern.compile("Ahead of the calls (.*) the interface says: (---- .*)\\.").matcher(document);
        int groups = 0;
        while (m.find()) {
            groups++;
            int begin = source.indexOf("    // " + m.group(2) + "\n");
            want(begin >= 0, "the class does not say " + m.group(2));
            String group = begin < 0 ? "" : source.substring(begin, source.indexOf("    // ----", begin + 1));
            List<String> calls = new ArrayList<>();
            Matcher call = Pattern.compile("(?m)^    public \\w+ (\\w+)\\(").matcher(group);
            while (call.find()) {
                calls.add("`" + call.group(1) + "`");
            }
            want(String.join(", ", calls).equals(m.group(1)), "behind " + m.group(2) + " come " + calls);
        }
        want(groups == 6, "the document has " + groups + " groups of calls");
    }

    private static void words(String source) {
        String code = source.replaceAll("(?s)/\\*.*?\\*/", " ").replaceAll("//[^\\n]*", " ")
                .replaceAll("\"[^\"\\n]*\"", " ");
        Matcher m = Pattern.compile("\\b(throw|throws|try|catch|synchronized|assert|package|native|volatile|"
                + "transient)\\b|->|::|@").matcher(code);
        while (m.find()) {
            want(false, "the class uses " + m.group());
        }
        m = Pattern.compile("\\bimport\\s+([\\w.]+)").matcher(code);
        while (m.find()) {
            want(m.group(1).equals("java.util.Arrays"), "the class imports " + m.group(1));
        }
        for (int i = 0; i < source.length(); i++) {
            want(source.charAt(i) < 128, "the sign at " + i + " is above 127");
        }
    }

    private static void sizes() {
        Class<?>[] inside = TinCans.class.getDeclaredClasses();
        want(inside.length < 12, "there are " + inside.length + " classes inside");
        for (Class<?> type : inside) {
            int fields = 0;
            for (Field f : type.getDeclaredFields()) {
                fields += Modifier.isStatic(f.getModifiers()) ? 0 : 1;
            }
            want(fields <= 20, type + " has " + fields + " fields");
            for (Method m : type.getDeclaredMethods()) {
                want(m.getParameterCount() <= 7, m + " has too many parameters");
            }
        }
    }

    private static void library(String source) {
        Matcher m = Pattern.compile("\\b(Math|Arrays|Integer|Long|System)\\.(\\w+)").matcher(source);
        while (m.find()) {
            want(LIBRARY.contains(m.group(1) + "." + m.group(2)), "the class uses " + m.group());
        }
    }

    /** Methods stay short, and objects are made by the constructor and by fields alone. */
    private static void methods(String source) {
        String[] lines = source.split("\n");
        String head = "";
        int begin = 0;
        for (int i = 0; i < lines.length; i++) {
            boolean statement = lines[i].matches(" +(for|if|while|switch|} else) .*");
            if (lines[i].matches(" {4}( {4})?\\w[^=;]*\\) \\{") && !statement) {
                head = lines[i];
                begin = i;
            }
            if (lines[i].matches(" +}") && lines[i].indexOf('}') == head.indexOf(head.trim())) {
                want(i - begin < 60, head.trim() + " has " + (i - begin + 1) + " lines");
            }
            boolean makes = lines[i].matches(" +[^/* ].*\\bnew\\b.*");
            boolean field = lines[i].matches(" +private final .* = new .*");
            want(!makes || field || head.trim().equals("public TinCans() {"), "line " + (i + 1) + " makes an object");
        }
    }
}
