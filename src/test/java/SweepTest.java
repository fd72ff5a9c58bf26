import java.lang.reflect.InvocationTargetException;
import java.lang.reflect.Method;
import java.lang.reflect.Modifier;
import java.util.ArrayList;
import java.util.Arrays;
import java.util.Comparator;
import java.util.HashMap;
import java.util.List;
import java.util.Map;

/**
 * Promises 2 to 41: every call with every number at and around every bound of the document, all against all,
 * in courts from none to full, TinCans beside the model.
 */
public final class SweepTest {
    private static final int MOST_CALLS = 512;
    private static final int MIN = Integer.MIN_VALUE;
    private static final int MAX = Integer.MAX_VALUE;

    /** For calls of one number: all of them where bounds are, and the ends of the ints. */
    private static final int[] ONE = oneByOne();
    private static final int[] TWO = {MIN, MIN + 1, -21, -20, -2, -1, 0, 1, 2, 3, 4, 5, 6, 9, 10, 11, 12, 19, 20, 21, 22,
        23, 24, 25, 40, 41, 43, 49, 50, 60, 61, 64, 99, 100, 111, 211, 212, 231, 232, 240, 400, MAX - 1, MAX};
    private static final int[] THREE = {MIN, -1, 0, 1, 2, 3, 4, 5, 6, 11, 12, 39, 40, 41, MAX};
    private static final int[] BEST_WINDOWS = {-1, 0, 1, 2, 3, 5, 6, 11, 12};
    private static final int[] BEST_PAST = {MIN, -1, 0, 1, 2, 4, 6, 8, 16, 32, 64, 2048, 4096, 4092, MAX};
    private static final int[] BEST_WHAT = {MIN, -1, 0, 1, 2, 9, 10, 11, 12, 13, 15, 16, 20, 21, 22, MAX};

    private static final String[] SCENES = {
        "",
        "windows 3;string 0 1;string 1 2 knots 9;",
        "windows 4;heard 7;wash 0 2 2049;string 0 1;string 1 2 knots 1;string 2 3;string 1 3 knots 8;damp 20;",
        "windows 6;cans 0 2;cans 5 1;damp 7;heard 20;wash 0 3 1;wash 5 2 4094;string 0 1;string 1 2 knots 1;"
                + "string 2 4;string 0 4 knots 2;",
        "windows 12;cans 0 11;damp 3;heard 120;wash 1 3 1365;wash 11 9 4095;string 0 1;string 0 2;string 0 3;"
                + "string 0 4;string 0 5 knots 2;string 0 6;string 0 7;string 0 8;string 0 9;string 0 10;string 0 11;"
                + "string 1 2;string 2 3;string 3 4;string 4 5;string 5 6;string 6 7;string 7 8 knots 9;string 8 9;"
                + "string 9 10;string 10 11;",
    };

    private final String scene;
    private TinCans cans;
    private Model model;
    private int calls = MOST_CALLS;
    private static final Map<String, Method> MODEL = modelCalls();
    private static int compared;
    private static int wrong;

    private SweepTest(String scene) {
        this.scene = scene;
    }

    public static void main(String[] args) throws ReflectiveOperationException {
        List<Method> face = new ArrayList<>();
        for (Method m : TinCans.class.getDeclaredMethods()) {
            if (Modifier.isPublic(m.getModifiers())) {
                face.add(m);
            }
        }
        face.sort(Comparator.comparing(Method::getName));
        for (String scene : SCENES) {
            for (Method m : face) {
                new SweepTest(scene).sweep(m);
            }
        }
        System.out.println(wrong == 0 ? "model and class agree over " + compared + " calls" : "they differ");
        if (wrong != 0) {
            System.exit(1);
        }
    }

    private static int[] oneByOne() {
        List<Integer> all = new ArrayList<>(Arrays.asList(MIN, MIN + 1, MAX - 1, MAX, 899, 900, 901, 1 << 16));
        for (int i = -45; i <= 300; i++) {
            all.add(i);
        }
        return all.stream().mapToInt(Integer::intValue).toArray();
    }

    private static Map<String, Method> modelCalls() {
        Map<String, Method> found = new HashMap<>();
        for (Method m : Model.class.getDeclaredMethods()) {
            if (!Modifier.isPrivate(m.getModifiers())) {
                found.put(m.getName() + m.getParameterCount(), m);
            }
        }
        return found;
    }

    private void sweep(Method m) throws ReflectiveOperationException {
        int[][] values;
        switch (m.getParameterCount()) {
            case 0:
                values = new int[0][];
                break;
            case 1:
                values = new int[][] {ONE};
                break;
            case 2:
                values = new int[][] {TWO, TWO};
                break;
            case 3:
                values = new int[][] {THREE, THREE, THREE};
                break;
            case 4:
                values = new int[][] {BEST_WINDOWS, BEST_WINDOWS, BEST_PAST, BEST_WHAT};
                break;
            default:
                int[] bytes = {0, -1};
                values = new int[][] {bytes, bytes, bytes, bytes, bytes};
                break;
        }
        all(m, values, new Object[values.length], 0);
    }

    private void all(Method m, int[][] values, Object[] arguments, int place) throws ReflectiveOperationException {
        if (place == values.length) {
            compare(m, arguments);
            return;
        }
        for (int value : values[place]) {
            boolean wide = m.getParameterTypes()[place] == long.class;
            arguments[place] = wide ? (Object) (long) value : (Object) value;
            all(m, values, arguments, place + 1);
        }
    }

    /** An object lives for 512 calls; then the scene is set anew. */
    private void compare(Method m, Object[] arguments) throws ReflectiveOperationException {
        if (calls + 12 > MOST_CALLS) {
            setScene();
        }
        both(m, arguments);
        both(TinCans.class.getMethod("count", int.class), compared % 10);
        both(TinCans.class.getMethod("more"));
    }

    private void setScene() throws ReflectiveOperationException {
        cans = new TinCans();
        model = new Model();
        calls = 0;
        int[] words = new int[5];
        for (int i = 0; i < scene.length(); i += 20) {
            for (int k = 0; k < 20; k++) {
                char sign = i + k < scene.length() ? scene.charAt(i + k) : '?';
                words[k / 4] = words[k / 4] << 8 | sign;
            }
            calls++;
            cans.feed(words[0], words[1], words[2], words[3], words[4]);
            model.feed(words[0], words[1], words[2], words[3], words[4]);
        }
        call("court", scene.length());
        if (cans.count(9) == 0 && !scene.isEmpty()) {
            throw new IllegalStateException("a scene's text has a fault: " + scene);
        }
        int windows = model.count(0);
        // pairs, echoes from 0, more pairs than can be strung together; the last row is missing
        call("numbers", 0, 1, 5);
        call("numbers", 1, 0, windows);
        call("numbers", 2, 3, 40);
        for (int i = 0; i < 40; i++) {
            call("write", 2, i, (long) (21 * (i % Math.max(1, windows - 1)) + 1));
            if (i < 5) {
                call("write", 0, i, (long) (i < windows - 1 ? i + 1 : 22));
            }
            if (i < windows) {
                call("write", 1, i, (long) (i == 0 ? 0 : i == windows - 1 ? 2 : 1));
            }
        }
        call("image", 1);
    }

    private void call(String name, Object... arguments) throws ReflectiveOperationException {
        for (Method m : TinCans.class.getDeclaredMethods()) {
            if (m.getName().equals(name) && Modifier.isPublic(m.getModifiers())) {
                both(m, arguments);
            }
        }
    }

    private void both(Method m, Object... arguments) throws ReflectiveOperationException {
        calls++;
        compared++;
        Object want = MODEL.get(m.getName() + arguments.length).invoke(model, arguments);
        Object got;
        try {
            got = m.invoke(cans, arguments);
        } catch (InvocationTargetException e) {
            got = e.getCause();
        }
        if (!want.equals(got) && wrong < 20) {
            wrong++;
            System.out.println("in '" + scene + "' " + m.getName() + Arrays.toString(arguments) + " answered " + got
                    + ", due is " + want);
        }
    }
}
