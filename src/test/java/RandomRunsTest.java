import java.lang.reflect.InvocationTargetException;
import java.lang.reflect.Method;
import java.util.ArrayList;
import java.util.Arrays;
import java.util.Comparator;
import java.util.List;
import java.util.Random;

/** Promises 1 to 41: long runs of drawn calls, TinCans beside the model that tries everything out. */
public final class RandomRunsTest {
    private static final int RUNS = Integer.getInteger("runs", 400);
    private static final int CALLS = 512;

    private final Random random;
    private final TinCans cans = new TinCans();
    private final Model model = new Model();
    private final List<String> log = new ArrayList<>();
    private int calls;
    private int windows;
    private boolean wrong;

    private RandomRunsTest(long seed) {
        random = new Random(seed);
    }

    public static void main(String[] args) throws ReflectiveOperationException {
        int failed = 0;
        long first = Long.getLong("seed", 1L);
        for (long seed = first; seed < first + RUNS && failed < 5; seed++) {
            RandomRunsTest run = new RandomRunsTest(seed);
            run.go();
            if (run.wrong) {
                failed++;
                System.out.println("seed " + seed);
                List<String> log = run.log;
                for (String row : log.subList(Math.max(0, log.size() - 60), log.size())) {
                    System.out.println("  " + row);
                }
            }
        }
        System.out.println(failed == 0 ? "model and class agree over " + RUNS + " runs" : "they differ");
        if (failed != 0) {
            System.exit(1);
        }
    }

    private void go() throws ReflectiveOperationException {
        Method[] methods = Model.class.getDeclaredMethods();
        List<Method> face = new ArrayList<>();
        for (Method m : TinCans.class.getDeclaredMethods()) {
            if (java.lang.reflect.Modifier.isPublic(m.getModifiers())) {
                face.add(m);
            }
        }
        face.sort(Comparator.comparing(Method::getName));
        Arrays.sort(methods, Comparator.comparing(Method::getName));
        if (random.nextInt(10) > 0) {
            tellCourt();
        }
        while (calls < CALLS && !wrong) {
            int pick = random.nextInt(100);
            if (pick < 2) {
                tellCourt();
            } else if (pick < 5) {
                fillRow();
            } else if (pick < 7) {
                fillTold();
            } else if (pick < 15) {
                call("tie", pair(), random.nextInt(11) - (random.nextInt(30) == 0 ? 1 : 0));
            } else {
                Method m = face.get(random.nextInt(face.size()));
                if (m.getName().equals("court") && random.nextInt(4) > 0) {
                    continue;
                }
                if (m.getName().equals("feed") && random.nextInt(8) > 0) {
                    continue;
                }
                if (m.getName().equals("restore") && random.nextInt(2) > 0) {
                    continue;
                }
                call(m.getName(), arguments(m));
            }
        }
    }

    private Object[] arguments(Method m) {
        Object[] args = new Object[m.getParameterCount()];
        for (int i = 0; i < args.length; i++) {
            args[i] = argument(m.getName(), i);
            if (m.getParameterTypes()[i] == long.class) {
                args[i] = number();
            }
        }
        return args;
    }

    private Object argument(String name, int i) {
        if (random.nextInt(60) == 0) {
            int[] wild = {Integer.MIN_VALUE, Integer.MAX_VALUE, -1, -2, 12, 40, 41, 240, 256, 1 << 16};
            return wild[random.nextInt(wild.length)];
        }
        switch (name + i) {
            case "window0": case "best0": case "best1": case "hears0": case "overhears0": case "overhears1":
            case "needs0": case "needs1": case "part0": case "missing0": case "missing1": case "echo0":
            case "echo1": case "explained0":
                return windowNumber();
            case "cross0": case "cross1": case "pair0": case "may0": case "tie0": case "openHours0":
            case "both0": case "both1": case "renewed0":
                return pair();
            case "cut0": case "knot0":
                return stringOrPair();
            case "best2":
                return random.nextInt(3) == 0 ? 0 : 1 << windowNumber() & (random.nextBoolean() ? -1 : 0)
                        | (random.nextInt(3) == 0 ? 1 << windowNumber() : 0);
            case "best3":
                return random.nextInt(3) == 0 ? random.nextInt(24) - 1 : 10 + random.nextInt(8);
            case "calls1":
                return random.nextInt(2) == 0 ? random.nextInt(4) : 9 + random.nextInt(42);
            case "tieAll0": case "together0": case "shut0": case "calls0": case "numbers0": case "write0":
            case "copy0": case "explained1":
                return random.nextInt(25) == 0 ? 4 : random.nextInt(4);
            case "image0": case "restore0":
                return random.nextInt(20) == 0 ? 2 : random.nextInt(2);
            case "numbers2":
                return random.nextInt(3) == 0 && windows > 0 ? windows : random.nextInt(43) - 1;
            case "write1":
                return random.nextInt(14) - 1;
            case "gust0":
                return random.nextInt();
            case "gust1":
                return random.nextInt(4) == 0 ? random.nextInt(64) - 1 : 1 + random.nextInt(6);
            case "pass0":
                return random.nextInt(102) - 1;
            case "damp0":
                return random.nextInt(23) - 1;
            case "court0":
                return random.nextInt(30) - 2;
            case "count0":
                return random.nextInt(12) - 1;
            case "shut1":
                return random.nextInt(14) - 1;
            case "stay0":
                return random.nextInt(8) - 1;
            case "feed0": case "feed1": case "feed2": case "feed3": case "feed4":
                return random.nextInt();
            case "window1": case "pair1":
                return random.nextInt(20) == 0 ? 4 : random.nextInt(4);
            case "missing2": case "exchange0": case "together1":
                return random.nextInt(20) == 0 ? 3 : random.nextInt(3);
            case "renewed1": case "web0": case "explained2": case "fault0":
                return random.nextInt(20) == 0 ? 2 : random.nextInt(2);
            default:
                return random.nextInt(6) - 1;
        }
    }

    private int windowNumber() {
        int n = windows == 0 ? 5 : windows;
        return random.nextInt(30) == 0 ? n : random.nextInt(n);
    }

    private int pair() {
        int a = windowNumber();
        int b = random.nextInt(3) == 0 && windows > 0 ? (a + 1) % windows : windowNumber();
        if (random.nextInt(40) == 0) {
            return 20 * Math.max(a, b) + Math.min(a, b);
        }
        return 20 * Math.min(a, b) + Math.max(a, b);
    }

    private int stringOrPair() {
        for (int i = 0; i < 12; i++) {
            int p = pair();
            if (model.may(p) == 2) {
                return p;
            }
        }
        return pair();
    }

    private int pairThatMay() {
        for (int i = 0; i < 30; i++) {
            int p = pair();
            if (model.may(p) == 0) {
                return p;
            }
        }
        return pair();
    }

    private long number() {
        switch (random.nextInt(12)) {
            case 0:
                return random.nextLong();
            case 1:
                return (1L << 32) + pair();
            case 2:
                return random.nextInt(300) - 150;
            default:
                return pair();
        }
    }

    private void fillRow() throws ReflectiveOperationException {
        int row = random.nextInt(4);
        int n = random.nextInt(4) == 0 ? random.nextInt(41) : random.nextInt(13);
        call("numbers", row, 1 + random.nextInt(3), n);
        boolean same = random.nextInt(6) == 0;
        int one = pair();
        for (int i = 0; i < n && !wrong; i++) {
            int p = same ? one : pair();
            for (int k = 0; k < 20 && model.may(p) == 1; k++) {
                p = pair();
            }
            call("write", row, i, random.nextInt(300) == 0 ? number() : (long) p);
        }
        call("calls", row, random.nextInt(3));
        call("calls", row, 10 + random.nextInt(12));
        call("together", row, random.nextInt(3));
        call("shut", row, random.nextInt(12));
    }

    /** Echoes as they are, or as they would be with a string more or less, or with a slip. */
    private void fillTold() throws ReflectiveOperationException {
        if (windows == 0) {
            return;
        }
        int row = random.nextInt(4);
        int from = random.nextInt(windows);
        int change = stringOrPair();
        int kind = random.nextInt(4);
        if (kind == 2) {
            change = random.nextBoolean() ? pairThatMay() : pair();
        }
        int[] told = model.echoesIf(from, kind == 1 ? change : -1, kind == 2 ? change : -1);
        if (kind == 3) {
            told[random.nextInt(windows)] += random.nextInt(3) - 1;
        }
        call("numbers", row, random.nextInt(4), windows);
        for (int w = 0; w < windows && !wrong; w++) {
            call("write", row, w, (long) told[w]);
        }
        call("explained", from, row, 0);
        call("explained", from, row, 1);
    }

    private void tieMany() throws ReflectiveOperationException {
        int many = random.nextInt(25);
        for (int i = 0; i < many && !wrong; i++) {
            call("tie", pairThatMay(), random.nextInt(4));
        }
    }

    private void tellCourt() throws ReflectiveOperationException {
        if (model.count(8) > 0) {
            // whatever is left on the tape would be a fault ahead of the text
            call("court", model.count(8));
        }
        StringBuilder text = new StringBuilder(RandomText.draw(random));
        int length = text.length();
        while (text.length() % 20 != 0) {
            text.append(random.nextInt(3) == 0 ? 'x' : ' ');
        }
        for (int i = 0; i < text.length() && !wrong; i += 20) {
            Object[] words = new Object[5];
            for (int k = 0; k < 5; k++) {
                int word = 0;
                for (int j = 0; j < 4; j++) {
                    word = word << 8 | text.charAt(i + 4 * k + j) & 255;
                }
                words[k] = word;
            }
            call("feed", words);
        }
        call("court", length);
        call("fault", 0);
        call("fault", 1);
        for (int i = 0; i < 10; i++) {
            call("count", i);
        }
        windows = model.count(0);
        if (random.nextBoolean()) {
            tieMany();
        }
    }

    private void call(String name, Object... args) throws ReflectiveOperationException {
        if (wrong) {
            return;
        }
        calls++;
        String row = name + Arrays.toString(args);
        long want = answer(model, Model.class, name, args);
        long got;
        try {
            got = answer(cans, TinCans.class, name, args);
        } catch (InvocationTargetException e) {
            wrong = true;
            log.add(row + " threw " + e.getCause() + ", due is " + want);
            return;
        }
        wrong = got != want;
        log.add(row + " answered " + got + (wrong ? ", due is " + want : ""));
        windows = model.count(0);
    }

    private static long answer(Object object, Class<?> type, String name, Object[] args)
            throws ReflectiveOperationException {
        for (Method m : type.getDeclaredMethods()) {
            boolean hidden = java.lang.reflect.Modifier.isPrivate(m.getModifiers());
            if (m.getName().equals(name) && m.getParameterCount() == args.length && !hidden) {
                return ((Number) m.invoke(object, args)).longValue();
            }
        }
        throw new NoSuchMethodException(name);
    }
}
