/** Promises 29 to 32: nets. */
public final class NetsTest {
    private NetsTest() {
    }

    public static void main(String[] args) {
        together();
        togetherRefused();
        shut();
        web();
        more();
        Due.end();
    }

    private static void togetherIs(TinCans x, int many, int length, int places, long... pairs) {
        Due.row(x, 0, 2, pairs);
        String call = "together of " + java.util.Arrays.toString(pairs) + ", ";
        Due.is(29, call + 0, x.together(0, 0), many);
        Due.is(29, call + 1, x.together(0, 1), length);
        Due.is(29, call + 2, x.together(0, 2), places);
    }

    private static void together() {
        TinCans x = Due.told("windows 6;cans 0 0;cans 2 1;wash 0 3 4095;string 2 5;");
        togetherIs(x, 0, 0, 0);
        togetherIs(x, 1, 5, 1, 1);
        // all three cross: of like lengths the least bits
        togetherIs(x, 1, 9, 1, 3, 24, 45);
        togetherIs(x, 1, 8, 2, 24, 2);
        // 1-4 crosses 0-2, 2-3 neither
        togetherIs(x, 2, 13, 6, 24, 2, 43);
        togetherIs(x, 2, 13, 5, 2, 24, 43);
        // like ones count each
        togetherIs(x, 2, 16, 3, 2, 2);
        togetherIs(x, 3, 23, 7, 3, 3, 22);
        // more go before shorter
        togetherIs(x, 2, 17, 3, 3, 2, 25);
        // a full court of twelve strings that don't cross
        togetherIs(x, 12, 5 * 6 + 8 * 6, 4095, 1, 22, 43, 64, 85, 5, 2, 44, 4, 2, 44, 4);
        // two halves of the same worth: places as bits, the least
        togetherIs(x, 3, 24, 7, 2, 44, 4, 23, 65, 25);
        togetherIs(x, 3, 24, 7, 23, 65, 25, 2, 44, 4);
        togetherIs(x, 3, 24, 14, 2, 23, 65, 25, 44, 4);
    }

    private static void togetherRefused() {
        TinCans x = Due.told("windows 6;");
        Due.is(29, "together(-1, 0)", x.together(-1, 0), -2);
        Due.is(29, "together(4, 0)", x.together(4, 0), -2);
        Due.is(29, "together(0, 3)", x.together(0, 3), -2);
        Due.is(29, "together(0, -1)", x.together(0, -1), -2);
        Due.is(29, "together(0, 0)", x.together(0, 0), -6);
        Due.row(x, 0, 3, 1, 2, (1L << 32) + 1);
        Due.is(29, "together(0, 0)", x.together(0, 0), -3);
        Due.row(x, 0, 3, 0, 1, 2);
        Due.is(29, "together(0, 0)", x.together(0, 0), -3);
        Due.row(x, 0, 3, 1, 2, 6);
        Due.is(29, "together(0, 0)", x.together(0, 0), -3);
        Due.row(x, 0, 1, 1, 1, 1, 1, 1, 1, 1, 1, 1, 1, 1, 1, 1);
        Due.is(29, "together(0, 0) of 13", x.together(0, 0), -4);
        x.write(0, 12, 0);
        Due.is(29, "together(0, 0) of 13", x.together(0, 0), -3);
        Due.row(x, 0, 1, 1, 1, 1, 1, 1, 1, 1, 1, 1, 1, 1, 1);
        Due.is(29, "together(0, 0) of 12", x.together(0, 0), 12);
    }

    private static void shut() {
        TinCans x = Due.told("windows 6;");
        Due.is(30, "shut(4, 0)", x.shut(4, 0), -2);
        Due.is(30, "shut(-1, 0)", x.shut(-1, 0), -2);
        Due.is(30, "shut(1, 0)", x.shut(1, 0), -6);
        Due.row(x, 1, 1, 3, 24, 45, 1, 3, 25);
        Due.is(30, "shut(1, 0)", x.shut(1, 0), 3);
        Due.is(30, "shut(1, 1)", x.shut(1, 1), 3);
        Due.is(30, "shut(1, 2)", x.shut(1, 2), 3);
        Due.is(30, "shut(1, 3)", x.shut(1, 3), 0);
        Due.is(30, "shut(1, 5)", x.shut(1, 5), 2);
        Due.is(30, "shut(1, 6)", x.shut(1, 6), -7);
        Due.is(30, "shut(1, -1)", x.shut(1, -1), -7);
        x.write(1, 3, 0);
        Due.is(30, "shut(1, 0)", x.shut(1, 0), -3);
        Due.is(30, "shut(1, 3)", x.shut(1, 3), -3);
        Due.is(30, "shut(1, 6)", x.shut(1, 6), -7);
        x.numbers(2, 1, 40);
        for (int i = 0; i < 40; i++) {
            x.write(2, i, i % 2 == 0 ? 3 : 24);
        }
        Due.is(30, "shut(2, 39) of 40", x.shut(2, 39), 20);
    }

    private static void web() {
        for (int windows = 3; windows <= 12; windows++) {
            TinCans x = Due.told("windows " + windows + ";cans 0 0;" + (windows > 3 ? "wash 0 2 4095;" : ""));
            Due.is(31, "web(0) of " + windows, x.web(0), (windows - 1) * (windows - 1));
            Due.is(31, "web(1) of " + windows, x.web(1), windows);
        }
        TinCans x = Due.told("windows 6;");
        Due.is(31, "web(2)", x.web(2), -2);
        Due.is(31, "web(-1)", x.web(-1), -2);
        x = new TinCans();
        Due.is(31, "web(0) without windows", x.web(0), -5);
        Due.is(31, "web(1) without windows", x.web(1), -5);
        Due.is(31, "web(2) without windows", x.web(2), -2);
    }

    private static void more() {
        Due.is(32, "more() of 3", Due.told("windows 3;").more(), 3);
        TinCans x = Due.told("windows 4;");
        Due.is(32, "more() of 4", x.more(), 5);
        Due.is(32, "count(1)", x.count(1), 0);
        Due.is(32, "more() again", x.more(), 5);
        x.tie(23, 0);
        // then 0-1, 0-3, 1-2, 2-3
        Due.is(32, "more() with 1-3", x.more(), 4);
        Due.is(32, "more() without cans at 0", Due.told("windows 4;cans 0 0;").more(), 3);
        // 0 has three cans: 0-1, 0-2, 0-3; then 1-2; 2-3; 3-4 with the last can of 3
        Due.is(32, "more() of 5", Due.told("windows 5;wash 0 2 4095;").more(), 6);
        Due.is(32, "more() of a full court", Due.told("windows 3;string 0 1;string 1 2;string 2 0;").more(), 0);
    }
}
