/** Promises 8 to 15: strings. */
public final class StringsTest {
    private StringsTest() {
    }

    public static void main(String[] args) {
        may();
        tie();
        cut();
        knot();
        tieAll();
        pass();
        damp();
        gust();
        Due.end();
    }

    private static void may() {
        TinCans x = Due.told("windows 6;cans 3 1;wash 0 3 4095;string 0 2;string 3 4;");
        Due.is(8, "may(21)", x.may(21), 1);
        Due.is(8, "may(0)", x.may(0), 1);
        Due.is(8, "may(6)", x.may(6), 1);
        Due.is(8, "may(105)", x.may(105), 1);
        Due.is(8, "may(106)", x.may(106), 1);
        Due.is(8, "may(-1)", x.may(-1), 1);
        Due.is(8, "may(MIN)", x.may(Integer.MIN_VALUE), 1);
        Due.is(8, "may(2)", x.may(2), 2);
        Due.is(8, "may(64)", x.may(64), 2);
        Due.is(8, "may(23), full and across", x.may(23), 3);
        Due.is(8, "may(43)", x.may(43), 3);
        Due.is(8, "may(65)", x.may(65), 3);
        Due.is(8, "may(24)", x.may(24), 4);
        Due.is(8, "may(25)", x.may(25), 4);
        Due.is(8, "may(1)", x.may(1), 0);
        Due.is(8, "may(44), slack", x.may(44), 0);
        Due.is(8, "may(1) without windows", new TinCans().may(1), 1);
    }

    private static void tie() {
        TinCans x = Due.told("windows 5;cans 4 1;");
        Due.is(9, "tie(2, 9)", x.tie(2, 9), 1);
        Due.is(9, "pair(2, 1)", x.pair(2, 1), 9);
        Due.is(9, "tie(1, 0)", x.tie(1, 0), 2);
        Due.is(9, "tie(43, 10)", x.tie(43, 10), -3);
        Due.is(9, "tie(43, -1)", x.tie(43, -1), -3);
        Due.is(9, "tie(5, 10)", x.tie(5, 10), -11);
        Due.is(9, "tie(2, 10)", x.tie(2, 10), -12);
        Due.is(9, "tie(4, 0)", x.tie(4, 0), 3);
        Due.is(9, "tie(64, 10)", x.tie(64, 10), -13);
        Due.is(9, "tie(3, 1)", x.tie(3, 1), -13);
        Due.is(9, "tie(23, 10)", x.tie(23, 10), -14);
        Due.is(9, "count(1)", x.count(1), 3);
        // each string takes a can at both ends
        Due.is(9, "window(0, 1)", x.window(0, 1), 3);
        Due.is(9, "window(4, 1)", x.window(4, 1), 1);
    }

    private static void cut() {
        TinCans x = Due.told("windows 5;string 0 2;string 3 4 knots 5;string 2 3;");
        Due.is(10, "cut(64)", x.cut(64), 2);
        Due.is(10, "cut(64)", x.cut(64), -2);
        Due.is(10, "cut(1)", x.cut(1), -2);
        Due.is(10, "cut(-1)", x.cut(-1), -2);
        Due.is(10, "may(23)", x.may(23), 4);
        Due.is(10, "cut(2)", x.cut(2), 1);
        Due.is(10, "may(23)", x.may(23), 0);
        Due.is(10, "pair(43, 1)", x.pair(43, 1), 0);
        Due.is(10, "tie(64, 0)", x.tie(64, 0), 2);
        Due.is(10, "pair(64, 1)", x.pair(64, 1), 0);
    }

    private static void knot() {
        TinCans x = Due.told("windows 5;string 0 2;string 2 3 knots 8;");
        Due.is(11, "knot(2)", x.knot(2), 1);
        Due.is(11, "knot(2)", x.knot(2), 2);
        Due.is(11, "knot(43)", x.knot(43), 9);
        Due.is(11, "knot(43)", x.knot(43), -4);
        Due.is(11, "pair(43, 1)", x.pair(43, 1), 9);
        Due.is(11, "pair(2, 1)", x.pair(2, 1), 2);
        Due.is(11, "pair(2, 2)", x.pair(2, 2), 12);
        Due.is(11, "knot(1)", x.knot(1), -2);
        Due.is(11, "knot(0)", x.knot(0), -2);
        Due.is(11, "knot(-5)", x.knot(-5), -2);
    }

    private static void tieAll() {
        TinCans x = Due.told("windows 6;cans 5 1;string 0 2 knots 3;");
        Due.is(12, "tieAll(-1)", x.tieAll(-1), -2);
        Due.is(12, "tieAll(4)", x.tieAll(4), -2);
        Due.is(12, "tieAll(0)", x.tieAll(0), -6);
        // there is 0-2; 1-3 crosses it; 2-5 takes the only can of 5; no pairs; 3-4 twice
        Due.row(x, 0, 3, 2, 23, 45, 85, 0, -1, (1L << 32) + 1, Long.MIN_VALUE, 64, 64, 21);
        Due.is(12, "tieAll(0)", x.tieAll(0), 2);
        Due.is(12, "count(1)", x.count(1), 3);
        Due.is(12, "pair(45, 1)", x.pair(45, 1), 0);
        Due.is(12, "pair(64, 1)", x.pair(64, 1), 0);
        Due.is(12, "pair(2, 1)", x.pair(2, 1), 3);
        Due.is(12, "pair(1, 1)", x.pair(1, 1), -1);
        Due.is(12, "tieAll(0)", x.tieAll(0), 0);
        x.numbers(1, 0, 0);
        Due.is(12, "tieAll(1)", x.tieAll(1), 0);
        Due.row(x, 1, 0, 1);
        Due.is(12, "tieAll(1)", x.tieAll(1), 1);
        Due.is(12, "count(1)", x.count(1), 4);
    }

    private static void pass() {
        TinCans x = new TinCans();
        Due.is(13, "pass(0)", x.pass(0), 0);
        Due.is(13, "pass(99)", x.pass(99), 99);
        Due.is(13, "pass(100)", x.pass(100), -3);
        Due.is(13, "pass(-1)", x.pass(-1), -3);
        for (int i = 2; i <= 101; i++) {
            Due.is(13, "pass(99)", x.pass(99), 99 * i);
        }
        Due.is(13, "pass(1)", x.pass(1), -5);
        Due.is(13, "pass(100)", x.pass(100), -3);
        Due.is(13, "pass(0)", x.pass(0), 9999);
        Due.is(13, "count(2)", x.count(2), 9999);
    }

    private static void damp() {
        TinCans x = Due.told("windows 6;damp 6;string 0 1;");
        Due.is(14, "damp(20)", x.damp(20), 6);
        Due.is(14, "pair(1, 2)", x.pair(1, 2), 15);
        Due.is(14, "damp(21)", x.damp(21), -3);
        Due.is(14, "damp(-1)", x.damp(-1), -3);
        Due.is(14, "damp(0)", x.damp(0), 20);
        Due.is(14, "pair(1, 2)", x.pair(1, 2), 5);
        Due.is(14, "damp(1) without windows", new TinCans().damp(1), 0);
    }

    private static void gust() {
        TinCans x = new TinCans();
        Due.is(15, "gust(1, 0) without windows", x.gust(1, 0), -5);
        x = Due.told("windows 7;");
        Due.is(15, "gust(1, 0)", x.gust(1, 0), -3);
        Due.is(15, "gust(1, 61)", x.gust(1, 61), -3);
        Due.is(15, "gust(1, -1)", x.gust(1, -1), -3);
        // draws from -77: 14170 18675 | 306 15984 11815 | 2264 36771 | 18273 57636 13650 | ..
        int[] strings = {0, 1, 0, 1, 2, 2, 2, 3, 2, 2, 1, 2};
        for (int times = 1; times <= strings.length; times++) {
            x = Due.told("windows 5;");
            Due.is(15, "gust(-77, " + times + ")", x.gust(-77, times), strings[times - 1]);
        }
        Due.is(15, "pair(24, 1)", x.pair(24, 1), 2);
        Due.is(15, "pair(4, 1)", x.pair(4, 1), 1);
        int[] ofFour = {0, 1, 0, 1, 2, 2, 2, 1, 2, 2, 3, 3, 2, 1};
        for (int times = 1; times <= ofFour.length; times++) {
            x = Due.told("windows 4;");
            Due.is(15, "gust(3, " + times + ")", x.gust(3, times), ofFour[times - 1]);
        }
        Due.is(15, "pair(2, 1)", x.pair(2, 1), 0);
        // 1-4 is cut by the second round; without cans nothing is tied and no knots are drawn
        x = Due.told("windows 5;string 1 4 knots 7;");
        Due.is(15, "gust(-77, 2)", x.gust(-77, 2), 0);
        x = Due.told("windows 5;cans 0 0;cans 1 0;cans 2 0;cans 3 0;cans 4 0;");
        Due.is(15, "gust(-77, 60)", x.gust(-77, 60), 0);
    }
}
