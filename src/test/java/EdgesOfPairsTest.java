/** The boundary cases of pairs, crossings, lengths, losses, slack strings, and of promises 5 to 8, a sentence each. */
public final class EdgesOfPairsTest {
    private EdgesOfPairsTest() {
    }

    public static void main(String[] args) {
        pairs();
        crossings();
        crossingEnds();
        lengths();
        losses();
        may();
        mayOfSeveral();
        slack();
        window();
        windowRefused();
        crossRefused();
        pair();
        pairRefused();
        mayRefuses();
        Script.end();
    }

    private static void pairs() {
        Script.says(0, "PAIRS are numbers 20 a + b (b above a).");
        for (int windows = 3; windows <= 12; windows++) {
            Script x = Script.of("windows " + windows + ";");
            for (int number = -45; number <= 300; number++) {
                int a = Math.floorDiv(number, 20);
                int b = Math.floorMod(number, 20);
                boolean is = a >= 0 && b > a && b < windows;
                x.due("may(" + number + ")", is ? 0 : 1);
            }
        }
        Script x = Script.of("windows 12;");
        x.due("pair(211, 0)", 11).refused("pair(231, 0)", -2).refused("pair(212, 0)", -2).refused("pair(12, 0)", -2);
        x.refused("pair(0, 0)", -2).refused("pair(20, 0)", -2).refused("pair(21, 0)", -2).due("pair(22, 0)", 11);
        x.refused("pair(-1, 0)", -2).refused("pair(-19, 0)", -2).refused("pair(-21, 0)", -2);
        x.refused("pair(400, 0)", -2).refused("pair(MAX, 0)", -2).refused("pair(MIN, 0)", -2);
        // all of their uses know the same pairs
        for (String none : new String[] {"0", "20", "21", "12", "212", "231", "252", "-1", "MIN", "MAX"}) {
            x.refused("tie(" + none + ", 0)", -11).refused("cut(" + none + ")", -2).refused("knot(" + none + ")", -2);
            x.refused("cross(1, " + none + ")", -2).refused("cross(" + none + ", 1)", -2);
            x.refused("openHours(" + none + ")", -2).refused("renewed(" + none + ", 0)", -2);
            x.refused("both(" + none + ", 1)", -2).refused("both(1, " + none + ")", -2);
        }
    }

    private static void crossings() {
        Script.says(0, "Two PAIRS CROSS, if all four WINDOWS are unlike, and just one of one PAIR is between both of"
                + " the other one round the court.");
        // each four windows have just one crossing of the three ways to pair them
        int[] crossings = {0, 0, 0, 0, 1, 5, 15};
        for (int windows = 3; windows <= 6; windows++) {
            Script x = Script.of("windows " + windows + ";");
            int found = 0;
            for (int p = 1; p < 20 * windows; p++) {
                for (int q = 1; q < 20 * windows; q++) {
                    if (isPair(p, windows) && isPair(q, windows)) {
                        boolean between = isBetween(q / 20, p) != isBetween(q % 20, p);
                        boolean unlike = p / 20 != q / 20 && p / 20 != q % 20 && p % 20 != q / 20 && p % 20 != q % 20;
                        x.due("cross(" + p + ", " + q + ")", unlike && between ? 1 : 0);
                        found += unlike && between ? 1 : 0;
                    }
                }
            }
            if (found != 2 * crossings[windows]) {
                throw new IllegalStateException("the test's own crossings: " + found);
            }
        }
    }

    private static boolean isPair(int number, int windows) {
        return number % 20 > number / 20 && number % 20 < windows;
    }

    private static boolean isBetween(int w, int pair) {
        return w > pair / 20 && w < pair % 20;
    }

    private static void crossingEnds() {
        Script.says(0, "all four WINDOWS are unlike");
        Script x = Script.of("windows 12;");
        x.due("cross(6, 6)", 0).due("cross(6, 7)", 0).due("cross(6, 26)", 0).due("cross(6, 127)", 0);
        x.due("cross(26, 6)", 0).due("cross(127, 6)", 0);
        Script.says(0, "just one of one PAIR is between both of the other one round the court");
        x.due("cross(6, 27)", 1).due("cross(27, 6)", 1).due("cross(6, 31)", 1).due("cross(6, 111)", 1);
        // both between, none between; neighbours round the court's end are between nobody
        x.due("cross(6, 25)", 0).due("cross(25, 6)", 0).due("cross(6, 151)", 0).due("cross(11, 26)", 0);
        x.due("cross(26, 11)", 0).due("cross(31, 10)", 1).due("cross(10, 31)", 1).due("cross(31, 2)", 1);
        x.due("cross(211, 10)", 0).due("cross(191, 10)", 1).due("cross(1, 22)", 0);
    }

    private static void lengths() {
        Script.says(0, "LENGTH of a PAIR: s times (WINDOWS less s), s being the steps from one to the other one round"
                + " the court (either way it is the same).");
        Script x = Script.of("windows 3;").due("pair(1, 0)", 2).due("pair(2, 0)", 2).due("pair(22, 0)", 2);
        x = Script.of("windows 4;").due("pair(1, 0)", 3).due("pair(2, 0)", 4).due("pair(3, 0)", 3).due("pair(23, 0)", 4);
        int[] twelve = {0, 11, 20, 27, 32, 35, 36, 35, 32, 27, 20, 11};
        x = Script.of("windows 12;");
        for (int b = 1; b <= 11; b++) {
            x.due("pair(" + b + ", 0)", twelve[b]);
            if (b < 11) {
                x.due("pair(" + (20 * b + 11) + ", 0)", twelve[11 - b]);
            }
        }
        x.due("count(7)", 0).due("tie(6, 9)", 1).due("count(7)", 36).due("tie(11, 0)", 2).due("count(7)", 47);
        x.due("damp(20)", 0).due("count(7)", 47).due("cut(6)", 1).due("count(7)", 11);
    }

    private static void losses() {
        Script.says(0, "LOSS of a STRING: LENGTH times (10 and damp), by 10, cut, and 3 for each knot.");
        Script x = Script.of("windows 6;string 0 1;string 1 2 knots 1;");
        // 5 long: 5, 5.5, 6, 6.5 .. 14.5, 15
        for (int damp = 0; damp <= 20; damp++) {
            x.did("damp(" + damp + ")").due("pair(1, 2)", 5 + damp / 2).due("pair(22, 2)", 8 + damp / 2);
            x.due("pair(5, 2)", 5 + damp / 2).due("best(0, 2, 0, 0)", 13 + damp / 2 + damp / 2);
        }
        // 9 long and damp 9: 17.1; 8 long: 15.2, and damp 1: 8.8
        x.did("damp(9)").due("pair(3, 2)", 17).due("pair(2, 2)", 15).did("damp(1)").due("pair(2, 2)", 8);
        // the most: 36 long, damp 20, 9 knots
        x = Script.of("windows 12;damp 20;string 0 6 knots 9;").due("pair(6, 2)", 108 + 27).due("pair(6, 0)", 36);
        x.due("best(6, 0, 0, 0)", 135).due("hears(0)", 0);
        // the least: 2 long
        Script.of("windows 3;string 0 1;").due("pair(1, 2)", 2).did("damp(4)").due("pair(1, 2)", 2)
                .did("damp(5)").due("pair(1, 2)", 3);
    }

    private static void may() {
        Script.says(0, "A STRING MAY be tied, if not, the least of: 1 no PAIR; 2 there is one of that PAIR; 3 one of"
                + " both WINDOWS has no can free (each STRING takes one at both ends); 4 it CROSSES a STRING.");
        Script x = Script.of("windows 6;cans 1 1;cans 5 0;string 0 2 knots 3;string 0 3;string 0 4;");
        x.looks("may(0)", 1).looks("may(40)", 1).looks("may(6)", 1).looks("may(2)", 2).looks("may(4)", 2);
        x.looks("may(1)", 3).looks("may(5)", 3).looks("may(85)", 3).looks("may(23)", 4).looks("may(24)", 4);
        x.looks("may(22)", 0).looks("may(43)", 0).looks("may(64)", 0).looks("may(44)", 4);
        x.refused("tie(40, 0)", -11).refused("tie(2, 0)", -12).refused("tie(1, 0)", -13).refused("tie(23, 0)", -14);
        // a slack string keeps its can, its pair, and others from crossing it
        x = Script.of("windows 4;cans 1 1;cans 0 2;wash 0 2 4095;string 1 3;");
        x.due("count(6)", 1).due("may(23)", 2).due("may(1)", 3).due("may(2)", 4).due("may(3)", 0);
    }

    private static void mayOfSeveral() {
        Script.says(0, "if not, the least of:");
        // there is one, and no can is free
        Script.of("windows 6;cans 0 1;string 0 1;").due("may(1)", 2).refused("tie(1, 0)", -12);
        // no can is free, and it crosses
        Script.of("windows 6;cans 1 0;string 0 2;").due("may(23)", 3).refused("tie(23, 0)", -13);
        Script.of("windows 6;cans 3 0;string 0 2;").due("may(23)", 3).refused("tie(23, 0)", -13);
        // there is one, no can is free and none is: windows out of the court make it no pair
        Script.of("windows 3;cans 0 0;").due("may(3)", 1).due("may(1)", 3).due("may(20)", 1);
    }

    private static void slack() {
        Script.says(0, "It is SLACK at an HOUR, if it CROSSES a wash that hangs then (it is of its HOURS, HOUR modulo"
                + " 12).");
        // hour 11 and hour 0
        Script x = Script.of("windows 6;wash 5 2 2049;string 0 1;string 1 3;string 2 3;");
        x.due("pair(23, 3)", 1).due("pair(1, 3)", 0).due("pair(43, 3)", 0).due("count(6)", 1);
        x.did("pass(1)").due("pair(23, 3)", 0).due("count(6)", 0).did("pass(9)").due("pair(23, 3)", 0);
        x.did("pass(1)").due("count(2)", 11).due("pair(23, 3)", 1).did("pass(1)").due("pair(23, 3)", 1);
        x.did("pass(1)").due("count(2)", 13).due("pair(23, 3)", 0).due("count(6)", 0);
        // the last hour, 9999, is 3 of twelve
        x = Script.of("windows 4;wash 0 2 8;string 1 3;");
        for (int i = 0; i < 101; i++) {
            x.did("pass(99)");
        }
        x.due("count(2)", 9999).due("pair(23, 3)", 1).due("openHours(23)", 4095 - 8);
        // an end in common, or the same way across, is no crossing
        x = Script.of("windows 6;wash 0 3 4095;string 0 3;string 3 5;string 0 2;");
        x.due("count(6)", 0).due("pair(3, 3)", 0).due("pair(65, 3)", 0).due("pair(25, 3)", 1);
        // one of several washes is enough, and at the hours of any
        x = Script.of("windows 6;wash 0 3 1;wash 0 2 2;wash 1 3 0;string 1 4;");
        x.due("pair(24, 3)", 1).did("pass(1)").due("pair(24, 3)", 1).did("pass(1)").due("pair(24, 3)", 0);
    }

    private static void window() {
        Script.says(5, "Of a WINDOW, what 0: cans, 1: STRINGS there, 2: of these that aren't SLACK, 3: WINDOWS they"
                + " lead to (those that aren't SLACK), as bits.");
        Script x = Script.of("windows 12;cans 11 11;wash 0 10 1;string 11 5;string 11 0;string 10 11;string 11 9;");
        x.looks("window(11, 0)", 11).looks("window(11, 1)", 4).looks("window(11, 2)", 2);
        x.looks("window(11, 3)", 1 + 1024);
        x.did("pass(1)").due("window(11, 2)", 4).due("window(11, 3)", 1 + 32 + 512 + 1024);
        // none; and all slack
        x.due("window(3, 0)", 3).due("window(3, 1)", 0).due("window(3, 2)", 0).due("window(3, 3)", 0);
        x = Script.of("windows 4;wash 0 2 1;string 1 3;");
        x.due("window(1, 1)", 1).due("window(1, 2)", 0).due("window(1, 3)", 0).due("window(3, 3)", 0);
        x.did("pass(1)").due("window(1, 3)", 8).due("window(3, 3)", 2);
    }

    private static void windowRefused() {
        Script.says(5, "as bits. -2.");
        Script x = Script.of("windows 6;string 0 1;").did("image(1)");
        x.refused("window(6, 0)", -2).refused("window(-1, 0)", -2).refused("window(12, 0)", -2);
        x.refused("window(MIN, 1)", -2).refused("window(MAX, 2)", -2).refused("window(6, 3)", -2);
        x.refused("window(0, 4)", -2).refused("window(0, -1)", -2).refused("window(0, MIN)", -2);
        x.refused("window(0, MAX)", -2).due("window(5, 0)", 3).due("window(0, 3)", 2);
        new Script().refused("window(0, 0)", -2);
    }

    private static void crossRefused() {
        Script.says(6, "-2: one of both is no PAIR.");
        Script x = Script.of("windows 6;").refused("cross(1, 20)", -2).refused("cross(20, 1)", -2);
        x.refused("cross(6, 1)", -2).refused("cross(1, 6)", -2).refused("cross(105, 1)", -2);
        x.refused("cross(1, -1)", -2).refused("cross(0, 0)", -2).refused("cross(MIN, MAX)", -2);
        Script.says(6, "Whether two PAIRS CROSS: 1, 0.");
        x.due("cross(85, 4)", 0).looks("cross(24, 5)", 0).looks("cross(25, 4)", 1);
        new Script().refused("cross(1, 2)", -2);
    }

    private static void pair() {
        Script.says(7, "Of a PAIR, what 0: LENGTH");
        Script x = Script.of("windows 6;damp 3;wash 0 2 1;string 0 1 knots 9;string 1 2;string 1 3 knots 2;");
        x.looks("pair(1, 0)", 5).looks("pair(23, 0)", 8).looks("pair(2, 0)", 8).looks("pair(3, 0)", 9);
        x.looks("pair(5, 0)", 5);
        Script.says(7, "1: knots of its STRING (NONE: there is none)");
        x.looks("pair(1, 1)", 9).looks("pair(22, 1)", 0).looks("pair(2, 1)", -1).looks("pair(5, 1)", -1);
        Script.says(7, "2: its LOSS, 3: 1 if it is SLACK now, else 0 (2, 3 also as if there were a STRING, without"
                + " knots)");
        x.looks("pair(1, 2)", 33).looks("pair(5, 2)", 6).looks("pair(2, 2)", 10).looks("pair(23, 2)", 16);
        x.looks("pair(23, 3)", 1).looks("pair(24, 3)", 1).looks("pair(2, 3)", 0);
        x.did("cut(23)").due("pair(23, 2)", 10).due("pair(23, 3)", 1).due("pair(23, 1)", -1).due("pair(23, 0)", 8);
        x.did("pass(1)").due("pair(23, 3)", 0).due("pair(24, 3)", 0);
    }

    private static void pairRefused() {
        Script.says(7, "-2: no PAIR, what.");
        Script x = Script.of("windows 6;string 0 1;");
        x.refused("pair(1, 4)", -2).refused("pair(1, -1)", -2).refused("pair(1, MIN)", -2).refused("pair(1, MAX)", -2);
        x.refused("pair(0, 0)", -2).refused("pair(20, 1)", -2).refused("pair(6, 2)", -2).refused("pair(105, 3)", -2);
        x.refused("pair(-1, 0)", -2).refused("pair(MIN, 4)", -2).due("pair(85, 0)", 5);
    }

    private static void mayRefuses() {
        Script.says(8, "Why a PAIR MAY not be tied, 0.");
        Script x = Script.of("windows 3;");
        x.looks("may(1)", 0).looks("may(2)", 0).looks("may(22)", 0).looks("may(3)", 1).looks("may(23)", 1);
        x.looks("may(42)", 1).looks("may(MIN)", 1).looks("may(MAX)", 1).looks("may(-20)", 1).looks("may(256)", 1);
    }
}
