/** Promises 16 to 28: ways. */
public final class WaysTest {
    /** Sides are 5 long, pairs over one window 8, pairs over two 9. */
    private static final String RING =
            "windows 6;string 0 1;string 1 2;string 2 3;string 3 4;string 4 5;string 5 0;";

    private WaysTest() {
    }

    public static void main(String[] args) {
        best();
        bestOfLikeOnes();
        bestRefused();
        hears();
        overhears();
        needs();
        openHours();
        parts();
        stay();
        brace();
        both();
        renewed();
        exchange();
        missing();
        missingMore();
        Due.end();
    }

    private static void way(TinCans x, String call, int a, int b, int past, int... want) {
        Due.is(16, call + " strings", x.best(a, b, past, 1), want.length - 1);
        for (int k = 0; k < want.length; k++) {
            Due.is(16, call + " window " + k, x.best(a, b, past, 10 + k), want[k]);
        }
        Due.is(16, call + " behind its end", x.best(a, b, past, 10 + want.length), -1);
    }

    private static void best() {
        TinCans x = Due.told(RING + "wash 0 3 2;string 0 2 knots 1;");
        Due.is(16, "best(0, 2, 0, 0)", x.best(0, 2, 0, 0), 10);
        way(x, "best(0, 2, 0)", 0, 2, 0, 0, 1, 2);
        Due.is(16, "best(0, 2, 2, 0)", x.best(0, 2, 2, 0), 11);
        way(x, "best(0, 2, 2)", 0, 2, 2, 0, 2);
        way(x, "best(2, 5, 0)", 2, 5, 0, 2, 1, 0, 5);
        Due.is(16, "best(2, 5, 1, 0)", x.best(2, 5, 1, 0), 15);
        way(x, "best(2, 5, 1)", 2, 5, 1, 2, 3, 4, 5);
        Due.is(16, "best(2, 5, 1 + 8, 0)", x.best(2, 5, 9, 0), -1);
        Due.is(16, "best(2, 5, 1 + 8, 1)", x.best(2, 5, 9, 1), -1);
        Due.is(16, "best(2, 5, 1 + 8, 10)", x.best(2, 5, 9, 10), -1);
        x = Due.told("windows 6;wash 0 3 2;string 2 4;string 2 3;string 3 4;");
        way(x, "best(2, 4, 0), taut", 2, 4, 0, 2, 4);
        x.pass(1);
        Due.is(16, "best(2, 4, 0, 0), slack", x.best(2, 4, 0, 0), 10);
        way(x, "best(2, 4, 0), slack", 2, 4, 0, 2, 3, 4);
        Due.is(16, "best(2, 4, 8, 0), slack", x.best(2, 4, 8, 0), -1);
    }

    private static void bestOfLikeOnes() {
        TinCans x = Due.told(RING);
        way(x, "best(0, 3, 0)", 0, 3, 0, 0, 1, 2, 3);
        way(x, "best(3, 0, 0)", 3, 0, 0, 3, 2, 1, 0);
        way(x, "best(5, 2, 0)", 5, 2, 0, 5, 0, 1, 2);
        way(x, "best(0, 3, 2)", 0, 3, 2, 0, 5, 4, 3);
        // 15 and 15 beside 24 and two knots: the fewest strings go first
        x = Due.told("windows 6;damp 20;string 0 1;string 1 2;string 2 0 knots 2;");
        Due.is(16, "best(0, 2, 0, 0)", x.best(0, 2, 0, 0), 30);
        way(x, "best(0, 2, 0)", 0, 2, 0, 0, 2);
        // the first by windows, though the lesser window comes late on the other way
        x = Due.told("windows 4;string 3 2;string 2 1;string 3 0;string 0 1;");
        way(x, "best(1, 3, 0)", 1, 3, 0, 1, 0, 3);
        way(x, "best(3, 1, 0)", 3, 1, 0, 3, 0, 1);
        StringBuilder line = new StringBuilder("windows 12;heard 121;");
        for (int w = 0; w < 11; w++) {
            line.append("string ").append(w).append(' ').append(w + 1).append(" knots 9;");
        }
        x = Due.told(line.toString());
        Due.is(16, "best(0, 11, 0, 0)", x.best(0, 11, 0, 0), 11 * (11 + 27));
        Due.is(16, "best(0, 11, 0, 21)", x.best(0, 11, 0, 21), 11);
        Due.is(16, "best(11, 0, 0, 21)", x.best(11, 0, 0, 21), 0);
        Due.is(16, "best(0, 10, 0, 21)", x.best(0, 10, 0, 21), -1);
    }

    private static void bestRefused() {
        TinCans x = Due.told(RING);
        Due.is(16, "best(6, 0, 0, 0)", x.best(6, 0, 0, 0), -2);
        Due.is(16, "best(0, 6, 0, 0)", x.best(0, 6, 0, 0), -2);
        Due.is(16, "best(-1, 0, 0, 0)", x.best(-1, 0, 0, 0), -2);
        Due.is(16, "best(2, 2, 0, 0)", x.best(2, 2, 0, 0), -2);
        Due.is(16, "best(0, 1, 64, 2)", x.best(0, 1, 64, 2), -2);
        Due.is(16, "best(0, 1, 0, 9)", x.best(0, 1, 0, 9), -2);
        Due.is(16, "best(0, 1, 0, 22)", x.best(0, 1, 0, 22), -2);
        Due.is(16, "best(0, 1, 0, -1)", x.best(0, 1, 0, -1), -2);
        Due.is(16, "best(0, 1, 0, 21)", x.best(0, 1, 0, 21), -1);
        Due.is(16, "best(0, 1, 64, 0)", x.best(0, 1, 64, 0), -3);
        Due.is(16, "best(0, 1, 1, 0)", x.best(0, 1, 1, 0), -3);
        Due.is(16, "best(0, 1, 2, 0)", x.best(0, 1, 2, 0), -3);
        Due.is(16, "best(0, 1, -1, 0)", x.best(0, 1, -1, 0), -3);
        Due.is(16, "best(0, 1, MIN, 0)", x.best(0, 1, Integer.MIN_VALUE, 0), -3);
        Due.is(16, "best(0, 1, 60, 0)", x.best(0, 1, 60, 0), 5);
        x = Due.told("windows 6;");
        Due.is(16, "best(0, 1, 1, 0) without strings", x.best(0, 1, 1, 0), -3);
        Due.is(16, "best(0, 1, 0, 5) without strings", x.best(0, 1, 0, 5), -2);
        Due.is(16, "best(0, 1, 0, 0) without strings", x.best(0, 1, 0, 0), -1);
    }

    private static void hears() {
        TinCans x = Due.told(RING + "heard 10;");
        Due.is(17, "hears(0)", x.hears(0), 2 + 4 + 16 + 32);
        Due.is(17, "hears(4)", x.hears(4), 1 + 4 + 8 + 32);
        x.damp(2);
        Due.is(17, "hears(0), damp 2", x.hears(0), 2 + 32);
        x.damp(1);
        Due.is(17, "hears(0), damp 1", x.hears(0), 2 + 4 + 16 + 32);
        x.knot(1);
        Due.is(17, "hears(0), a knot", x.hears(0), 2 + 16 + 32);
        x = Due.told("windows 4;");
        Due.is(17, "hears(3)", x.hears(3), 0);
        Due.is(17, "hears(4)", x.hears(4), -2);
        Due.is(17, "hears(-1)", x.hears(-1), -2);
    }

    private static void overhears() {
        TinCans x = Due.told(RING + "heard 1;");
        Due.is(18, "overhears(0, 3)", x.overhears(0, 3), 2 + 4);
        Due.is(18, "overhears(4, 1)", x.overhears(4, 1), 4 + 8);
        Due.is(18, "overhears(0, 1)", x.overhears(0, 1), 0);
        x.cut(22);
        Due.is(18, "overhears(0, 3)", x.overhears(0, 3), 16 + 32);
        x.cut(64);
        Due.is(18, "overhears(0, 3)", x.overhears(0, 3), 0);
        Due.is(18, "overhears(0, 0)", x.overhears(0, 0), -2);
        Due.is(18, "overhears(0, 6)", x.overhears(0, 6), -2);
        Due.is(18, "overhears(-1, 0)", x.overhears(-1, 0), -2);
    }

    private static void needs() {
        TinCans x = Due.told(RING + "heard 15;");
        Due.is(19, "needs(0, 3)", x.needs(0, 3), -1);
        Due.is(19, "needs(0, 2)", x.needs(0, 2), 1);
        Due.is(19, "needs(4, 1)", x.needs(4, 1), -1);
        Due.is(19, "needs(5, 3)", x.needs(5, 3), 4);
        Due.is(19, "needs(5, 1)", x.needs(5, 1), 0);
        Due.is(19, "needs(0, 1)", x.needs(0, 1), -1);
        x.cut(5);
        Due.is(19, "needs(3, 0)", x.needs(3, 0), 1);
        Due.is(19, "needs(0, 4), not heard", x.needs(0, 4), -1);
        Due.is(19, "needs(0, 0)", x.needs(0, 0), -2);
        Due.is(19, "needs(0, 6)", x.needs(0, 6), -2);
        Due.is(19, "needs(-1, 2)", x.needs(-1, 2), -2);
        Due.is(19, "needs(2, 2)", Due.told("windows 3;").needs(2, 2), -2);
    }

    private static void openHours() {
        // 2-4 is slack at 1, 2 and 11; the way round it, 13, is heard; at 4 and 11 it is all slack
        TinCans x = Due.told("windows 6;heard 13;wash 0 3 2054;wash 5 3 2064;string 2 4;string 2 3 knots 1;string 3 4;");
        Due.is(20, "openHours(44)", x.openHours(44), 4095);
        x.knot(64);
        Due.is(20, "openHours(44)", x.openHours(44), 4095 - 2 - 4 - 16 - 2048);
        x.pass(11);
        Due.is(20, "openHours(44) at another hour", x.openHours(44), 4095 - 2 - 4 - 16 - 2048);
        Due.is(20, "openHours(43)", x.openHours(43), 4095);
        Due.is(20, "openHours(1)", x.openHours(1), 0);
        x.tie(1, 0);
        x.tie(5, 0);
        Due.is(20, "openHours(25) over 0", x.openHours(25), 4095);
        x.knot(1);
        x.knot(1);
        Due.is(20, "openHours(25) over 0", x.openHours(25), 0);
        Due.is(20, "openHours(0)", x.openHours(0), -2);
        Due.is(20, "openHours(6)", x.openHours(6), -2);
        Due.is(20, "openHours(-1)", x.openHours(-1), -2);
    }

    private static void parts() {
        TinCans x = Due.told("windows 7;heard 1;wash 0 3 1;string 2 4;string 0 1;string 1 2;string 5 6;");
        Due.is(21, "part(0)", x.part(0), 7);
        Due.is(21, "part(2)", x.part(2), 7);
        Due.is(21, "part(3)", x.part(3), 8);
        Due.is(21, "part(4)", x.part(4), 16);
        Due.is(21, "part(6)", x.part(6), 96);
        Due.is(21, "part(7)", x.part(7), -2);
        Due.is(21, "part(-1)", x.part(-1), -2);
        Due.is(22, "parts()", x.parts(), 4);
        x.pass(1);
        Due.is(21, "part(0)", x.part(0), 23);
        Due.is(22, "parts()", x.parts(), 3);
        Due.is(22, "parts() without strings", Due.told("windows 12;").parts(), 12);
        Due.is(22, "parts() of a ring", Due.told(RING).parts(), 1);
    }

    private static void stay() {
        TinCans x = Due.told("windows 8;wash 5 7 2;string 6 7;string 4 5;string 0 1;string 1 2;string 0 2;string 2 4;"
                + "string 6 4;");
        Due.is(23, "stay(-1)", x.stay(-1), 4);
        Due.is(23, "stay(0)", x.stay(0), 44);
        Due.is(23, "stay(1)", x.stay(1), 85);
        Due.is(23, "stay(2)", x.stay(2), 86);
        Due.is(23, "stay(3)", x.stay(3), 127);
        Due.is(23, "stay(4)", x.stay(4), -1);
        Due.is(23, "stay(-2)", x.stay(-2), -1);
        Due.is(23, "stay(MIN)", x.stay(Integer.MIN_VALUE), -1);
        x.pass(1);
        Due.is(23, "stay(-1), 4-6 slack", x.stay(-1), 3);
        Due.is(23, "stay(2), 4-6 slack", x.stay(2), 127);
        Due.is(23, "stay(-1) of a ring", Due.told(RING).stay(-1), 0);
        Due.is(23, "stay(0) of a ring", Due.told(RING).stay(0), -1);
    }

    private static void brace() {
        // a line 0 to 5: closing it all braces most; then it may not be, for want of cans
        TinCans x = Due.told("windows 6;string 0 1;string 1 2;string 2 3;string 3 4;string 4 5;");
        Due.is(24, "brace()", x.brace(), 5);
        Due.is(24, "count(1)", x.count(1), 5);
        x = Due.told("windows 6;cans 0 1;string 0 1;string 1 2;string 2 3;string 3 4;string 4 5;");
        Due.is(24, "brace() with one can at 0", x.brace(), 25);
        // now 1-5, 1-4, 2-4 and 2-5 would be slack; 1-3 leaves three stays, as 3-5 does
        x = Due.told("windows 6;cans 0 1;wash 0 3 4095;string 0 1;string 1 2;string 2 3;string 3 4;string 4 5;");
        Due.is(24, "brace() under washing", x.brace(), 23);
        // nothing to brace: each pair is a stay then, the shortest and least goes first
        Due.is(24, "brace() without strings", Due.told("windows 5;").brace(), 1);
        Due.is(24, "brace() without strings", Due.told("windows 5;cans 0 0;").brace(), 22);
        // 0-2 and 3-5 each leave two stays, pairs between the lines one more than there are
        x = Due.told("windows 7;string 0 1;string 1 2;string 3 4;string 4 5;");
        Due.is(24, "brace() of two lines", x.brace(), 2);
        // 0-2 has a lesser number than 2-3, but is longer
        Due.is(24, "brace() without 1 and 5", Due.told("windows 6;cans 1 0;cans 5 0;").brace(), 43);
        Due.is(24, "brace() of a full court", Due.told("windows 3;string 0 1;string 1 2;string 2 0;").brace(), -1);
        Due.is(24, "brace() of a ring", Due.told(RING).brace(), 2);
    }

    private static void both() {
        TinCans x = Due.told(RING);
        Due.is(25, "both(1, 64)", x.both(1, 64), 10);
        Due.is(25, "both(2, 65)", x.both(2, 65), 20);
        Due.is(25, "both(65, 2)", x.both(65, 2), 20);
        Due.is(25, "both(3, 24)", x.both(3, 24), -1);
        // 0 to 3 goes round, for 1 and 2 are the other's
        Due.is(25, "both(3, 22)", x.both(3, 22), 20);
        Due.is(25, "both(22, 3)", x.both(22, 3), 20);
        Due.is(25, "both(25, 43) over 0", x.both(25, 43), 15);
        x.knot(64);
        Due.is(25, "both(3, 22)", x.both(3, 22), 23);
        x.cut(64);
        Due.is(25, "both(3, 22)", x.both(3, 22), -1);
        // alone 0-3 would pass 1 (20), and 1-2 is nearest; together 0-3 goes over 7 to 4
        x = Due.told("windows 8;string 0 1;string 1 3;string 1 2;string 2 3;string 0 7;string 7 4;string 3 4;");
        Due.is(25, "best(0, 3, 0, 0)", x.best(0, 3, 0, 0), 19);
        Due.is(25, "both(3, 22)", x.both(3, 22), 7 + 15 + 7 + 7);
        Due.is(25, "both(1, 1)", x.both(1, 1), -3);
        Due.is(25, "both(1, 22)", x.both(1, 22), -3);
        Due.is(25, "both(22, 2)", x.both(22, 2), -3);
        Due.is(25, "both(0, 1)", x.both(0, 1), -2);
        Due.is(25, "both(1, 8)", x.both(1, 8), -2);
        Due.is(25, "both(-1, 1)", x.both(-1, 1), -2);
    }

    private static void renewed() {
        TinCans x = Due.told("windows 6;wash 0 2 2;string 0 1 knots 2;string 1 2 knots 1;string 2 3;string 3 4;string 4 5;"
                + "string 5 0;");
        Due.is(26, "renewed(2, 0)", x.renewed(2, 0), 6);
        Due.is(26, "renewed(2, 1)", x.renewed(2, 1), 1);
        Due.is(26, "renewed(22, 0)", x.renewed(22, 0), 3);
        Due.is(26, "renewed(22, 1)", x.renewed(22, 1), 22);
        x.knot(22);
        // now 20 round the other side is best: the first of two that would lessen it by 4
        Due.is(26, "best(0, 2, 0, 0)", x.best(0, 2, 0, 0), 20);
        Due.is(26, "renewed(2, 0)", x.renewed(2, 0), 4);
        Due.is(26, "renewed(2, 1)", x.renewed(2, 1), 1);
        Due.is(26, "renewed(43, 0)", x.renewed(43, 0), 0);
        Due.is(26, "renewed(43, 1)", x.renewed(43, 1), -1);
        Due.is(26, "renewed(2, 2)", x.renewed(2, 2), -2);
        Due.is(26, "renewed(2, -1)", x.renewed(2, -1), -2);
        Due.is(26, "renewed(0, 0)", x.renewed(0, 0), -2);
        // a string that is not on the best way lessens it most
        x = Due.told("windows 6;wash 1 3 2;string 0 1;string 1 2;string 0 2 knots 5;");
        Due.is(26, "renewed(2, 0)", x.renewed(2, 0), 2);
        Due.is(26, "renewed(2, 1)", x.renewed(2, 1), 2);
        x.pass(1);
        Due.is(26, "renewed(2, 0), 0-2 slack", x.renewed(2, 0), 0);
        Due.is(26, "renewed(2, 1), 0-2 slack", x.renewed(2, 1), -1);
        Due.is(26, "renewed(3, 0)", x.renewed(3, 0), -5);
        Due.is(26, "renewed(3, 1)", x.renewed(3, 1), -5);
        Due.is(26, "renewed(3, 2)", x.renewed(3, 2), -2);
    }

    private static void exchange() {
        TinCans x = Due.told("windows 6;string 0 1;string 1 2;string 2 3;string 3 4 knots 1;heard 13;");
        // heard at: 0: 1, 2; 1: 0, 2, 3; 2: 0, 1, 3, 4; 3: 1, 2, 4; 4: 2, 3
        Due.is(27, "exchange(0)", x.exchange(0), 2);
        Due.is(27, "exchange(1)", x.exchange(1), 4);
        Due.is(27, "exchange(2)", x.exchange(2), 10 + 5 + 5 + 13);
        x.cut(64);
        Due.is(27, "exchange(0) of like ones", x.exchange(0), 1);
        Due.is(27, "exchange(1) of like ones", x.exchange(1), 3);
        Due.is(27, "exchange(2) of like ones", x.exchange(2), 20);
        TinCans three = Due.told("windows 6;string 0 1;string 1 2;string 0 2;");
        Due.is(27, "exchange(0), the least loss", three.exchange(0), 1);
        Due.is(27, "exchange(1), the least loss", three.exchange(1), 2);
        Due.is(27, "exchange(2), the least loss", three.exchange(2), 10);
        Due.is(27, "exchange(3)", x.exchange(3), -2);
        Due.is(27, "exchange(-1)", x.exchange(-1), -2);
        x = Due.told("windows 3;");
        Due.is(27, "exchange(0) without strings", x.exchange(0), 0);
        Due.is(27, "exchange(1) without strings", x.exchange(1), 0);
        Due.is(27, "exchange(2) without strings", x.exchange(2), 0);
        x = new TinCans();
        Due.is(27, "exchange(0) without windows", x.exchange(0), -1);
        Due.is(27, "exchange(1) without windows", x.exchange(1), -1);
        Due.is(27, "exchange(2) without windows", x.exchange(2), -1);
        Due.is(27, "exchange(3) without windows", x.exchange(3), -2);
    }

    private static void missingIs(TinCans x, int a, int b, int size, int first, int second) {
        String call = "missing(" + a + ", " + b + ", ";
        Due.is(28, call + "0)", x.missing(a, b, 0), size);
        Due.is(28, call + "1)", x.missing(a, b, 1), first);
        Due.is(28, call + "2)", x.missing(a, b, 2), second);
    }

    private static void missing() {
        TinCans x = Due.told("windows 6;heard 1;string 0 1;string 1 2;string 3 4;");
        missingIs(x, 0, 2, 0, -1, -1);
        missingIs(x, 2, 0, 0, -1, -1);
        missingIs(x, 0, 4, 1, 3, -1);
        missingIs(x, 4, 0, 1, 3, -1);
        missingIs(x, 5, 3, 1, 65, -1);
        Due.is(28, "count(1)", x.count(1), 3);
        // once their only cans are taken by one another, no third window can be joined to them
        x = Due.told("windows 6;cans 0 1;cans 5 1;wash 1 3 4095;");
        missingIs(x, 0, 5, 1, 5, -1);
        x.tie(5, 0);
        missingIs(x, 0, 4, -1, -1, -1);
        x = Due.told("windows 12;");
        missingIs(x, 1, 0, 1, 1, -1);
        missingIs(x, 10, 11, 1, 211, -1);
        x = Due.told("windows 6;cans 2 0;cans 4 0;");
        missingIs(x, 2, 4, -1, -1, -1);
        Due.is(28, "missing(6, 0, 0)", x.missing(6, 0, 0), -2);
        Due.is(28, "missing(0, -1, 0)", x.missing(0, -1, 0), -2);
        Due.is(28, "missing(3, 3, 0)", x.missing(3, 3, 0), -2);
        Due.is(28, "missing(2, 4, 3)", x.missing(2, 4, 3), -2);
        Due.is(28, "missing(2, 4, -1)", x.missing(2, 4, -1), -2);
    }

    private static void missingMore() {
        // 2-5 crosses 0-3; each of 0 and 3 has a can more: by two strings over 0, the least numbers
        TinCans x = Due.told("windows 6;string 0 3;");
        missingIs(x, 2, 5, 2, 2, 5);
        Due.is(28, "count(1)", x.count(1), 1);
        missingIs(x, 1, 4, 2, 1, 4);
        // with a last can at 0 only one of both strings could be tied there, so they meet at 3
        x = Due.told("windows 6;cans 0 2;string 0 3;");
        missingIs(x, 2, 5, 2, 2, 65);
        // the wash makes 2-5 slack, and 0-2 and 3-5: they meet where the wash ends
        x = Due.told("windows 6;wash 1 4 1;");
        missingIs(x, 2, 5, 2, 22, 25);
        x.pass(1);
        missingIs(x, 2, 5, 1, 45, -1);
        x = Due.told("windows 6;cans 1 1;wash 0 3 4095;string 0 3;");
        missingIs(x, 2, 4, 2, 2, 4);
        // a string that is slack now keeps its pair from being tied again
        x = Due.told("windows 4;cans 1 1;cans 3 1;wash 0 2 4095;string 1 3;");
        missingIs(x, 1, 3, -1, -1, -1);
        x.cut(23);
        missingIs(x, 1, 3, 2, 1, 3);
    }
}
