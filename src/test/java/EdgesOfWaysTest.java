/** The boundary cases of ways, of what is heard, and of promises 16 to 22, a sentence each. */
public final class EdgesOfWaysTest {
    /** Sides are 5 long, pairs over one window 8, pairs over two 9. */
    private static final String RING = Courts.ring(6);
    /** Twelve windows in a row, each string 11 long. */
    private static final String LINE = Courts.line(12);

    private EdgesOfWaysTest() {
    }

    public static void main(String[] args) {
        way();
        bestOfSeveral();
        heard();
        past();
        best();
        bestNone();
        bestNoSuch();
        bestCannotBe();
        hears();
        overhears();
        needs();
        needsRefused();
        openHours();
        part();
        parts();
        Script.end();
    }

    private static void wayIs(Script x, String call, int loss, int... want) {
        x.looks(call + ", 0)", loss).looks(call + ", 1)", want.length - 1);
        for (int k = 0; k < 12; k++) {
            x.due(call + ", " + (10 + k) + ")", k < want.length ? want[k] : -1);
        }
    }

    private static void way() {
        Script.says(0, "A WAY: a row of WINDOWS, no one twice, each two beside one another with a STRING between them"
                + " that isn't SLACK now. Its LOSS: of all STRINGS together.");
        Script x = Script.of(LINE);
        wayIs(x, "best(0, 11, 0", 121, 0, 1, 2, 3, 4, 5, 6, 7, 8, 9, 10, 11);
        wayIs(x, "best(11, 0, 0", 121, 11, 10, 9, 8, 7, 6, 5, 4, 3, 2, 1, 0);
        wayIs(x, "best(5, 6, 0", 11, 5, 6);
        // the most that can be lost: eleven strings, damp 20, nine knots each
        x.did("damp(20)");
        for (int w = 0; w < 11; w++) {
            for (int i = 0; i < 9; i++) {
                x.did("knot(" + (21 * w + 1) + ")");
            }
        }
        x.due("best(0, 11, 0, 0)", 11 * (33 + 27)).due("best(0, 11, 0, 1)", 11);
        // slack now, and no more an hour later; slack again twelve hours later
        x = Script.of("windows 4;wash 0 2 1;string 1 3;string 1 2;string 2 3;");
        wayIs(x, "best(1, 3, 0", 6, 1, 2, 3);
        x.did("pass(1)");
        wayIs(x, "best(1, 3, 0", 4, 1, 3);
        x.did("pass(11)").due("best(1, 3, 0, 0)", 6).did("cut(43)").due("best(1, 3, 0, 0)", -1);
    }

    private static void bestOfSeveral() {
        Script.says(0, "BEST from one to another one: with the least LOSS, of like ones with the fewest STRINGS, then"
                + " the first by WINDOWS.");
        // least loss goes ahead of fewest strings: 10 beside 11, then 13 beside 11
        Script x = Script.of("windows 6;string 0 1;string 1 2;string 0 2 knots 1;");
        wayIs(x, "best(0, 2, 0", 10, 0, 1, 2);
        x = Script.of("windows 6;string 0 1 knots 1;string 1 2;string 0 2 knots 1;");
        wayIs(x, "best(0, 2, 0", 11, 0, 2);
        // of like ones, 30, the fewest strings, though 0 1 2 would be the first by windows
        x = Script.of("windows 6;damp 20;string 0 1;string 1 2;string 0 2 knots 2;");
        wayIs(x, "best(0, 2, 0", 30, 0, 2);
        wayIs(x, "best(2, 0, 0", 30, 2, 0);
        x.did("knot(2)");
        wayIs(x, "best(0, 2, 0", 30, 0, 1, 2);
        // then the first by windows, from where it begins: its first step counts most
        x = Script.of(RING);
        wayIs(x, "best(0, 3, 0", 15, 0, 1, 2, 3);
        wayIs(x, "best(3, 0, 0", 15, 3, 2, 1, 0);
        wayIs(x, "best(5, 2, 0", 15, 5, 0, 1, 2);
        wayIs(x, "best(2, 5, 0", 15, 2, 1, 0, 5);
        wayIs(x, "best(4, 1, 0", 15, 4, 3, 2, 1);
        // they part at the second step: 0 1 2 .. beside 0 1 5 ..
        x = Script.of("windows 7;string 0 1;string 1 2;string 2 3;string 3 4;string 1 6;string 6 5;string 5 4;");
        wayIs(x, "best(0, 4, 0", 24, 0, 1, 2, 3, 4);
        wayIs(x, "best(4, 0, 0", 24, 4, 3, 2, 1, 0);
    }

    private static void heard() {
        Script.says(0, "It is HEARD, if its LOSS is not above heard.");
        Script x = Script.of("windows 6;heard 10;string 0 1;string 1 2;string 2 3;");
        x.due("hears(0)", 2 + 4).due("openHours(2)", 4095).due("openHours(3)", 0).due("exchange(1)", 3);
        x.row(0, 1, 2, 3).due("calls(0, 10)", 0).due("calls(0, 11)", -1).due("needs(0, 2)", 1).due("needs(0, 3)", -1);
        x = Script.of("windows 6;heard 9;string 0 1;string 1 2;string 2 3;");
        x.due("hears(0)", 2).due("openHours(2)", 0).due("exchange(1)", 2).due("needs(0, 2)", -1);
        x.row(0, 1, 2, 1).due("calls(0, 10)", -1).due("calls(0, 11)", 0);
        // 999 of 12 windows, and 1: nothing is heard as little as that
        Script.of(LINE + "heard 999;").due("hears(0)", 4094).due("hears(11)", 2047);
        Script.of("windows 3;heard 1;string 0 1;").due("hears(0)", 0).due("openHours(1)", 0);
        Script.of("windows 3;heard 2;string 0 1;").due("hears(0)", 2).due("openHours(1)", 4095);
        // 60 without a line: 5 sides of 12 are 55, six are 66
        Script.of(LINE).due("hears(0)", 62).due("hears(6)", 4095 - 1 - 64);
    }

    private static void past() {
        Script.says(0, "PAST a set (without both ends): without these WINDOWS.");
        Script x = Script.of(RING);
        wayIs(x, "best(0, 3, 2", 15, 0, 5, 4, 3);
        wayIs(x, "best(0, 3, 4", 15, 0, 5, 4, 3);
        wayIs(x, "best(0, 2, 2", 20, 0, 5, 4, 3, 2);
        x.looks("best(0, 3, 18, 0)", -1).looks("best(0, 3, 18, 1)", -1).looks("best(0, 3, 18, 10)", -1);
        // all but both ends: what is left is their own string
        x.looks("best(0, 1, 60, 0)", 5).looks("best(1, 0, 60, 1)", 1).looks("best(5, 0, 30, 0)", 5);
        x.looks("best(0, 3, 54, 0)", -1).looks("best(0, 1, 32, 0)", 5);
        Script.of(LINE).looks("best(10, 11, 1023, 0)", 11).looks("best(0, 1, 4092, 0)", 11)
                .looks("best(0, 10, 2048, 1)", 10).looks("best(0, 11, 1024, 1)", -1);
    }

    private static void best() {
        Script.says(16, "BEST from a WINDOW to another one PAST a set, what 0: LOSS, 1: STRINGS, 10 + k: WINDOW k of it"
                + " (0: the first).");
        Script x = Script.of("windows 3;string 0 1;string 1 2;");
        wayIs(x, "best(0, 2, 0", 4, 0, 1, 2);
        wayIs(x, "best(2, 0, 0", 4, 2, 1, 0);
        wayIs(x, "best(1, 0, 0", 2, 1, 0);
    }

    private static void bestNone() {
        Script.says(16, "NONE: there is no WAY, not so many");
        Script x = Script.of("windows 3;string 0 1;");
        x.looks("best(0, 2, 0, 0)", -1).looks("best(0, 2, 0, 1)", -1).looks("best(0, 2, 0, 10)", -1);
        x.looks("best(2, 1, 0, 11)", -1).looks("best(2, 1, 0, 21)", -1);
        x.looks("best(0, 1, 0, 11)", 1).looks("best(0, 1, 0, 12)", -1).looks("best(0, 1, 0, 21)", -1);
        Script.of(LINE).looks("best(0, 10, 0, 20)", 10).looks("best(0, 10, 0, 21)", -1).looks("best(0, 11, 0, 21)", 11);
    }

    private static void bestNoSuch() {
        Script.says(16, "-2: a WINDOW, both one, what (10 to 21) (all as numbers alone)");
        Script x = Script.of(RING).did("cut(5)").did("cut(1)").did("image(0)");
        x.refused("best(6, 0, 0, 0)", -2).refused("best(0, 6, 0, 0)", -2).refused("best(-1, 0, 0, 0)", -2);
        x.refused("best(0, -1, 0, 0)", -2).refused("best(MIN, 0, 0, 0)", -2).refused("best(0, MAX, 0, 0)", -2);
        x.refused("best(12, 0, 0, 0)", -2).refused("best(32, 1, 0, 0)", -2);
        x.refused("best(2, 2, 0, 0)", -2).refused("best(0, 0, 0, 10)", -2);
        for (String what : new String[] {"2", "3", "9", "22", "23", "-1", "-10", "MIN", "MAX"}) {
            x.refused("best(1, 2, 0, " + what + ")", -2);
            // though there is no way
            x.refused("best(0, 1, 0, " + what + ")", -2);
            // though the set can't be
            x.refused("best(1, 2, 64, " + what + ")", -2).refused("best(1, 2, 2, " + what + ")", -2);
        }
        x.refused("best(6, 0, -1, 0)", -2).refused("best(3, 3, 8, 0)", -2).refused("best(3, 3, 64, 5)", -2);
        x.due("best(5, 1, 0, 0)", 20).due("best(0, 1, 0, 0)", -1);
        new Script().refused("best(0, 0, 0, 0)", -2).refused("best(0, 1, 0, 5)", -2).refused("best(0, 1, 1, 0)", -2);
    }

    private static void bestCannotBe() {
        Script.says(16, "-3: a set with others than WINDOWS, with an end.");
        Script x = Script.of(RING);
        for (String past : new String[] {"64", "128", "4096", "66", "MIN", "-1", "-64", "MAX"}) {
            x.refused("best(0, 3, " + past + ", 0)", -3).refused("best(0, 3, " + past + ", 21)", -3);
        }
        x.refused("best(0, 3, 1, 0)", -3).refused("best(0, 3, 8, 0)", -3).refused("best(0, 3, 9, 1)", -3);
        x.refused("best(0, 3, 3, 10)", -3).refused("best(0, 3, 63, 0)", -3).due("best(0, 3, 32, 0)", 15);
        x.refused("best(5, 2, 32, 0)", -3).due("best(4, 2, 32, 0)", 10);
        // though there is no way
        x.did("cut(1)").did("cut(5)").refused("best(0, 3, 1, 0)", -3).refused("best(0, 3, 64, 10)", -3);
        x.due("best(0, 3, 2, 0)", -1);
        Script.of(LINE).refused("best(0, 1, 4096, 0)", -3).due("best(0, 1, 2048, 0)", 11);
        Script.of("windows 3;").refused("best(0, 1, 8, 0)", -3).due("best(0, 1, 4, 0)", -1);
    }

    private static void hears() {
        Script.says(17, "WINDOWS to which BEST from one is HEARD (not she herself), as bits. -2.");
        Script x = Script.of(LINE + "heard 121;");
        x.looks("hears(0)", 4094).looks("hears(11)", 2047).looks("hears(5)", 4095 - 32);
        x = Script.of(LINE + "heard 120;");
        x.looks("hears(0)", 2046).looks("hears(11)", 2046).looks("hears(5)", 4095 - 32);
        x = Script.of("windows 3;").looks("hears(0)", 0).looks("hears(2)", 0);
        x.refused("hears(3)", -2).refused("hears(-1)", -2).refused("hears(12)", -2).refused("hears(MIN)", -2);
        x.refused("hears(MAX)", -2);
        // slack now: not heard; what is not heard is heard again without its knot
        x = Script.of("windows 4;heard 4;wash 0 2 1;string 1 3;").looks("hears(1)", 0).did("pass(1)");
        x.looks("hears(1)", 8).looks("hears(3)", 2).did("knot(23)").looks("hears(3)", 0);
        new Script().refused("hears(0)", -2);
    }

    private static void overhears() {
        Script.says(18, "WINDOWS between, on BEST, as bits (0: none, no WAY).");
        Script x = Script.of(LINE + "heard 1;");
        x.looks("overhears(0, 11)", 2046).looks("overhears(11, 0)", 2046).looks("overhears(3, 5)", 16);
        x.looks("overhears(3, 4)", 0).looks("overhears(11, 10)", 0);
        x.did("cut(106)").looks("overhears(0, 11)", 0).looks("overhears(5, 6)", 0);
        // of like ones the first by windows, seen from either end
        x = Script.of(RING).looks("overhears(0, 3)", 2 + 4).looks("overhears(3, 0)", 2 + 4);
        x.looks("overhears(4, 1)", 4 + 8).looks("overhears(1, 4)", 1 + 32);
        Script.says(18, "-2: a WINDOW, both one.");
        x.refused("overhears(0, 0)", -2).refused("overhears(5, 5)", -2).refused("overhears(0, 6)", -2);
        x.refused("overhears(6, 0)", -2).refused("overhears(-1, 0)", -2).refused("overhears(0, -1)", -2);
        x.refused("overhears(MIN, MAX)", -2).refused("overhears(6, 6)", -2);
        new Script().refused("overhears(0, 1)", -2).refused("overhears(0, 0)", -2);
    }

    private static void needs() {
        Script.says(19, "The least WINDOW (neither of both) PAST which there is no WAY between two that is HEARD,"
                + " though there is one now. NONE: none");
        Script x = Script.of(LINE + "heard 121;").looks("needs(0, 11)", 1).looks("needs(11, 0)", 1);
        x.looks("needs(3, 9)", 4).looks("needs(9, 11)", 10).looks("needs(0, 1)", -1).looks("needs(11, 10)", -1);
        // there is a way, but none that is heard
        Script.of(LINE + "heard 120;").looks("needs(0, 11)", -1).looks("needs(0, 10)", 1);
        // round the other side it is heard, just so
        x = Script.of(RING + "heard 20;").looks("needs(0, 2)", -1).looks("needs(0, 3)", -1).looks("needs(0, 1)", -1);
        x = Script.of(RING + "heard 19;").looks("needs(0, 2)", 1).looks("needs(0, 3)", -1).looks("needs(5, 1)", 0);
        x.looks("needs(1, 5)", 0).looks("needs(3, 5)", 4);
        // no way at all
        Script.of("windows 3;string 0 1;").looks("needs(0, 2)", -1).looks("needs(2, 1)", -1);
    }

    private static void needsRefused() {
        Script.says(19, "-2: a WINDOW, both one (as a number alone).");
        Script x = Script.of("windows 3;string 0 1;string 1 2;");
        x.refused("needs(0, 0)", -2).refused("needs(2, 2)", -2).refused("needs(0, 3)", -2).refused("needs(3, 0)", -2);
        x.refused("needs(-1, 0)", -2).refused("needs(0, -1)", -2).refused("needs(MIN, MAX)", -2);
        x.due("needs(0, 2)", 1);
        new Script().refused("needs(0, 0)", -2).refused("needs(0, 1)", -2);
    }

    private static void openHours() {
        Script.says(0, "OPEN HOURS of a PAIR: HOURS modulo 12 (bits) at which there is a WAY that is HEARD, STRINGS as"
                + " they are.");
        Script x = Script.of("windows 4;heard 4;wash 0 2 2049;string 1 3;").looks("openHours(23)", 2046);
        // the hour it is now is of no matter
        x.did("pass(11)").looks("openHours(23)", 2046).did("pass(1)").looks("openHours(23)", 2046);
        x.did("knot(23)").looks("openHours(23)", 0);
        // round it, heard just so at the hours of washing; with damp no more
        x = Script.of("windows 4;heard 6;wash 0 2 2049;string 1 3;string 1 2;string 2 3;").looks("openHours(23)", 4095);
        x.did("damp(2)").looks("openHours(23)", 4095).did("damp(4)").looks("openHours(23)", 2046);
        Script.of("windows 4;").looks("openHours(23)", 0).looks("openHours(1)", 0);
        Script.of("windows 4;wash 0 2 0;string 1 3;").looks("openHours(23)", 4095);
        Script.of("windows 4;wash 0 2 4095;string 1 3;").looks("openHours(23)", 0);
        Script.says(20, "OPEN HOURS of a PAIR, as bits. -2.");
        x.refused("openHours(0)", -2).refused("openHours(20)", -2).refused("openHours(4)", -2);
        x.refused("openHours(63)", -2).refused("openHours(-1)", -2).refused("openHours(MIN)", -2);
        x.refused("openHours(MAX)", -2).looks("openHours(43)", 4095);
        new Script().refused("openHours(1)", -2);
    }

    private static void part() {
        Script.says(21, "WINDOWS of the PART of one, as bits. -2.");
        Script x = Script.of(LINE + "heard 1;").looks("part(0)", 4095).looks("part(11)", 4095).did("cut(106)");
        x.looks("part(0)", 63).looks("part(5)", 63).looks("part(6)", 4032).looks("part(11)", 4032);
        x = Script.of("windows 4;wash 0 2 1;string 1 3;").looks("part(1)", 2).looks("part(0)", 1).looks("part(3)", 8);
        x.did("pass(1)").looks("part(1)", 10).looks("part(3)", 10).looks("part(2)", 4);
        x.refused("part(4)", -2).refused("part(-1)", -2).refused("part(12)", -2).refused("part(MIN)", -2);
        x.refused("part(MAX)", -2);
        new Script().refused("part(0)", -2);
    }

    private static void parts() {
        Script.says(22, "How many PARTS there are.");
        Script.says(0, "PARTS: WINDOWS between which there are WAYS.");
        new Script().looks("parts()", 0);
        Script.of("windows 3;").looks("parts()", 3);
        Script.of("windows 12;").looks("parts()", 12);
        Script x = Script.of(LINE).looks("parts()", 1).did("cut(1)").looks("parts()", 2).did("cut(211)");
        x.looks("parts()", 3).told("", 0).looks("parts()", 0);
        Script.of("windows 4;wash 0 2 1;string 1 3;").looks("parts()", 4).did("pass(1)").looks("parts()", 3);
    }
}
