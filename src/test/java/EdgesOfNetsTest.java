/** The boundary cases of promises 29 to 35, nets, calls and echoes, a sentence each. */
public final class EdgesOfNetsTest {
    private EdgesOfNetsTest() {
    }

    public static void main(String[] args) {
        together();
        togetherOfSeveral();
        togetherRefused();
        shut();
        shutRefused();
        web();
        webAsked();
        webRefused();
        more();
        calls();
        callsWait();
        callsRefused();
        echo();
        told();
        explained();
        explainedOrder();
        explainedRefused();
        Script.end();
    }

    private static long[] likes(int many, long number) {
        long[] row = new long[many];
        java.util.Arrays.fill(row, number);
        return row;
    }

    private static void togetherIs(Script x, int many, int length, int places, long... pairs) {
        x.row(0, 1, pairs);
        x.looks("together(0, 0)", many).looks("together(0, 1)", length).looks("together(0, 2)", places);
    }

    private static void together() {
        Script.says(29, "TOGETHER, what 0: how many, 1: LENGTH, 2: places as bits.");
        Script x = Script.of("windows 6;");
        // an empty row, one place, all twelve
        togetherIs(x, 0, 0, 0);
        togetherIs(x, 1, 9, 1, 3);
        togetherIs(x, 12, 60, 4095, likes(12, 1));
        togetherIs(x, 1, 9, 1, 3, 24, 45);
        Script.says(0, "TOGETHER in a ROW of PAIRS (at most 12)");
        x.row(1, 1, likes(13, 1)).refused("together(1, 0)", -4).refused("together(1, 1)", -4);
        x.refused("together(1, 2)", -4).row(2, 1, likes(40, 1)).refused("together(2, 0)", -4);
        // twelve in a court of twelve, all in one window's way: 0-2 .. 0-10 beside those that cross them
        x = Script.of("windows 12;");
        togetherIs(x, 12, 2 * (11 + 20 + 27 + 32 + 35) + 36 + 11, 4095, 1, 2, 3, 4, 5, 6, 7, 8, 9, 10, 11, 22);
        togetherIs(x, 9, 264, 1022, 31, 2, 3, 4, 5, 6, 7, 8, 9, 10);
    }

    private static void togetherOfSeveral() {
        Script.says(0, "of sets of them of which no two CROSS (cans aside; like ones count each) that with the most, of"
                + " these that with the least LENGTH together, of these the least as bits by places.");
        // cans, strings, washing and hours aside
        Script x = Script.of("windows 6;cans 0 0;cans 2 0;wash 1 3 4095;string 1 5;");
        togetherIs(x, 1, 8, 1, 2);
        // like ones count each; the most go ahead of the least length
        togetherIs(x, 2, 16, 3, 2, 2);
        togetherIs(x, 2, 17, 6, 25, 3, 4);
        togetherIs(x, 2, 17, 5, 23, 2, 3);
        togetherIs(x, 3, 27, 14, 24, 3, 3, 3, 24);
        // of these the least length
        togetherIs(x, 1, 8, 2, 3, 25);
        togetherIs(x, 1, 8, 1, 25, 3);
        // of these the least as bits: the first places, not the last ones
        togetherIs(x, 1, 8, 1, 2, 23);
        togetherIs(x, 1, 8, 1, 23, 2);
        togetherIs(x, 2, 16, 3, 2, 2, 23, 23);
        togetherIs(x, 2, 16, 5, 2, 23, 2, 23);
        togetherIs(x, 2, 16, 6, 23, 2, 2, 23);
        togetherIs(x, 2, 16, 6, 2, 23, 23, 2);
        // lesser bits, but longer
        togetherIs(x, 2, 16, 9, 2, 24, 24, 2);
    }

    private static void togetherRefused() {
        Script.says(29, "-2: the ROW, what; -6; -3: a number that is no PAIR; -4: more than 12.");
        Script x = Script.of("windows 6;").row(0, 1, 1, 2, 22).did("image(1)");
        for (String row : new String[] {"-1", "4", "MIN", "MAX"}) {
            x.refused("together(" + row + ", 0)", -2).refused("together(" + row + ", 3)", -2);
        }
        for (String what : new String[] {"-1", "3", "MIN", "MAX"}) {
            // a row that is there, one that is missing
            x.refused("together(0, " + what + ")", -2).refused("together(1, " + what + ")", -2);
        }
        x.refused("together(1, 0)", -6).refused("together(2, 1)", -6).refused("together(3, 2)", -6);
        x.row(1, 1, 1, 2, 0).refused("together(1, 0)", -3).row(1, 1, 20, 1, 2).refused("together(1, 1)", -3);
        x.row(1, 1, 6).refused("together(1, 2)", -3).row(1, 1, 1, 105).refused("together(1, 0)", -3);
        x.row(1, 0, -1).refused("together(1, 0)", -3).row(1, 3, (1L << 32) + 1).refused("together(1, 0)", -3);
        x.row(1, 3, Long.MIN_VALUE + 1).refused("together(1, 0)", -3);
        // what is no pair goes ahead of what is too much, at whatever place; -2 ahead of both
        x.row(1, 1, likes(13, 1)).did("write(1, 12, 0)").refused("together(1, 0)", -3);
        x.did("write(1, 12, 1)").did("write(1, 0, 21)").refused("together(1, 0)", -3).refused("together(1, 3)", -2);
        x.did("write(1, 0, 1)").refused("together(1, 0)", -4).refused("together(1, 3)", -2);
        x.due("together(0, 0)", 3).due("together(0, 1)", 18);
        new Script().row(0, 1, 1).refused("together(0, 0)", -3);
        new Script().row(0, 1, likes(13, 1)).refused("together(0, 0)", -3);
    }

    private static void shut() {
        Script.says(0, "SHUT by a place: how many of the ROW CROSS it.");
        Script.says(30, "SHUT by a place of a ROW.");
        Script x = Script.of("windows 6;").row(0, 1, 3, 24, 45, 3, 1).row(1, 1, 2).row(2, 1, likes(40, 24));
        x.looks("shut(0, 0)", 2).looks("shut(0, 1)", 3).looks("shut(0, 3)", 2).looks("shut(0, 4)", 0);
        x.looks("shut(1, 0)", 0).looks("shut(2, 39)", 0).did("write(2, 39, 3)").looks("shut(2, 39)", 39);
        x.looks("shut(2, 0)", 1);
    }

    private static void shutRefused() {
        Script.says(30, "-2: the ROW; -6; -7: no such place; -3: a number that is no PAIR.");
        Script x = Script.of("windows 6;").row(0, 1, 3, 24).row(1, 1, 3, 0).row(2, 0);
        for (String row : new String[] {"-1", "4", "MIN", "MAX"}) {
            x.refused("shut(" + row + ", 0)", -2).refused("shut(" + row + ", -1)", -2);
        }
        x.refused("shut(3, 0)", -6).refused("shut(3, -1)", -6).refused("shut(3, 40)", -6);
        for (String place : new String[] {"-1", "2", "40", "MIN", "MAX"}) {
            // though there is a number that is no pair
            x.refused("shut(0, " + place + ")", -7).refused("shut(1, " + place + ")", -7);
        }
        x.refused("shut(2, 0)", -7).refused("shut(1, 0)", -3).refused("shut(1, 1)", -3);
        x.due("shut(0, 1)", 1).did("write(1, 1, 6)").refused("shut(1, 0)", -3);
        x.did("write(1, 1, 25)").due("shut(1, 0)", 1);
        new Script().row(0, 1, 1).refused("shut(0, 0)", -3).refused("shut(0, 1)", -7);
    }

    private static void web() {
        Script.says(0, "WEB: all WINDOWS joined by PAIRS (each MAY be, cans and STRINGS aside) of which no two CROSS,"
                + " none CROSSES a wash that hangs now, none more than needed: the least LENGTH together, and how many"
                + " such there are.");
        for (int windows = 3; windows <= 12; windows++) {
            Script x = Script.of("windows " + windows + ";");
            x.looks("web(0)", (windows - 1) * (windows - 1)).looks("web(1)", windows);
        }
        // cans and strings aside; washing never crosses a side
        Script x = Script.of("windows 6;cans 0 0;cans 1 0;cans 2 0;cans 3 0;cans 4 0;cans 5 0;damp 20;");
        x.looks("web(0)", 25).looks("web(1)", 6);
        x = Script.of("windows 6;wash 0 3 4095;wash 1 4 4095;wash 2 5 4095;wash 0 2 4095;string 0 3;string 1 2;");
        x.looks("web(0)", 25).looks("web(1)", 6).did("pass(1)").looks("web(0)", 25).looks("web(1)", 6);
    }

    private static void webAsked() {
        Script.says(31, "WEB, what 0: LENGTH, 1: how many.");
        Script x = Script.of("windows 3;").looks("web(0)", 4).looks("web(1)", 3);
        // there is always one: a court's neighbours are joined whatever hangs, whatever is tied
        Script.says(31, "NONE: there is none (what 1: 0)");
        x.told("windows 4;wash 0 2 4095;wash 1 3 4095;", 3).looks("web(0)", 9).looks("web(1)", 4);
        x = Script.of(Courts.fan()).looks("web(0)", 121).looks("web(1)", 12).did("gust(3, 60)").looks("web(1)", 12);
        x.did("pass(7)").looks("web(0)", 121);
    }

    private static void webRefused() {
        Script.says(31, "-2: what; -5: no WINDOWS.");
        Script x = Script.of("windows 3;");
        x.refused("web(2)", -2).refused("web(-1)", -2).refused("web(MIN)", -2).refused("web(MAX)", -2);
        x = new Script();
        x.refused("web(0)", -5).refused("web(1)", -5).refused("web(2)", -2).refused("web(-1)", -2);
    }

    private static void more() {
        Script.says(32, "If from now on the PAIR with the least number that MAY be were tied, again and again: how many"
                + " would be.");
        new Script().looks("more()", 0);
        Script.of("windows 3;").looks("more()", 3);
        Script.of("windows 3;string 0 1;").looks("more()", 2);
        Script.of("windows 3;string 0 1;string 1 2;string 0 2;").looks("more()", 0);
        Script.of("windows 3;cans 0 0;cans 1 0;cans 2 0;").looks("more()", 0);
        Script.of("windows 3;cans 0 0;").looks("more()", 1);
        // as many as there is room for: 9 rays of a fan beside its 12 sides, all by the least number first
        StringBuilder cans = new StringBuilder("windows 12;");
        for (int w = 0; w < 12; w++) {
            cans.append("cans ").append(w).append(" 11;");
        }
        Script x = Script.of(cans.toString()).looks("more()", 21).did("tie(31, 0)").looks("more()", 20);
        x.due("count(1)", 1).due("pair(1, 1)", -1);
        // slack ones are tied too
        Script.of("windows 4;wash 0 2 4095;wash 1 3 4095;").looks("more()", 5);
        // by the least number: 0-2 takes the last can of 2, so 1-2 and 2-3 don't come
        Script.of("windows 4;cans 2 1;").looks("more()", 3);
    }

    private static void callsAre(Script x, int many, int breaths, int waited, int... begins) {
        x.looks("calls(0, 0)", many).looks("calls(0, 1)", breaths).looks("calls(0, 2)", waited);
        for (int k = 0; k < begins.length; k++) {
            x.looks("calls(0, " + (10 + k) + ")", begins[k]);
        }
        if (begins.length < 40) {
            x.looks("calls(0, " + (10 + begins.length) + ")", -1).looks("calls(0, 49)", -1);
        }
    }

    private static void calls() {
        Script.says(33, "CALLS, what 0: how many calls, 1: BREATHS till all are done, 2: BREATHS they waited together,"
                + " 10 + k: the BREATH at which the call of place k begins (NONE: it is none, no such place).");
        Script x = Script.of("windows 6;heard 15;string 0 1;string 1 2;string 2 3;string 3 4;");
        x.row(0, 1);
        callsAre(x, 0, 0, 0);
        x.row(0, 1, 1);
        callsAre(x, 1, 1, 0, 0);
        Script.says(0, "a PAIR without a WAY that is HEARD is no call.");
        // 0 to 4 is 20, 0 to 5 has no way
        x.row(0, 1, 4, 3, 5);
        callsAre(x, 1, 3, 0, -1, 0, -1);
        x.did("damp(1)").row(0, 1, 3).looks("calls(0, 0)", 1).did("damp(2)").looks("calls(0, 0)", 0);
        // slack now
        x = Script.of("windows 4;wash 0 2 1;string 1 3;").row(0, 1, 23);
        callsAre(x, 0, 0, 0, -1);
        x.did("pass(1)");
        callsAre(x, 1, 1, 0, 0);
    }

    private static void callsWait() {
        Script.says(0, "CALLS in a ROW of PAIRS, one behind the other, from the lesser WINDOW to the other one: each"
                + " takes its BEST (now), one STRING a BREATH; it begins at the first BREATH from 0 on at which none of"
                + " its STRINGS is taken at the BREATH at which it would take it");
        Script x = Script.of("windows 6;string 0 1;string 1 2;string 2 3;");
        x.row(0, 1, 3, 1, 22, 43);
        // 0-3 takes 0-1 at 0, 1-2 at 1, 2-3 at 2: 0-1 is free at 1, 1-2 at 0, 2-3 at 0
        callsAre(x, 4, 3, 1, 0, 1, 0, 0);
        // 1-2 is taken at 0 and 1: 0-2 begins at 1, so that it takes it at 2
        x.row(0, 1, 22, 22, 2);
        callsAre(x, 3, 3, 2, 0, 1, 1);
        // from 0 on: a later call takes the gap an earlier one left
        x.row(0, 1, 3, 43, 43, 43);
        callsAre(x, 4, 4, 4, 0, 0, 1, 3);
        // fewer, and none, behind more
        x.row(0, 1, 1);
        callsAre(x, 1, 1, 0, 0);
        x.row(0, 1);
        callsAre(x, 0, 0, 0);
        // forty likes, over one string and over eleven
        x = Script.of("windows 3;string 0 1;").row(0, 1, likes(40, 1));
        x.looks("calls(0, 0)", 40).looks("calls(0, 1)", 40).looks("calls(0, 2)", 780).looks("calls(0, 49)", 39);
        x.looks("calls(0, 10)", 0).looks("calls(0, 30)", 20);
        x = Script.of(Courts.line(12) + "heard 999;").row(0, 1, likes(40, 11));
        x.looks("calls(0, 0)", 40).looks("calls(0, 1)", 50).looks("calls(0, 2)", 780).looks("calls(0, 49)", 39);
        callsAgainstOneAnother();
    }

    /**
     * A ring without 0-1: 1 to 11 goes up, 0 to 2 comes down the same strings. One that began at p meets
     * one that begins at p - 8, p - 6 .. p + 8, so twenty up keep the first one down till breath 28.
     */
    private static void callsAgainstOneAnother() {
        long[] row = likes(40, 31);
        java.util.Arrays.fill(row, 20, 40, 2);
        Script x = Script.of("windows 12;heard 999;string 0 11;" + Courts.sides(1, 11, "")).row(0, 1, row);
        x.looks("calls(0, 29)", 19).looks("calls(0, 30)", 28).looks("calls(0, 31)", 29).looks("calls(0, 49)", 47);
        x.looks("calls(0, 0)", 40).looks("calls(0, 1)", 57).looks("calls(0, 2)", 190 + 20 * 28 + 190);
    }

    private static void callsRefused() {
        Script.says(33, "-2: the ROW, what (10 to 49); -6; -3: a number that is no PAIR.");
        Script x = Script.of("windows 6;string 0 1;").row(0, 1, 1, 1).row(1, 3, 1, (1L << 32) + 1).row(2, 0, 0);
        for (String row : new String[] {"-1", "4", "MIN", "MAX"}) {
            x.refused("calls(" + row + ", 0)", -2).refused("calls(" + row + ", 3)", -2);
        }
        for (String what : new String[] {"-1", "3", "9", "50", "51", "MIN", "MAX"}) {
            // a row that is there, one with a number that is no pair, one that is missing
            x.refused("calls(0, " + what + ")", -2).refused("calls(1, " + what + ")", -2);
            x.refused("calls(3, " + what + ")", -2);
        }
        x.refused("calls(3, 0)", -6).refused("calls(3, 49)", -6);
        x.refused("calls(1, 0)", -3).refused("calls(1, 10)", -3).refused("calls(2, 2)", -3).refused("calls(2, 49)", -3);
        x.due("calls(0, 11)", 1).due("calls(0, 12)", -1).due("calls(0, 49)", -1).due("calls(0, 10)", 0);
        new Script().row(0, 1, 1).refused("calls(0, 0)", -3);
    }

    private static void echo() {
        Script.says(34, "The BREATH at which a WINDOW hears an ECHO from another one (0: herself). NONE: never; -2 (as a"
                + " number alone).");
        Script x = Script.of("windows 12;heard 1;" + Courts.sides(0, 11, " knots 9"));
        x.looks("echo(0, 11)", 11).looks("echo(11, 0)", 11).looks("echo(0, 0)", 0);
        x.looks("echo(11, 11)", 0).looks("echo(5, 6)", 1).did("cut(106)").looks("echo(0, 11)", -1);
        x.looks("echo(5, 6)", -1).looks("echo(6, 6)", 0);
        Script.says(0, "ECHOES from a WINDOW: who is so many STRINGS away by the shortest WAY hears at that BREATH.");
        // the fewest strings, though they lose more; round a slack one
        x = Script.of("windows 4;wash 0 2 1;string 1 3 knots 9;string 1 2;string 2 3;").looks("echo(1, 3)", 2);
        x.did("pass(1)").looks("echo(1, 3)", 1).looks("echo(3, 1)", 1).looks("echo(0, 1)", -1).looks("echo(0, 0)", 0);
        x.refused("echo(4, 0)", -2).refused("echo(0, 4)", -2).refused("echo(4, 4)", -2).refused("echo(-1, 0)", -2);
        x.refused("echo(0, -1)", -2).refused("echo(-1, -1)", -2).refused("echo(MIN, MIN)", -2);
        x.refused("echo(0, MAX)", -2);
        new Script().refused("echo(0, 0)", -2).refused("echo(0, 1)", -2);
    }

    private static void explainedIs(Script x, int from, int kind, int pair, long... told) {
        x.row(3, 3, told);
        x.looks("explained(" + from + ", 3, 0)", kind).looks("explained(" + from + ", 3, 1)", pair);
    }

    private static void told() {
        Script.says(0, "TOLD in a ROW of as many numbers as WINDOWS: when each heard it (NONE: never).");
        Script x = Script.of("windows 3;string 0 1;");
        explainedIs(x, 0, 0, -1, 0, 1, -1);
        // other numbers than NONE tell of no never, and the full width of a number counts
        explainedIs(x, 0, 3, -1, 0, 1, -2);
        explainedIs(x, 0, 3, -1, 0, 1, Long.MAX_VALUE);
        explainedIs(x, 0, 3, -1, 0, (1L << 32) + 1, -1);
        explainedIs(x, 0, 3, -1, 1L << 40, 1, -1);
        // whoever speaks heard it at once
        explainedIs(x, 0, 3, -1, 1, 1, -1);
        explainedIs(x, 0, 3, -1, -1, 1, -1);
        explainedIs(x, 2, 0, -1, -1, -1, 0);
        // cut to 8 bits 255 is NONE
        x.row(3, 0, 256, 257, 255).looks("explained(0, 3, 0)", 0).looks("explained(0, 3, 1)", -1);
        x.row(3, 1, 256, 257, 255).looks("explained(0, 3, 0)", 3);
    }

    private static void explained() {
        Script.says(35, "EXPLAINED of a ROW from a WINDOW, what 0: 0 to 3, 1: the STRING, PAIR (NONE: of 0, 3).");
        Script x = Script.of("windows 4;string 0 1;string 1 2;string 0 2;");
        explainedIs(x, 0, 0, -1, 0, 1, 1, -1);
        explainedIs(x, 0, 1, 1, 0, 2, 1, -1);
        explainedIs(x, 0, 1, 2, 0, 1, 2, -1);
        explainedIs(x, 0, 2, 3, 0, 1, 1, 1);
        explainedIs(x, 0, 2, 43, 0, 1, 1, 2);
        explainedIs(x, 0, 3, -1, 0, 1, 1, 3);
        explainedIs(x, 0, 3, -1, 0, -1, -1, -1);
        x.due("count(1)", 3);
    }

    private static void explainedOrder() {
        Script.says(0, "EXPLAINED: by STRINGS as they are (0); else by the first STRING that isn't SLACK, if it weren't"
                + " there (1); else by the first PAIR that MAY be tied and would not be SLACK, if it were (2); else not"
                + " (3).");
        // without 2-3 it would be the same from 0: as they are goes ahead
        Script x = Script.of("windows 6;string 0 1;string 1 2;string 2 3;string 3 4;string 4 5;string 5 0;");
        explainedIs(x, 0, 0, -1, 0, 1, 2, 3, 2, 1);
        explainedIs(x, 0, 1, 22, 0, 1, 4, 3, 2, 1);
        explainedIs(x, 0, 1, 1, 0, 5, 4, 3, 2, 1);
        explainedIs(x, 0, 1, 5, 0, 1, 2, 3, 4, 5);
        // the first pair of two that would do, 1-3 and 3-5; where 1 has no can free, the other one
        explainedIs(Script.of("windows 6;string 0 1;string 0 5;"), 0, 2, 23, 0, 1, -1, 2, -1, 1);
        explainedIs(Script.of("windows 6;cans 1 1;string 0 1;string 0 5;"), 0, 2, 65, 0, 1, -1, 2, -1, 1);
        explainedIs(Script.of("windows 6;wash 0 2 1;string 0 1;string 0 5;"), 0, 2, 65, 0, 1, -1, 2, -1, 1);
        explainedIs(Script.of("windows 6;cans 3 0;string 0 1;string 0 5;"), 0, 3, -1, 0, 1, -1, 2, -1, 1);
        // a slack string is not there, can't be taken away, and its pair can't be tied again
        x = Script.of("windows 4;wash 0 2 1;string 1 3;string 1 2;string 2 3;");
        explainedIs(x, 1, 0, -1, -1, 0, 1, 2);
        explainedIs(x, 1, 3, -1, -1, 0, 1, 1);
        x.did("pass(1)");
        explainedIs(x, 1, 0, -1, -1, 0, 1, 1);
        explainedIs(x, 1, 1, 23, -1, 0, 1, 2);
        // two strings less, two pairs more are none
        x = Script.of("windows 4;string 0 1;string 0 2;");
        explainedIs(x, 0, 3, -1, 0, -1, -1, -1);
        explainedIs(Script.of("windows 4;"), 0, 3, -1, 0, 1, 1, -1);
        explainedIs(Script.of("windows 4;"), 0, 2, 1, 0, 1, -1, -1);
    }

    private static void explainedRefused() {
        Script.says(35, "-2: the WINDOW, ROW, what; -6; -7: it has not as many numbers as there are WINDOWS.");
        Script x = Script.of("windows 4;string 0 1;");
        x.row(0, 0, 0, 1, -1).row(1, 0, 0, 1, -1, -1, -1).row(2, 0, 0, 1, -1, -1);
        for (String none : new String[] {"-1", "4", "MIN", "MAX"}) {
            // a window, then a row that is none, with rows that are there, too short, missing
            x.refused("explained(" + none + ", 2, 0)", -2).refused("explained(" + none + ", 0, 0)", -2);
            x.refused("explained(" + none + ", 3, 1)", -2).refused("explained(0, " + none + ", 0)", -2);
        }
        for (String what : new String[] {"-1", "2", "MIN", "MAX"}) {
            x.refused("explained(0, 2, " + what + ")", -2).refused("explained(0, 1, " + what + ")", -2);
            x.refused("explained(0, 3, " + what + ")", -2);
        }
        x.refused("explained(0, 3, 0)", -6).refused("explained(0, 3, 1)", -6);
        x.refused("explained(0, 0, 0)", -7).refused("explained(0, 0, 1)", -7).refused("explained(0, 1, 0)", -7);
        x.row(3, 0).refused("explained(0, 3, 0)", -7).did("numbers(3, 2, 40)").refused("explained(3, 3, 1)", -7);
        x.due("explained(0, 2, 0)", 0).told("windows 5;string 0 1;", 2).refused("explained(0, 2, 0)", -7);
        x.due("explained(0, 1, 0)", 0);
        new Script().row(0, 0).refused("explained(0, 0, 0)", -2).refused("explained(0, 1, 0)", -2);
    }
}
