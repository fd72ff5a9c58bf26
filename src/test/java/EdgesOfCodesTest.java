/**
 * Refused calls, and calls that only look, in a court with all there can be: strings, washing, hours, rows of
 * all sorts and one that is missing, an image and one that is none, bytes on the tape, a fault.
 */
public final class EdgesOfCodesTest {
    private EdgesOfCodesTest() {
    }

    public static void main(String[] args) {
        none();
        ofTheCourt();
        ofStrings();
        ofWays();
        ofNets();
        ofCalls();
        ofRows();
        looking();
        withoutWindows();
        Script.end();
    }

    private static Script busy() {
        Script x = Script.of("windows 5;damp 4;heard 70;string 0 1 knots 9;string 1 3;").did("pass(4)").did("image(0)");
        x.told("windows 6;damp 30;", -33);
        x.told("windows 6;cans 0 2;cans 5 1;damp 7;heard 20;wash 0 3 1;wash 5 2 4094;string 0 1;string 1 2 knots 1;"
                + "string 2 4;string 0 4 knots 9;", 11);
        x.told("windows 6;;", -32).did("damp(11)").did("pass(37)").did("knot(1)");
        x.row(0, 1, 1, 2, 44, 25).row(1, 0, 0, 1, 2, -1, 1, -1).row(2, 3, 1, 2, 3, 4, 5, 22, 23, 24, 25, 43, 44, 45, 64);
        return x.feed("windows 9;damp 13;");
    }

    private static void refused(Script x, int code, String... calls) {
        for (String call : calls) {
            x.refused(call, code);
        }
    }

    private static void none() {
        Script.says(0, "`NONE = -1`: There is none.");
        Script x = Script.of("windows 3;").due("brace()", 1).due("pair(1, 1)", TinCans.NONE).due("fault(1)", TinCans.NONE);
        x.due("stay(" + TinCans.NONE + ")", 0).due("count(10)", -1).due("echo(0, 1)", TinCans.NONE);
    }

    private static void ofTheCourt() {
        Script.says(0, "Refused calls answer by a code and change nothing");
        Script x = busy().due("count(8)", 20).due("count(2)", 37).due("fault(0)", 2).due("fault(1)", 10);
        refused(x, -3, "court(21)", "court(-1)", "court(900)", "court(MAX)", "court(MIN)");
        refused(x, -2, "window(6, 0)", "window(0, 4)", "cross(1, 0)", "cross(0, 1)", "pair(0, 0)", "pair(1, 4)");
        x.due("court(18)", 2).due("count(0)", 9).due("fault(0)", 0);
    }

    private static void ofStrings() {
        Script.says(0, "-11 to -14 it MAY not be, as told (1 to 4)");
        Script x = busy();
        refused(x, -11, "tie(0, 0)", "tie(6, 0)", "tie(20, 0)", "tie(-1, 99)");
        refused(x, -12, "tie(1, 0)", "tie(22, 9)", "tie(4, -1)");
        refused(x, -13, "tie(2, 0)", "tie(3, 0)", "tie(5, 10)");
        refused(x, -14, "tie(23, 0)", "tie(65, 10)");
        Script.says(0, "-3 a number can't be; -4 too many; -5 it can't be now");
        refused(x, -3, "tie(43, 10)", "tie(43, -1)", "pass(100)", "pass(-1)", "damp(21)", "damp(-1)", "gust(1, 0)",
                "gust(1, 61)");
        refused(x, -2, "cut(2)", "cut(0)", "knot(2)", "knot(0)", "tieAll(4)", "tieAll(-1)");
        refused(x, -4, "knot(4)");
        refused(x, -6, "tieAll(3)");
        for (int i = 0; i < 100; i++) {
            x.did("pass(99)");
        }
        x.due("count(2)", 9937).refused("pass(63)", -5).due("pass(62)", 9999).refused("pass(1)", -5);
    }

    private static void ofWays() {
        Script.says(0, "-2 there is none such");
        Script x = busy();
        refused(x, -2, "best(0, 6, 0, 0)", "best(0, 0, 0, 0)", "best(0, 1, 0, 2)", "best(0, 1, 0, 22)", "hears(6)",
                "hears(-1)", "overhears(0, 0)", "overhears(0, 6)", "needs(1, 1)", "needs(-1, 0)", "openHours(0)",
                "part(6)", "both(0, 1)", "both(1, 20)", "renewed(0, 0)", "renewed(1, 2)", "exchange(3)", "exchange(-1)",
                "missing(0, 0, 0)", "missing(0, 6, 0)", "missing(0, 1, 3)");
        Script.says(0, "-3 a number can't be");
        refused(x, -3, "best(0, 1, 1, 0)", "best(0, 1, 64, 0)", "best(0, 1, -1, 0)", "both(1, 1)", "both(1, 22)");
        Script.says(0, "-5 it can't be now");
        refused(x, -5, "renewed(3, 0)", "renewed(3, 1)");
    }

    private static void ofNets() {
        Script.says(0, "-6 a ROW OF NUMBERS is MISSING; -7 it has no such number");
        Script x = busy();
        refused(x, -2, "together(4, 0)", "together(0, 3)", "together(3, 3)", "shut(-1, 0)", "web(2)", "web(-1)");
        refused(x, -6, "together(3, 0)", "shut(3, 0)");
        refused(x, -7, "shut(0, 4)", "shut(0, -1)", "shut(1, 6)", "shut(2, 13)");
        refused(x, -3, "together(1, 0)", "shut(1, 0)");
        refused(x, -4, "together(2, 0)", "together(2, 1)", "together(2, 2)");
    }

    private static void ofCalls() {
        Script.says(0, "-6 a ROW OF NUMBERS is MISSING; -7 it has no such number");
        Script x = busy();
        refused(x, -2, "calls(4, 0)", "calls(0, 3)", "calls(0, 9)", "calls(0, 50)", "echo(6, 0)", "echo(0, -1)",
                "explained(6, 1, 0)", "explained(0, 4, 0)", "explained(0, 1, 2)");
        refused(x, -6, "calls(3, 0)", "explained(0, 3, 0)");
        refused(x, -3, "calls(1, 0)", "calls(1, 10)");
        refused(x, -7, "explained(0, 0, 0)", "explained(0, 2, 1)");
    }

    private static void ofRows() {
        Script.says(0, "Refused calls answer by a code and change nothing");
        Script x = busy();
        refused(x, -2, "numbers(4, 0, 1)", "numbers(-1, 0, 1)", "numbers(0, 4, 1)", "numbers(0, -1, 1)", "write(4, 0, 1)",
                "write(-1, 0, 1)", "copy(4)", "copy(-1)", "image(2)", "image(-1)", "restore(2)", "restore(-1)");
        refused(x, -3, "numbers(0, 0, 41)", "numbers(1, 3, -1)", "numbers(2, 0, MAX)", "numbers(3, 0, 41)");
        refused(x, -6, "write(3, 0, 1)", "copy(3)");
        refused(x, -7, "write(0, 4, 3)", "write(0, -1, 3)", "write(1, 6, 3)", "write(2, 13, 3)");
        refused(x, -5, "restore(1)");
        // the tape is full
        for (int i = 1; i < 45; i++) {
            x.due("feed(0, 0, 0, 0, 0)", 20 + 20 * i);
        }
        x.refused("feed(0, 0, 0, 0, 0)", -5).refused("feed(1, 2, 3, 4, 5)", -5).due("court(18)", 2);
    }

    /** At hour 37, 1 of twelve, the wash from 5 to 2 hangs, and 0-4 crosses it; damp is 11. */
    private static void looking() {
        Script.says(0, "Nothing is promised beyond the answers and state changes described above");
        Script x = busy();
        x.looks("window(0, 2)", 1).looks("window(2, 3)", 2 + 16).looks("cross(44, 3)", 1).looks("pair(22, 2)", 13);
        x.looks("may(43)", 0).looks("best(1, 4, 0, 0)", 29).looks("best(1, 4, 0, 11)", 2).looks("hears(2)", 2 + 16);
        x.looks("overhears(1, 4)", 4).looks("needs(1, 4)", -1).looks("openHours(44)", 4094).looks("part(1)", 23);
        x.looks("parts()", 3).looks("stay(-1)", 3).looks("stay(1)", 22).looks("both(22, 4)", -1).looks("brace()", 43);
        x.looks("renewed(24, 0)", 3).looks("renewed(24, 1)", 22).looks("exchange(0)", 1).looks("exchange(2)", 26);
        x.looks("missing(1, 3, 1)", 43).looks("together(0, 0)", 3).looks("together(0, 2)", 7).looks("shut(0, 3)", 1);
        x.looks("web(0)", 25).looks("web(1)", 6).looks("more()", 2).looks("calls(0, 0)", 2).looks("echo(1, 4)", 2);
        x.looks("explained(0, 1, 0)", 3).looks("explained(0, 1, 1)", -1).looks("count(6)", 1).looks("fault(1)", 10);
    }

    private static void withoutWindows() {
        Script.says(0, "Refused calls answer by a code and change nothing");
        Script x = new Script().row(0, 1, 1).row(1, 0).did("damp(3)").did("pass(5)").feed("windows 3;string 0 1");
        refused(x, -5, "gust(1, 1)", "web(0)", "web(1)", "restore(0)", "restore(1)");
        refused(x, -11, "tie(1, 0)", "tie(0, 0)");
        refused(x, -2, "window(0, 0)", "cross(1, 1)", "pair(1, 0)", "cut(1)", "knot(1)", "best(0, 1, 0, 0)", "hears(0)",
                "overhears(0, 1)", "needs(0, 1)", "openHours(1)", "part(0)", "both(1, 43)", "renewed(1, 0)",
                "missing(0, 1, 0)", "echo(0, 0)", "explained(0, 1, 0)", "web(2)", "exchange(3)");
        refused(x, -3, "together(0, 0)", "shut(0, 0)", "calls(0, 0)", "court(21)", "pass(100)", "damp(21)");
        x.due("court(10)", 1).due("count(0)", 3).due("count(2)", 0).due("count(3)", 0);
    }
}
