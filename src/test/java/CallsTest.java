/** Promises 33 to 35: calls, echoes. */
public final class CallsTest {
    private CallsTest() {
    }

    public static void main(String[] args) {
        calls();
        callsThatWait();
        callsRefused();
        echo();
        explained();
        explainedRefused();
        Due.end();
    }

    private static void callsAre(TinCans x, int many, int breaths, int waited, int... begins) {
        Due.is(33, "calls(0, 0)", x.calls(0, 0), many);
        Due.is(33, "calls(0, 1)", x.calls(0, 1), breaths);
        Due.is(33, "calls(0, 2)", x.calls(0, 2), waited);
        for (int k = 0; k < begins.length; k++) {
            Due.is(33, "calls(0, " + (10 + k) + ")", x.calls(0, 10 + k), begins[k]);
        }
        if (begins.length < 40) {
            Due.is(33, "calls behind the row", x.calls(0, 10 + begins.length), -1);
        }
    }

    private static void calls() {
        TinCans x = Due.told("windows 6;heard 15;string 0 1;string 1 2;string 2 3;string 3 4;");
        x.numbers(0, 1, 0);
        callsAre(x, 0, 0, 0);
        // 0 to 4 is not heard; 5 has no strings
        Due.row(x, 0, 1, 4, 5, 85);
        callsAre(x, 0, 0, 0, -1, -1, -1);
        Due.row(x, 0, 1, 3, 4, 1, 43);
        // 0-1 at 0, 1-2 at 1, 2-3 at 2; then 0-1 at 1; 2-3 at 0
        callsAre(x, 3, 3, 1, 0, -1, 1, 0);
        // 1-3 would take 1-2 at 0 and 2-3 at 1, which are free
        Due.row(x, 0, 1, 3, 23, 22);
        callsAre(x, 3, 3, 2, 0, 0, 2);
        x.cut(22);
        callsAre(x, 0, 0, 0, -1, -1, -1);
    }

    private static void callsThatWait() {
        TinCans x = Due.told("windows 5;string 0 1;");
        x.numbers(0, 1, 40);
        for (int i = 0; i < 40; i++) {
            x.write(0, i, 1);
        }
        Due.is(33, "calls(0, 0)", x.calls(0, 0), 40);
        Due.is(33, "calls(0, 1)", x.calls(0, 1), 40);
        Due.is(33, "calls(0, 2)", x.calls(0, 2), 39 * 40 / 2);
        Due.is(33, "calls(0, 49)", x.calls(0, 49), 39);
        // twelve windows in a row: each call follows the one before by a breath
        StringBuilder line = new StringBuilder("windows 12;heard 999;");
        for (int w = 0; w < 11; w++) {
            line.append("string ").append(w).append(' ').append(w + 1).append(';');
        }
        x = Due.told(line.toString());
        x.numbers(0, 1, 40);
        for (int i = 0; i < 40; i++) {
            x.write(0, i, 11);
        }
        Due.is(33, "calls(0, 1)", x.calls(0, 1), 39 + 11);
        Due.is(33, "calls(0, 2)", x.calls(0, 2), 39 * 40 / 2);
        // a longer call that finds its first string free may have to wait for its second
        x = Due.told("windows 6;string 0 1;string 1 2;string 2 3;");
        Due.row(x, 0, 1, 22, 2, 3, 22, 22);
        // 1-2 at 0; 0-1 at 0, 1-2 at 1; 0-1 at 1, 1-2 at 2, 2-3 at 3; 1-2 at 3; at 4
        callsAre(x, 5, 5, 0 + 0 + 1 + 3 + 4, 0, 0, 1, 3, 4);
        // 1-2 is taken at 1, so 0 to 2 begins a breath later though 0-1 is free
        Due.row(x, 0, 1, 22, 22, 2);
        callsAre(x, 3, 3, 2, 0, 1, 1);
        Due.row(x, 0, 1, 22, 22, 22, 1, 2);
        callsAre(x, 5, 4, 5, 0, 1, 2, 0, 2);
        // a later call takes a gap that earlier ones left
        Due.row(x, 0, 1, 3, 43, 43, 43);
        callsAre(x, 4, 4, 0 + 0 + 1 + 3, 0, 0, 1, 3);
    }

    private static void callsRefused() {
        TinCans x = Due.told("windows 6;");
        Due.is(33, "calls(4, 0)", x.calls(4, 0), -2);
        Due.is(33, "calls(-1, 0)", x.calls(-1, 0), -2);
        Due.is(33, "calls(0, 3)", x.calls(0, 3), -2);
        Due.is(33, "calls(0, 9)", x.calls(0, 9), -2);
        Due.is(33, "calls(0, 50)", x.calls(0, 50), -2);
        Due.is(33, "calls(0, -1)", x.calls(0, -1), -2);
        Due.is(33, "calls(0, 0)", x.calls(0, 0), -6);
        Due.row(x, 0, 3, 1, 0);
        Due.is(33, "calls(0, 0)", x.calls(0, 0), -3);
        Due.is(33, "calls(0, 10)", x.calls(0, 10), -3);
        Due.row(x, 0, 3, 1, (1L << 40) + 1);
        Due.is(33, "calls(0, 0)", x.calls(0, 0), -3);
        Due.is(33, "calls(0, 50)", x.calls(0, 50), -2);
    }

    private static void echo() {
        // fewest strings, though the way with the least loss has more
        TinCans x = Due.told("windows 6;heard 1;wash 0 3 2;string 0 1;string 1 2;string 0 2 knots 9;string 2 4;");
        Due.is(34, "echo(0, 0)", x.echo(0, 0), 0);
        Due.is(34, "echo(0, 2)", x.echo(0, 2), 1);
        Due.is(34, "echo(0, 4)", x.echo(0, 4), 2);
        Due.is(34, "echo(4, 1)", x.echo(4, 1), 2);
        Due.is(34, "echo(0, 3)", x.echo(0, 3), -1);
        Due.is(34, "echo(3, 3)", x.echo(3, 3), 0);
        x.pass(1);
        Due.is(34, "echo(0, 4), 2-4 slack", x.echo(0, 4), -1);
        Due.is(34, "echo(0, 6)", x.echo(0, 6), -2);
        Due.is(34, "echo(6, 0)", x.echo(6, 0), -2);
        Due.is(34, "echo(-1, 0)", x.echo(-1, 0), -2);
        Due.is(34, "echo(6, 6)", x.echo(6, 6), -2);
    }

    private static void explainedIs(TinCans x, int from, int kind, int pair, long... told) {
        Due.row(x, 3, 3, told);
        String call = "explained from " + from + " of " + java.util.Arrays.toString(told) + ", ";
        Due.is(35, call + 0, x.explained(from, 3, 0), kind);
        Due.is(35, call + 1, x.explained(from, 3, 1), pair);
    }

    private static void explained() {
        TinCans x = Due.told("windows 6;cans 2 4;wash 0 3 2;string 0 1;string 1 2;string 2 3;string 0 2;string 2 4;");
        explainedIs(x, 0, 0, -1, 0, 1, 1, 2, 2, -1);
        explainedIs(x, 0, 1, 1, 0, 2, 1, 2, 2, -1);
        explainedIs(x, 0, 1, 2, 0, 1, 2, 3, 3, -1);
        explainedIs(x, 0, 1, 43, 0, 1, 1, -1, 2, -1);
        // 5 at 2 would want 2-5, but 2 has no can free, or 1-5, which crosses 0-2
        explainedIs(x, 0, 2, 4, 0, 1, 1, 2, 1, -1);
        explainedIs(x, 0, 2, 5, 0, 1, 1, 2, 2, 1);
        explainedIs(x, 0, 2, 85, 0, 1, 1, 2, 2, 3);
        explainedIs(x, 0, 3, -1, 0, 1, 1, 2, 2, 2);
        explainedIs(x, 0, 3, -1, 1, 1, 1, 2, 2, -1);
        explainedIs(x, 0, 3, -1, 0, 1, 1, 2, 2, -2);
        explainedIs(x, 0, 3, -1, (1L << 32), 1, 1, 2, 2, -1);
        Due.is(35, "count(1)", x.count(1), 5);
        // 5 has no string
        explainedIs(x, 5, 0, -1, -1, -1, -1, -1, -1, 0);
        x.pass(1);
        // 2-4 is slack now: it neither carries nor can be the string that wasn't there
        explainedIs(x, 0, 0, -1, 0, 1, 1, 2, -1, -1);
        explainedIs(x, 0, 2, 64, 0, 1, 1, 2, 3, -1);
    }

    private static void explainedRefused() {
        TinCans x = Due.told("windows 4;");
        Due.is(35, "explained(4, 0, 0)", x.explained(4, 0, 0), -2);
        Due.is(35, "explained(-1, 0, 0)", x.explained(-1, 0, 0), -2);
        Due.is(35, "explained(0, 4, 0)", x.explained(0, 4, 0), -2);
        Due.is(35, "explained(0, -1, 0)", x.explained(0, -1, 0), -2);
        Due.is(35, "explained(0, 0, 2)", x.explained(0, 0, 2), -2);
        Due.is(35, "explained(0, 0, -1)", x.explained(0, 0, -1), -2);
        Due.is(35, "explained(0, 0, 0)", x.explained(0, 0, 0), -6);
        x.numbers(0, 0, 3);
        Due.is(35, "explained(0, 0, 0) of 3", x.explained(0, 0, 0), -7);
        x.numbers(0, 0, 5);
        Due.is(35, "explained(0, 0, 0) of 5", x.explained(0, 0, 0), -7);
        x.numbers(0, 0, 4);
        Due.is(35, "explained(0, 0, 0) of 4", x.explained(0, 0, 0), 3);
    }
}
