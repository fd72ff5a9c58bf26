/** The boundary cases of promises 9 to 15, strings, hours, damp and gusts, a sentence each. */
public final class EdgesOfStringsTest {
    private EdgesOfStringsTest() {
    }

    public static void main(String[] args) {
        tie();
        tieRefused();
        cut();
        knot();
        tieAll();
        tieAllRefused();
        pass();
        passRefused();
        damp();
        gust();
        gustDraws();
        gustByHand();
        gustRefused();
        Script.end();
    }

    private static void tie() {
        Script.says(9, "A STRING is tied: how many there are then.");
        Script x = Script.of("windows 3;").due("tie(1, 0)", 1).due("tie(22, 9)", 2).due("tie(2, 1)", 3);
        x.due("pair(1, 1)", 0).due("pair(22, 1)", 9).due("pair(2, 1)", 1).due("count(1)", 3).due("count(7)", 6);
        // the full court of three
        x.refused("tie(1, 0)", -12).refused("tie(2, 0)", -12).refused("tie(22, 0)", -12);
        // tied in falling order, they are there by number
        x = Script.of("windows 12;cans 0 11;");
        for (int b = 11; b >= 1; b--) {
            x.due("tie(" + b + ", " + b % 10 + ")", 12 - b);
        }
        for (int b = 1; b <= 11; b++) {
            x.due("pair(" + b + ", 1)", b % 10).due("stay(" + (b - 1) + ")", b);
        }
        for (int a = 10; a >= 1; a--) {
            x.due("tie(" + (21 * a + 1) + ", 0)", 22 - a);
        }
        x.due("count(1)", 21).due("more()", 0);
    }

    private static void tieRefused() {
        Script.says(9, "-11 to -14; -3: knots aren't 0 to 9.");
        Script x = Script.of("windows 6;cans 5 0;string 0 2;").did("image(0)");
        x.refused("tie(43, 10)", -3).refused("tie(43, -1)", -3).refused("tie(43, MIN)", -3);
        x.refused("tie(43, MAX)", -3).due("tie(43, 9)", 2).due("tie(64, 0)", 3);
        // what the pair may not goes ahead of its knots
        x.refused("tie(21, 10)", -11).refused("tie(2, 10)", -12).refused("tie(5, -1)", -13).refused("tie(23, 10)", -14);
        x.refused("tie(21, 0)", -11).refused("tie(2, 0)", -12).refused("tie(5, 0)", -13).refused("tie(23, 0)", -14);
        x.refused("tie(MIN, 0)", -11).refused("tie(MAX, MAX)", -11);
        x.due("tie(23, 0)", -14).due("pair(23, 1)", -1).due("tie(2, 5)", -12).due("pair(2, 1)", 0).due("count(1)", 3);
    }

    private static void cut() {
        Script.says(10, "A STRING is cut: how many there are then. -2: there is none of that PAIR.");
        Script x = Script.of("windows 6;wash 0 2 1;string 0 1 knots 2;string 1 3 knots 3;string 3 4 knots 4;");
        x.refused("cut(2)", -2).refused("cut(20)", -2).refused("cut(0)", -2).refused("cut(-1)", -2);
        x.refused("cut(85)", -2).refused("cut(MIN)", -2).refused("cut(MAX)", -2);
        // a slack one, the first, the last
        x.due("cut(23)", 2).refused("cut(23)", -2).due("pair(1, 1)", 2).due("pair(64, 1)", 4);
        x.due("cut(1)", 1).due("pair(64, 1)", 4).due("cut(64)", 0).refused("cut(64)", -2).due("count(1)", 0);
        // its knots are gone with it, its cans are free again
        x.due("tie(64, 0)", 1).due("pair(64, 1)", 0);
        Script.of("windows 3;cans 0 1;string 0 1;").due("may(2)", 3).due("cut(1)", 0).due("may(2)", 0);
        // and it crosses nothing any more, be it the only one, the first or the last
        Script.of("windows 6;string 0 2;").due("may(23)", 4).due("cut(2)", 0).due("may(23)", 0);
        x = Script.of("windows 6;string 0 2;string 3 5;").due("may(23)", 4).due("may(84)", 1).due("may(44)", 4);
        x.due("cut(65)", 1).due("may(44)", 0).due("may(23)", 4).due("tie(65, 0)", 2).due("cut(2)", 1);
        x.due("may(44)", 4).due("may(23)", 0);
        new Script().refused("cut(1)", -2);
    }

    private static void knot() {
        Script.says(11, "One knot more comes into a STRING: how many it has then. -2; -4: it has 9.");
        Script x = Script.of("windows 6;string 0 1;string 1 2 knots 9;string 2 3 knots 8;");
        x.refused("knot(22)", -4).due("knot(43)", 9).refused("knot(43)", -4);
        for (int knots = 1; knots <= 9; knots++) {
            x.due("knot(1)", knots).due("pair(1, 2)", 5 + 3 * knots);
        }
        x.refused("knot(1)", -4).due("knot(1)", -4).due("pair(1, 1)", 9).due("pair(1, 2)", 32);
        x.refused("knot(2)", -2).refused("knot(0)", -2).refused("knot(20)", -2).refused("knot(-1)", -2);
        x.refused("knot(MIN)", -2).refused("knot(MAX)", -2).due("cut(1)", 2).refused("knot(1)", -2);
        new Script().refused("knot(1)", -2);
    }

    private static void tieAll() {
        Script.says(12, "PAIRS in a ROW are tied, without knots, those that MAY then: how many were.");
        // an empty row; a row of 40 zeros; a row of 40 likes
        Script x = Script.of("windows 6;string 0 3 knots 4;").row(0, 0).did("numbers(1, 3, 40)").did("numbers(2, 0, 40)");
        for (int i = 0; i < 40; i++) {
            x.did("write(2, " + i + ", 3)");
        }
        x.due("tieAll(0)", 0).due("tieAll(1)", 0).due("tieAll(2)", 0).due("count(1)", 1).due("pair(3, 1)", 4);
        // as it may then: what comes first takes the can, and shuts out what crosses it
        x = Script.of("windows 6;cans 0 1;").row(0, 1, 2, 1, 23, 5, 22, 22);
        x.due("tieAll(0)", 2).due("pair(2, 1)", 0).due("pair(1, 1)", -1).due("pair(23, 1)", -1).due("pair(22, 1)", 0);
        x = Script.of("windows 6;cans 0 1;").row(0, 1, 23, 5, 2, 1, 22, 22);
        x.due("tieAll(0)", 3).due("pair(23, 1)", 0).due("pair(5, 1)", 0).due("pair(2, 1)", -1).due("pair(22, 1)", 0);
        // numbers that are no pairs are passed by, though their lowest 32 bits are one
        x = Script.of("windows 6;").row(0, 3, 1L + (1L << 32), -1, 0, 20, 6, 105, Long.MAX_VALUE, Long.MIN_VALUE + 2, 5);
        x.due("tieAll(0)", 1).due("pair(5, 1)", 0).due("count(1)", 1).due("tieAll(0)", 0);
        // the row stays
        x.due("cut(5)", 0).due("tieAll(0)", 1);
        // slack ones are tied too
        Script.of("windows 4;wash 0 2 4095;").row(3, 2, 23).due("tieAll(3)", 1).due("count(6)", 1);
    }

    private static void tieAllRefused() {
        Script.says(12, "-2: the ROW; -6.");
        Script x = Script.of("windows 6;").row(1, 1, 1, 2);
        x.refused("tieAll(-1)", -2).refused("tieAll(4)", -2).refused("tieAll(MIN)", -2).refused("tieAll(MAX)", -2);
        x.refused("tieAll(0)", -6).refused("tieAll(2)", -6).refused("tieAll(3)", -6).due("count(1)", 0);
        x.due("tieAll(1)", 2);
    }

    private static void pass() {
        Script.says(0, "HOUR is 0 at first, 9999 at most.");
        Script x = new Script().due("count(2)", 0);
        for (int i = 1; i <= 101; i++) {
            x.due("pass(99)", 99 * i);
        }
        x.due("count(2)", 9999).due("pass(0)", 9999).refused("pass(1)", -5).refused("pass(99)", -5);
        Script.says(13, "So many HOURS go by (0 to 99): HOUR then. -3; -5: it would be above 9999.");
        x = Script.of("windows 6;");
        x.due("pass(0)", 0).due("pass(1)", 1).due("pass(99)", 100).refused("pass(100)", -3).refused("pass(-1)", -3);
        for (int i = 1; i <= 99; i++) {
            x.did("pass(99)");
        }
        // 9901: 98 more are the most
        x.due("count(2)", 9901).refused("pass(99)", -5).due("pass(97)", 9998).refused("pass(2)", -5);
        x.due("pass(0)", 9998).due("pass(1)", 9999).refused("pass(1)", -5).refused("pass(99)", -5);
        // what can't be goes ahead of what can't be now
        x.refused("pass(100)", -3).refused("pass(-1)", -3).due("pass(0)", 9999);
        x.told("windows 3;", 1).due("count(2)", 0).due("pass(99)", 99);
    }

    private static void passRefused() {
        Script.says(13, "-3; -5: it would be above 9999.");
        Script x = Script.of("windows 4;wash 0 2 2;string 1 3;").did("image(1)");
        x.refused("pass(-1)", -3).refused("pass(100)", -3).refused("pass(MIN)", -3).refused("pass(MAX)", -3);
        x.due("pass(100)", -3).due("pass(-1)", -3).due("count(2)", 0).due("pair(23, 3)", 0);
        x.due("pass(1)", 1).due("pair(23, 3)", 1);
    }

    private static void damp() {
        Script.says(14, "Damp is otherwise: what it was. -3: it isn't 0 to 20.");
        Script x = Script.of("windows 6;damp 6;string 0 1;").did("image(0)");
        x.refused("damp(21)", -3).refused("damp(-1)", -3).refused("damp(MIN)", -3).refused("damp(MAX)", -3);
        x.due("damp(20)", 6).due("pair(1, 2)", 15).due("damp(0)", 20).due("pair(1, 2)", 5).due("damp(0)", 0);
        x.due("damp(21)", -3).due("damp(-1)", -3).due("count(3)", 0).due("damp(7)", 0).due("count(3)", 7);
        x.told("windows 3;", 1).due("count(3)", 0);
        new Script().due("damp(20)", 0).due("count(3)", 20).refused("damp(21)", -3).due("damp(1)", 20);
    }

    private static void gust() {
        Script.says(0, "so many times (1 to 60): a is DRAW modulo WINDOWS, b is DRAW modulo WINDOWS");
        Script x = Script.of("windows 6;string 0 1 knots 5;").did("image(0)");
        x.refused("gust(1, 0)", -3).refused("gust(1, 61)", -3).refused("gust(1, -1)", -3).refused("gust(1, MIN)", -3);
        x.refused("gust(1, MAX)", -3);
        // as told, for the least and the most times, and over all the ints
        int[] seeds = {0, 1, -1, Integer.MIN_VALUE, Integer.MAX_VALUE, 4711, -77, 65535, 65536};
        for (int seed : seeds) {
            for (int windows : new int[] {3, 4, 7, 12}) {
                gustAsTold("windows " + windows + ";", windows, seed, 1);
                gustAsTold("windows " + windows + ";", windows, seed, 60);
            }
            gustAsTold("windows 5;cans 0 1;cans 3 0;wash 0 2 4095;string 0 2 knots 9;string 2 4;", 5, seed, 60);
        }
    }

    /** A gust beside what the document tells of it, by single strings. */
    private static void gustAsTold(String text, int windows, int seed, int times) {
        Script blown = Script.of(text);
        TinCans x = new TinCans();
        Due.tell(x, text);
        int state = seed;
        for (int i = 0; i < times; i++) {
            state = 1103515245 * state + 12345;
            int a = (state >>> 16) % windows;
            state = 1103515245 * state + 12345;
            int b = (state >>> 16) % windows;
            int pair = 20 * Math.min(a, b) + Math.max(a, b);
            if (a != b && x.pair(pair, 1) != -1) {
                x.cut(pair);
            } else if (a != b && x.may(pair) == 0) {
                state = 1103515245 * state + 12345;
                x.tie(pair, (state >>> 16) % 3);
            }
        }
        blown.due("gust(" + seed + ", " + times + ")", x.count(1));
        for (int a = 0; a < windows; a++) {
            for (int b = a + 1; b < windows; b++) {
                blown.due("pair(" + (20 * a + b) + ", 1)", x.pair(20 * a + b, 1));
            }
        }
    }

    private static void gustDraws() {
        Script.says(0, "A GUST by a SEED (x, an int; a DRAW: x becomes 1103515245 x + 12345, it is x >>> 16)");
        // by hand: 0 draws 0, 54236 (x is below 0 then), 42756; 2 draws 33676, 22817, 43007
        Script.of("windows 5;").due("gust(0, 1)", 1).due("pair(1, 1)", 0);
        Script.of("windows 5;").due("gust(2, 1)", 1).due("pair(22, 1)", 2);
        // the greatest int draws 15929, 37177, 42630; the least one 32768, 21468; -1: 48697, 4409, 9862
        Script.of("windows 5;").due("gust(MAX, 1)", 1).due("pair(44, 1)", 0);
        Script.of("windows 5;").due("gust(MIN, 1)", 0);
        Script.of("windows 5;").due("gust(-1, 1)", 1).due("pair(44, 1)", 1);
        Script.says(0, "if there is a STRING of them, it is cut");
        Script.of("windows 5;string 2 1 knots 8;").due("gust(2, 1)", 0);
        // a slack one too; then no knots are drawn: 43007 and 45682 are 2 and 2
        Script.of("windows 5;wash 0 2 1;string 1 2;string 1 3 knots 4;").due("gust(2, 2)", 1).due("pair(23, 1)", 4);
        Script.of("windows 5;wash 0 2 1;string 1 3 knots 4;").due("gust(1, 1)", 0);
        Script.says(0, "else if it MAY be tied, it is, with DRAW modulo 3 knots (a like b: nothing).");
        Script.of("windows 5;cans 1 0;").due("gust(2, 1)", 0).due("count(1)", 0);
        Script.of("windows 5;cans 2 0;").due("gust(2, 1)", 0).due("count(1)", 0);
        Script.of("windows 5;string 0 2;").due("gust(1, 1)", 1).due("pair(23, 1)", -1);
        Script.of("windows 7;string 0 1;").due("gust(0, 1)", 1).due("pair(1, 1)", 0);
    }

    private static void gustByHand() {
        Script.says(15, "A GUST: STRINGS then.");
        // 16838, 38526: 3 and 1
        Script.of("windows 5;string 0 1;string 1 2;").due("gust(1, 1)", 3).due("pair(23, 1)", 0);
        Script.of("windows 5;string 0 1;string 1 3;").due("gust(1, 1)", 1).due("pair(1, 1)", 0);
        // cut by the first time, tied again by the second: 42756 and 54885 are 1 and 0, 3498 knots
        Script.of("windows 5;string 0 1 knots 7;").due("gust(0, 2)", 1).due("pair(1, 1)", 0);
        // hours, damp and cans are not blown away
        Script.of("windows 7;damp 3;cans 2 1;").did("pass(5)").did("gust(9, 60)").due("count(2)", 5)
                .due("count(3)", 3).due("window(2, 0)", 1);
    }

    private static void gustRefused() {
        Script.says(15, "-5: no WINDOWS; -3: how many times.");
        Script x = new Script();
        x.refused("gust(1, 1)", -5).refused("gust(1, 60)", -5).refused("gust(1, 0)", -5).refused("gust(1, 61)", -5);
        x = Script.of("windows 3;string 0 1;");
        x.refused("gust(1, 0)", -3).refused("gust(MIN, 61)", -3).refused("gust(MAX, -1)", -3).due("count(1)", 1);
    }
}
